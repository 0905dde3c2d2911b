def M_image_28 (k28 : Int32 → Mem → Option (Int32 × Mem)) (x1 : Int32) (μ : Mem) : Option (Int32 × Mem) :=
  if x1 < 6 then (
    chk (inb x1 6) <|
    chk (inb x1 6) <|
    nm (up μ 12 0 (ix x1) (rd μ 6 0 (ix x1))) fun μ8 =>
    nm (x1 + 1) fun a9 =>
    k28 a9 μ8)
  else (
    nm (up μ 0 0 42 (rd μ 0 0 12)) fun μ2 =>
    nm (up μ2 0 0 43 (rd μ2 0 0 7)) fun μ3 =>
    nm (up μ3 0 0 44 (rd μ3 0 0 8)) fun μ4 =>
    nm (up μ4 0 0 45 (rd μ4 0 0 4)) fun μ5 =>
    some (rd μ5 0 0 12, μ5))
set_option maxHeartbeats 4000000 in
set_option maxRecDepth 100000 in
theorem M_image_28_ok {φ : Fr} {d : Nat} (F : Fx φ ΩB cX10_image RX10 2 (some .int)) (hd : 1 ≤ d) {k28 : Int32 → Mem → Option (Int32 × Mem)} (hk28 : ∀ (x1 : Int32) (μ : Mem) (r : Int32) (μ' : Mem), k28 x1 μ = some (r, μ') → V φ ΩB 2 d 28 [some (rf φ 0 0), some (.int x1)] [] μ (some (.int r), μ')) {x1 : Int32} {μ : Mem} {r : Int32} {μ' : Mem} (h : M_image_28 k28 x1 μ = some (r, μ')) : V φ ΩB 2 d 28 [some (rf φ 0 0), some (.int x1)] [] μ (some (.int r), μ') := by
  unfold M_image_28 at h
  refine V.iload_n F dX10_image_28 rfl rfl ?_
  refine V.bipush (v := 6) F dX10_image_29 (by decide) ?_
  refine V.icmp_ge (tgt := 52) F dX10_image_31 (by decide) (fun c1 => ?_) (fun c1 => ?_)
  · have h := f_out h c1
    refine V.rload_n F dX10_image_52 rfl rfl ?_
    refine V.rload_n F dX10_image_53 rfl rfl ?_
    refine gf_RX10_76 F dX10_image_54 ?_
    obtain ⟨μ2, eμ2, h⟩ := nm_out h
    refine pf_RX10_53 F eμ2 dX10_image_57 ?_
    refine V.rload_n F dX10_image_60 rfl rfl ?_
    refine V.rload_n F dX10_image_61 rfl rfl ?_
    refine gf_RX10_101 F dX10_image_62 ?_
    obtain ⟨μ3, eμ3, h⟩ := nm_out h
    refine pf_RX10_352 F eμ3 dX10_image_65 ?_
    refine V.rload_n F dX10_image_68 rfl rfl ?_
    refine V.rload_n F dX10_image_69 rfl rfl ?_
    refine gf_RX10_23 F dX10_image_70 ?_
    obtain ⟨μ4, eμ4, h⟩ := nm_out h
    refine pf_RX10_355 F eμ4 dX10_image_73 ?_
    refine V.rload_n F dX10_image_76 rfl rfl ?_
    refine V.rload_n F dX10_image_77 rfl rfl ?_
    refine gf_RX10_104 F dX10_image_78 ?_
    obtain ⟨μ5, eμ5, h⟩ := nm_out h
    refine pf_RX10_358 F eμ5 dX10_image_81 ?_
    refine V.rload_n F dX10_image_84 rfl rfl ?_
    refine gf_RX10_76 F dX10_image_85 ?_
    obtain ⟨rfl, rfl⟩ := r2_out h
    exact V.iret F dX10_image_88
  · have h := t_out h c1
    refine V.rload_n F dX10_image_34 rfl rfl ?_
    refine gf_RX10_50 F dX10_image_35 ?_
    refine V.iload_n F dX10_image_38 rfl rfl ?_
    refine V.rload_n F dX10_image_39 rfl rfl ?_
    refine gf_RX10_32 F dX10_image_40 ?_
    refine V.iload_n F dX10_image_43 rfl rfl ?_
    obtain ⟨c6, h⟩ := chk_out h
    refine V.iald (t0 := 0) (n := 6) F mB6 rfl rfl c6 dX10_image_44 ?_
    obtain ⟨c7, h⟩ := chk_out h
    obtain ⟨μ8, eμ8, h⟩ := nm_out h
    refine V.iast (t0 := 0) (n := 6) F mB12 (fun _ => rfl) rfl c7 eμ8 dX10_image_45 ?_
    obtain ⟨a9, ea9, h⟩ := nm_out h
    refine V.iinc (z := 1) (L' := [some (rf φ 0 0), some (.int a9)]) F dX10_image_46 rfl (by decide) ea9 (by decide) rfl rfl ?_
    refine V.goto (tgt := 28) F dX10_image_49 (by decide) ?_
    exact hk28 _ _ _ _ h
def M_image_28L : Nat → Int32 → Mem → Option (Int32 × Mem)
  | 0 => fun _ _ => none
  | n + 1 => M_image_28 (M_image_28L n)
set_option maxHeartbeats 4000000 in
set_option maxRecDepth 100000 in
theorem M_image_28L_ok {φ : Fr} {d : Nat} (F : Fx φ ΩB cX10_image RX10 2 (some .int)) (hd : 1 ≤ d) : ∀ (n : Nat) (x1 : Int32) (μ : Mem) (r : Int32) (μ' : Mem), M_image_28L n x1 μ = some (r, μ') → V φ ΩB 2 d 28 [some (rf φ 0 0), some (.int x1)] [] μ (some (.int r), μ') := by
  intro n
  induction n with
  | zero => intro x1 μ r μ' h; cases h
  | succ n ih => intro x1 μ r μ' h; exact M_image_28_ok F hd ih h
def M_image_2 (k2 : Int32 → Mem → Option (Int32 × Mem)) (x1 : Int32) (μ : Mem) : Option (Int32 × Mem) :=
  if x1 < 18 then (
    chk (inb x1 18) <|
    chk (inb x1 18) <|
    nm (up μ 11 0 (ix x1) (rd μ 5 0 (ix x1))) fun μ4 =>
    nm (x1 + 1) fun a5 =>
    k2 a5 μ4)
  else (
    M_image_28L 1000 0 μ)
set_option maxHeartbeats 4000000 in
set_option maxRecDepth 100000 in
theorem M_image_2_ok {φ : Fr} {d : Nat} (F : Fx φ ΩB cX10_image RX10 2 (some .int)) (hd : 1 ≤ d) {k2 : Int32 → Mem → Option (Int32 × Mem)} (hk2 : ∀ (x1 : Int32) (μ : Mem) (r : Int32) (μ' : Mem), k2 x1 μ = some (r, μ') → V φ ΩB 2 d 2 [some (rf φ 0 0), some (.int x1)] [] μ (some (.int r), μ')) {x1 : Int32} {μ : Mem} {r : Int32} {μ' : Mem} (h : M_image_2 k2 x1 μ = some (r, μ')) : V φ ΩB 2 d 2 [some (rf φ 0 0), some (.int x1)] [] μ (some (.int r), μ') := by
  unfold M_image_2 at h
  refine V.iload_n F dX10_image_2 rfl rfl ?_
  refine V.bipush (v := 18) F dX10_image_3 (by decide) ?_
  refine V.icmp_ge (tgt := 26) F dX10_image_5 (by decide) (fun c1 => ?_) (fun c1 => ?_)
  · have h := f_out h c1
    refine V.iconst (v := 0) F dX10_image_26 (by decide) ?_
    refine V.istore_n (L' := [some (rf φ 0 0), some (.int 0)]) F dX10_image_27 rfl (by decide) rfl rfl rfl ?_
    exact M_image_28L_ok F hd 1000 _ _ _ _ h
  · have h := t_out h c1
    refine V.rload_n F dX10_image_8 rfl rfl ?_
    refine gf_RX10_47 F dX10_image_9 ?_
    refine V.iload_n F dX10_image_12 rfl rfl ?_
    refine V.rload_n F dX10_image_13 rfl rfl ?_
    refine gf_RX10_29 F dX10_image_14 ?_
    refine V.iload_n F dX10_image_17 rfl rfl ?_
    obtain ⟨c2, h⟩ := chk_out h
    refine V.iald (t0 := 0) (n := 18) F mB5 rfl rfl c2 dX10_image_18 ?_
    obtain ⟨c3, h⟩ := chk_out h
    obtain ⟨μ4, eμ4, h⟩ := nm_out h
    refine V.iast (t0 := 0) (n := 18) F mB11 (fun _ => rfl) rfl c3 eμ4 dX10_image_19 ?_
    obtain ⟨a5, ea5, h⟩ := nm_out h
    refine V.iinc (z := 1) (L' := [some (rf φ 0 0), some (.int a5)]) F dX10_image_20 rfl (by decide) ea5 (by decide) rfl rfl ?_
    refine V.goto (tgt := 2) F dX10_image_23 (by decide) ?_
    exact hk2 _ _ _ _ h
def M_image_2L : Nat → Int32 → Mem → Option (Int32 × Mem)
  | 0 => fun _ _ => none
  | n + 1 => M_image_2 (M_image_2L n)
set_option maxHeartbeats 4000000 in
set_option maxRecDepth 100000 in
theorem M_image_2L_ok {φ : Fr} {d : Nat} (F : Fx φ ΩB cX10_image RX10 2 (some .int)) (hd : 1 ≤ d) : ∀ (n : Nat) (x1 : Int32) (μ : Mem) (r : Int32) (μ' : Mem), M_image_2L n x1 μ = some (r, μ') → V φ ΩB 2 d 2 [some (rf φ 0 0), some (.int x1)] [] μ (some (.int r), μ') := by
  intro n
  induction n with
  | zero => intro x1 μ r μ' h; cases h
  | succ n ih => intro x1 μ r μ' h; exact M_image_2_ok F hd ih h
def M_image (μ : Mem) : Option (Int32 × Mem) :=
  M_image_2L 1000 0 μ
set_option maxHeartbeats 4000000 in
set_option maxRecDepth 100000 in
theorem M_image_ok {φ : Fr} {d : Nat} (F : Fx φ ΩB cX10_image RX10 2 (some .int)) (hd : 1 ≤ d) {μ : Mem} {r : Int32} {μ' : Mem} (h : M_image μ = some (r, μ')) : V φ ΩB 2 d 0 [some (rf φ 0 0), none] [] μ (some (.int r), μ') := by
  unfold M_image at h
  refine V.iconst (v := 0) F dX10_image_0 (by decide) ?_
  refine V.istore_n (L' := [some (rf φ 0 0), some (.int 0)]) F dX10_image_1 rfl (by decide) rfl rfl rfl ?_
  exact M_image_2L_ok F hd 1000 _ _ _ _ h
set_option maxHeartbeats 4000000 in
set_option maxRecDepth 100000 in
theorem M_image_ct {l : Launch} {G : Glo} {μ : Mem} {r : Int32} {μ' : Mem} (h : M_image μ = some (r, μ')) : Ct l ΩB G 1 yX10_image cX10_image 2 (some .int) [.ref (G.1 0 0)] μ (some (.int r), μ') := by
  refine Ct.intro (by decide) (Nat.le_of_ble_eq_true rfl) ?_
  intro φ hl hG F
  subst hl; subst hG
  exact M_image_ok F (Nat.le_refl _) h
def M_back_39 (k39 : Int32 → Mem → Option (Int32 × Mem)) (x1 : Int32) (μ : Mem) : Option (Int32 × Mem) :=
  if x1 < 6 then (
    chk (inb x1 6) <|
    chk (inb x1 6) <|
    nm (up μ 6 0 (ix x1) (rd μ 12 0 (ix x1))) fun μ8 =>
    nm (x1 + 1) fun a9 =>
    k39 a9 μ8)
  else (
    nm (up μ 0 0 12 (rd μ 0 0 42)) fun μ2 =>
    nm (up μ2 0 0 7 (rd μ2 0 0 43)) fun μ3 =>
    nm (up μ3 0 0 8 (rd μ3 0 0 44)) fun μ4 =>
    nm (up μ4 0 0 4 (rd μ4 0 0 45)) fun μ5 =>
    some (rd μ5 0 0 12, μ5))
set_option maxHeartbeats 4000000 in
set_option maxRecDepth 100000 in
theorem M_back_39_ok {φ : Fr} {d : Nat} (F : Fx φ ΩB cX10_back RX10 2 (some .int)) (hd : 1 ≤ d) {k39 : Int32 → Mem → Option (Int32 × Mem)} (hk39 : ∀ (x1 : Int32) (μ : Mem) (r : Int32) (μ' : Mem), k39 x1 μ = some (r, μ') → V φ ΩB 2 d 39 [some (rf φ 0 0), some (.int x1)] [] μ (some (.int r), μ')) {x1 : Int32} {μ : Mem} {r : Int32} {μ' : Mem} (h : M_back_39 k39 x1 μ = some (r, μ')) : V φ ΩB 2 d 39 [some (rf φ 0 0), some (.int x1)] [] μ (some (.int r), μ') := by
  unfold M_back_39 at h
  refine V.iload_n F dX10_back_39 rfl rfl ?_
  refine V.bipush (v := 6) F dX10_back_40 (by decide) ?_
  refine V.icmp_ge (tgt := 63) F dX10_back_42 (by decide) (fun c1 => ?_) (fun c1 => ?_)
  · have h := f_out h c1
    refine V.rload_n F dX10_back_63 rfl rfl ?_
    refine V.rload_n F dX10_back_64 rfl rfl ?_
    refine gf_RX10_53 F dX10_back_65 ?_
    obtain ⟨μ2, eμ2, h⟩ := nm_out h
    refine pf_RX10_76 F eμ2 dX10_back_68 ?_
    refine V.rload_n F dX10_back_71 rfl rfl ?_
    refine V.rload_n F dX10_back_72 rfl rfl ?_
    refine gf_RX10_352 F dX10_back_73 ?_
    obtain ⟨μ3, eμ3, h⟩ := nm_out h
    refine pf_RX10_101 F eμ3 dX10_back_76 ?_
    refine V.rload_n F dX10_back_79 rfl rfl ?_
    refine V.rload_n F dX10_back_80 rfl rfl ?_
    refine gf_RX10_355 F dX10_back_81 ?_
    obtain ⟨μ4, eμ4, h⟩ := nm_out h
    refine pf_RX10_23 F eμ4 dX10_back_84 ?_
    refine V.rload_n F dX10_back_87 rfl rfl ?_
    refine V.rload_n F dX10_back_88 rfl rfl ?_
    refine gf_RX10_358 F dX10_back_89 ?_
    obtain ⟨μ5, eμ5, h⟩ := nm_out h
    refine pf_RX10_104 F eμ5 dX10_back_92 ?_
    refine V.rload_n F dX10_back_95 rfl rfl ?_
    refine gf_RX10_76 F dX10_back_96 ?_
    obtain ⟨rfl, rfl⟩ := r2_out h
    exact V.iret F dX10_back_99
  · have h := t_out h c1
    refine V.rload_n F dX10_back_45 rfl rfl ?_
    refine gf_RX10_32 F dX10_back_46 ?_
    refine V.iload_n F dX10_back_49 rfl rfl ?_
    refine V.rload_n F dX10_back_50 rfl rfl ?_
    refine gf_RX10_50 F dX10_back_51 ?_
    refine V.iload_n F dX10_back_54 rfl rfl ?_
    obtain ⟨c6, h⟩ := chk_out h
    refine V.iald (t0 := 0) (n := 6) F mB12 rfl rfl c6 dX10_back_55 ?_
    obtain ⟨c7, h⟩ := chk_out h
    obtain ⟨μ8, eμ8, h⟩ := nm_out h
    refine V.iast (t0 := 0) (n := 6) F mB6 (fun _ => rfl) rfl c7 eμ8 dX10_back_56 ?_
    obtain ⟨a9, ea9, h⟩ := nm_out h
    refine V.iinc (z := 1) (L' := [some (rf φ 0 0), some (.int a9)]) F dX10_back_57 rfl (by decide) ea9 (by decide) rfl rfl ?_
    refine V.goto (tgt := 39) F dX10_back_60 (by decide) ?_
    exact hk39 _ _ _ _ h
def M_back_39L : Nat → Int32 → Mem → Option (Int32 × Mem)
  | 0 => fun _ _ => none
  | n + 1 => M_back_39 (M_back_39L n)
set_option maxHeartbeats 4000000 in
set_option maxRecDepth 100000 in
theorem M_back_39L_ok {φ : Fr} {d : Nat} (F : Fx φ ΩB cX10_back RX10 2 (some .int)) (hd : 1 ≤ d) : ∀ (n : Nat) (x1 : Int32) (μ : Mem) (r : Int32) (μ' : Mem), M_back_39L n x1 μ = some (r, μ') → V φ ΩB 2 d 39 [some (rf φ 0 0), some (.int x1)] [] μ (some (.int r), μ') := by
  intro n
  induction n with
  | zero => intro x1 μ r μ' h; cases h
  | succ n ih => intro x1 μ r μ' h; exact M_back_39_ok F hd ih h
def M_back_13 (k13 : Int32 → Mem → Option (Int32 × Mem)) (x1 : Int32) (μ : Mem) : Option (Int32 × Mem) :=
  if x1 < 18 then (
    chk (inb x1 18) <|
    chk (inb x1 18) <|
    nm (up μ 5 0 (ix x1) (rd μ 11 0 (ix x1))) fun μ4 =>
    nm (x1 + 1) fun a5 =>
    k13 a5 μ4)
  else (
    M_back_39L 1000 0 μ)
set_option maxHeartbeats 4000000 in
set_option maxRecDepth 100000 in
theorem M_back_13_ok {φ : Fr} {d : Nat} (F : Fx φ ΩB cX10_back RX10 2 (some .int)) (hd : 1 ≤ d) {k13 : Int32 → Mem → Option (Int32 × Mem)} (hk13 : ∀ (x1 : Int32) (μ : Mem) (r : Int32) (μ' : Mem), k13 x1 μ = some (r, μ') → V φ ΩB 2 d 13 [some (rf φ 0 0), some (.int x1)] [] μ (some (.int r), μ')) {x1 : Int32} {μ : Mem} {r : Int32} {μ' : Mem} (h : M_back_13 k13 x1 μ = some (r, μ')) : V φ ΩB 2 d 13 [some (rf φ 0 0), some (.int x1)] [] μ (some (.int r), μ') := by
  unfold M_back_13 at h
  refine V.iload_n F dX10_back_13 rfl rfl ?_
  refine V.bipush (v := 18) F dX10_back_14 (by decide) ?_
  refine V.icmp_ge (tgt := 37) F dX10_back_16 (by decide) (fun c1 => ?_) (fun c1 => ?_)
  · have h := f_out h c1
    refine V.iconst (v := 0) F dX10_back_37 (by decide) ?_
    refine V.istore_n (L' := [some (rf φ 0 0), some (.int 0)]) F dX10_back_38 rfl (by decide) rfl rfl rfl ?_
    exact M_back_39L_ok F hd 1000 _ _ _ _ h
  · have h := t_out h c1
    refine V.rload_n F dX10_back_19 rfl rfl ?_
    refine gf_RX10_29 F dX10_back_20 ?_
    refine V.iload_n F dX10_back_23 rfl rfl ?_
    refine V.rload_n F dX10_back_24 rfl rfl ?_
    refine gf_RX10_47 F dX10_back_25 ?_
    refine V.iload_n F dX10_back_28 rfl rfl ?_
    obtain ⟨c2, h⟩ := chk_out h
    refine V.iald (t0 := 0) (n := 18) F mB11 rfl rfl c2 dX10_back_29 ?_
    obtain ⟨c3, h⟩ := chk_out h
    obtain ⟨μ4, eμ4, h⟩ := nm_out h
    refine V.iast (t0 := 0) (n := 18) F mB5 (fun _ => rfl) rfl c3 eμ4 dX10_back_30 ?_
    obtain ⟨a5, ea5, h⟩ := nm_out h
    refine V.iinc (z := 1) (L' := [some (rf φ 0 0), some (.int a5)]) F dX10_back_31 rfl (by decide) ea5 (by decide) rfl rfl ?_
    refine V.goto (tgt := 13) F dX10_back_34 (by decide) ?_
    exact hk13 _ _ _ _ h
def M_back_13L : Nat → Int32 → Mem → Option (Int32 × Mem)
  | 0 => fun _ _ => none
  | n + 1 => M_back_13 (M_back_13L n)
set_option maxHeartbeats 4000000 in
set_option maxRecDepth 100000 in
theorem M_back_13L_ok {φ : Fr} {d : Nat} (F : Fx φ ΩB cX10_back RX10 2 (some .int)) (hd : 1 ≤ d) : ∀ (n : Nat) (x1 : Int32) (μ : Mem) (r : Int32) (μ' : Mem), M_back_13L n x1 μ = some (r, μ') → V φ ΩB 2 d 13 [some (rf φ 0 0), some (.int x1)] [] μ (some (.int r), μ') := by
  intro n
  induction n with
  | zero => intro x1 μ r μ' h; cases h
  | succ n ih => intro x1 μ r μ' h; exact M_back_13_ok F hd ih h
def M_back (μ : Mem) : Option (Int32 × Mem) :=
  if (rd μ 0 0 42) = (-1) then (
    some ((-3), μ))
  else (
    M_back_13L 1000 0 μ)
set_option maxHeartbeats 4000000 in
set_option maxRecDepth 100000 in
theorem M_back_ok {φ : Fr} {d : Nat} (F : Fx φ ΩB cX10_back RX10 2 (some .int)) (hd : 1 ≤ d) {μ : Mem} {r : Int32} {μ' : Mem} (h : M_back μ = some (r, μ')) : V φ ΩB 2 d 0 [some (rf φ 0 0), none] [] μ (some (.int r), μ') := by
  unfold M_back at h
  refine V.rload_n F dX10_back_0 rfl rfl ?_
  refine gf_RX10_53 F dX10_back_1 ?_
  refine V.iconst (v := (-1)) F dX10_back_4 (by decide) ?_
  refine V.icmp_ne (tgt := 11) F dX10_back_5 (by decide) (fun c1 => ?_) (fun c1 => ?_)
  · have h := f_out h c1
    refine V.iconst (v := 0) F dX10_back_11 (by decide) ?_
    refine V.istore_n (L' := [some (rf φ 0 0), some (.int 0)]) F dX10_back_12 rfl (by decide) rfl rfl rfl ?_
    exact M_back_13L_ok F hd 1000 _ _ _ _ h
  · have h := t_out h c1
    refine V.bipush (v := (-3)) F dX10_back_8 (by decide) ?_
    obtain ⟨rfl, rfl⟩ := r2_out h
    exact V.iret F dX10_back_10
set_option maxHeartbeats 4000000 in
set_option maxRecDepth 100000 in
theorem M_back_ct {l : Launch} {G : Glo} {μ : Mem} {r : Int32} {μ' : Mem} (h : M_back μ = some (r, μ')) : Ct l ΩB G 1 yX10_back cX10_back 2 (some .int) [.ref (G.1 0 0)] μ (some (.int r), μ') := by
  refine Ct.intro (by decide) (Nat.le_of_ble_eq_true rfl) ?_
  intro φ hl hG F
  subst hl; subst hG
  exact M_back_ok F (Nat.le_refl _) h
def M_count_89 (k56 : Int32 → Int32 → Int32 → Int32 → Mem → Option Int32) (x1 : Int32) (x3 : Int32) (x4 : Int32) (y0 : Int32) (y1 : Int32) (μ : Mem) : Option Int32 :=
  nm (y0 + y1) fun a1 =>
  chk (inb ((3 * x4) + 2) 18) <|
  nm (x3 + (rd μ 5 0 (ix ((3 * x4) + 2)))) fun a3 =>
  nm (x4 + 1) fun a4 =>
  k56 x1 a1 a3 a4 μ
set_option maxHeartbeats 4000000 in
set_option maxRecDepth 100000 in
theorem M_count_89_ok {φ : Fr} {d : Nat} (F : Fx φ ΩB cX10_count RX10 5 (some .int)) (hd : 2 ≤ d) {k56 : Int32 → Int32 → Int32 → Int32 → Mem → Option Int32} (hk56 : ∀ (x1 : Int32) (x2 : Int32) (x3 : Int32) (x4 : Int32) (μ : Mem) (r : Int32), k56 x1 x2 x3 x4 μ = some r → V φ ΩB 5 d 56 [some (rf φ 0 0), some (.int x1), some (.int x2), some (.int x3), some (.int x4)] [] μ (some (.int r), μ)) {x1 : Int32} {x3 : Int32} {x4 : Int32} {y0 : Int32} {y1 : Int32} {μ : Mem} {r : Int32} (h : M_count_89 k56 x1 x3 x4 y0 y1 μ = some r) : V φ ΩB 5 d 89 [some (rf φ 0 0), some (.int x1), none, some (.int x3), some (.int x4)] [.int y1, .int y0] μ (some (.int r), μ) := by
  unfold M_count_89 at h
  refine V.iadd F dX10_count_89 ?_
  obtain ⟨a1, ea1, h⟩ := nm_out h
  refine V.istore_n (L' := [some (rf φ 0 0), some (.int x1), some (.int a1), some (.int x3), some (.int x4)]) F dX10_count_90 rfl (by decide) rfl ea1 rfl ?_
  refine V.iload_n F dX10_count_91 rfl rfl ?_
  refine V.rload_n F dX10_count_92 rfl rfl ?_
  refine gf_RX10_29 F dX10_count_93 ?_
  refine V.iconst (v := 3) F dX10_count_96 (by decide) ?_
  refine V.iload F dX10_count_97 rfl ?_
  refine V.imul F dX10_count_99 ?_
  refine V.iconst (v := 2) F dX10_count_100 (by decide) ?_
  refine V.iadd F dX10_count_101 ?_
  obtain ⟨c2, h⟩ := chk_out h
  refine V.iald (t0 := 0) (n := 18) F mB5 rfl rfl c2 dX10_count_102 ?_
  refine V.iadd F dX10_count_103 ?_
  obtain ⟨a3, ea3, h⟩ := nm_out h
  refine V.istore_n (L' := [some (rf φ 0 0), some (.int x1), some (.int a1), some (.int a3), some (.int x4)]) F dX10_count_104 rfl (by decide) rfl ea3 rfl ?_
  obtain ⟨a4, ea4, h⟩ := nm_out h
  refine V.iinc (z := 1) (L' := [some (rf φ 0 0), some (.int x1), some (.int a1), some (.int a3), some (.int a4)]) F dX10_count_105 rfl (by decide) ea4 (by decide) rfl rfl ?_
  refine V.goto (tgt := 56) F dX10_count_108 (by decide) ?_
  exact hk56 _ _ _ _ _ _ h
def M_count_56 (k56 : Int32 → Int32 → Int32 → Int32 → Mem → Option Int32) (x1 : Int32) (x2 : Int32) (x3 : Int32) (x4 : Int32) (μ : Mem) : Option Int32 :=
  if x4 < (rd μ 0 0 12) then (
    chk (inb ((3 * x4) + 2) 18) <|
    if (rd μ 5 0 (ix ((3 * x4) + 2))) < (rd μ 0 0 8) then (
      M_count_89 k56 x1 x3 x4 x2 0 μ)
    else (
      M_count_89 k56 x1 x3 x4 x2 1 μ))
  else (
    if x1 = 0 then (
      some (rd μ 0 0 12))
    else (
      if x1 = 1 then (
        some x3)
      else (
        some x2)))
set_option maxHeartbeats 4000000 in
set_option maxRecDepth 100000 in
theorem M_count_56_ok {φ : Fr} {d : Nat} (F : Fx φ ΩB cX10_count RX10 5 (some .int)) (hd : 2 ≤ d) {k56 : Int32 → Int32 → Int32 → Int32 → Mem → Option Int32} (hk56 : ∀ (x1 : Int32) (x2 : Int32) (x3 : Int32) (x4 : Int32) (μ : Mem) (r : Int32), k56 x1 x2 x3 x4 μ = some r → V φ ΩB 5 d 56 [some (rf φ 0 0), some (.int x1), some (.int x2), some (.int x3), some (.int x4)] [] μ (some (.int r), μ)) {x1 : Int32} {x2 : Int32} {x3 : Int32} {x4 : Int32} {μ : Mem} {r : Int32} (h : M_count_56 k56 x1 x2 x3 x4 μ = some r) : V φ ΩB 5 d 56 [some (rf φ 0 0), some (.int x1), some (.int x2), some (.int x3), some (.int x4)] [] μ (some (.int r), μ) := by
  unfold M_count_56 at h
  refine V.iload F dX10_count_56 rfl ?_
  refine V.rload_n F dX10_count_58 rfl rfl ?_
  refine gf_RX10_76 F dX10_count_59 ?_
  refine V.icmp_ge (tgt := 111) F dX10_count_62 (by decide) (fun c1 => ?_) (fun c1 => ?_)
  · have h := f_out h c1
    refine V.iload_n F dX10_count_111 rfl rfl ?_
    refine V.if_ne (tgt := 122) F dX10_count_112 (by decide) (fun c2 => ?_) (fun c2 => ?_)
    · have h := f_out h c2
      refine V.iload_n F dX10_count_122 rfl rfl ?_
      refine V.iconst (v := 1) F dX10_count_123 (by decide) ?_
      refine V.icmp_ne (tgt := 131) F dX10_count_124 (by decide) (fun c3 => ?_) (fun c3 => ?_)
      · have h := f_out h c3
        refine V.iload_n F dX10_count_131 rfl rfl ?_
        obtain rfl := r1_out h
        exact V.iret F dX10_count_132
      · have h := t_out h c3
        refine V.iload_n F dX10_count_127 rfl rfl ?_
        refine V.goto (tgt := 132) F dX10_count_128 (by decide) ?_
        obtain rfl := r1_out h
        exact V.iret F dX10_count_132
    · have h := t_out h c2
      refine V.rload_n F dX10_count_115 rfl rfl ?_
      refine gf_RX10_76 F dX10_count_116 ?_
      refine V.goto (tgt := 132) F dX10_count_119 (by decide) ?_
      obtain rfl := r1_out h
      exact V.iret F dX10_count_132
  · have h := t_out h c1
    refine V.iload_n F dX10_count_65 rfl rfl ?_
    refine V.rload_n F dX10_count_66 rfl rfl ?_
    refine gf_RX10_29 F dX10_count_67 ?_
    refine V.iconst (v := 3) F dX10_count_70 (by decide) ?_
    refine V.iload F dX10_count_71 rfl ?_
    refine V.imul F dX10_count_73 ?_
    refine V.iconst (v := 2) F dX10_count_74 (by decide) ?_
    refine V.iadd F dX10_count_75 ?_
    obtain ⟨c4, h⟩ := chk_out h
    refine V.iald (t0 := 0) (n := 18) F mB5 rfl rfl c4 dX10_count_76 ?_
    refine V.rload_n F dX10_count_77 rfl rfl ?_
    refine gf_RX10_23 F dX10_count_78 ?_
    refine V.icmp_lt (tgt := 88) F dX10_count_81 (by decide) (fun c5 => ?_) (fun c5 => ?_)
    · have h := t_out h c5
      refine V.iconst (v := 0) F dX10_count_88 (by decide) ?_
      refine V.msk (L' := [some (rf φ 0 0), some (.int x1), none, some (.int x3), some (.int x4)]) [true, true, false, true, true] rfl ?_
      exact M_count_89_ok F hd hk56 h
    · have h := f_out h c5
      refine V.iconst (v := 1) F dX10_count_84 (by decide) ?_
      refine V.goto (tgt := 89) F dX10_count_85 (by decide) ?_
      refine V.msk (L' := [some (rf φ 0 0), some (.int x1), none, some (.int x3), some (.int x4)]) [true, true, false, true, true] rfl ?_
      exact M_count_89_ok F hd hk56 h
def M_count_56L : Nat → Int32 → Int32 → Int32 → Int32 → Mem → Option Int32
  | 0 => fun _ _ _ _ _ => none
  | n + 1 => M_count_56 (M_count_56L n)
set_option maxHeartbeats 4000000 in
set_option maxRecDepth 100000 in
theorem M_count_56L_ok {φ : Fr} {d : Nat} (F : Fx φ ΩB cX10_count RX10 5 (some .int)) (hd : 2 ≤ d) : ∀ (n : Nat) (x1 : Int32) (x2 : Int32) (x3 : Int32) (x4 : Int32) (μ : Mem) (r : Int32), M_count_56L n x1 x2 x3 x4 μ = some r → V φ ΩB 5 d 56 [some (rf φ 0 0), some (.int x1), some (.int x2), some (.int x3), some (.int x4)] [] μ (some (.int r), μ) := by
  intro n
  induction n with
  | zero => intro x1 x2 x3 x4 μ r h; cases h
  | succ n ih => intro x1 x2 x3 x4 μ r h; exact M_count_56_ok F hd ih h
def M_count (x1 : Int32) (μ : Mem) : Option Int32 :=
  nm (M_in (Int32.toInt64 x1) 0 5) fun r2 =>
  if r2 = 0 then (
    some (-2))
  else (
    if 2 < x1 then (
      if x1 = 3 then (
        some (rd μ 0 0 3))
      else (
        if x1 = 4 then (
          some (rd μ 0 0 6))
        else (
          some (rd μ 0 0 4))))
    else (
      M_count_56L 1000 x1 0 0 0 μ))
set_option maxHeartbeats 4000000 in
set_option maxRecDepth 100000 in
theorem M_count_ok {φ : Fr} {d : Nat} (F : Fx φ ΩB cX10_count RX10 5 (some .int)) (hd : 2 ≤ d) {x1 : Int32} {μ : Mem} {r : Int32} (h : M_count x1 μ = some r) : V φ ΩB 5 d 0 [some (rf φ 0 0), some (.int x1), none, none, none] [] μ (some (.int r), μ) := by
  unfold M_count at h
  refine V.iload_n F dX10_count_0 rfl rfl ?_
  refine V.i2l F dX10_count_1 ?_
  refine V.lconst (v := 0) F dX10_count_2 (by decide) ?_
  refine V.ldc2 F kl_RX10_107 dX10_count_3 ?_
  obtain ⟨r2, e1, h⟩ := nm_out h
  refine V.callSi (As := [.long (Int32.toInt64 x1), .long 0, .long 5]) F ck_RX10_79 (M_in_ct e1) (by omega) (by decide) rfl rfl (Nat.le_of_ble_eq_true rfl) dX10_count_6 ?_
  refine V.if_ne (tgt := 15) F dX10_count_9 (by decide) (fun c3 => ?_) (fun c3 => ?_)
  · have h := f_out h c3
    refine V.iload_n F dX10_count_15 rfl rfl ?_
    refine V.iconst (v := 2) F dX10_count_16 (by decide) ?_
    refine V.icmp_le (tgt := 49) F dX10_count_17 (by decide) (fun c4 => ?_) (fun c4 => ?_)
    · have h := f_out h c4
      refine V.iconst (v := 0) F dX10_count_49 (by decide) ?_
      refine V.istore_n (L' := [some (rf φ 0 0), some (.int x1), some (.int 0), none, none]) F dX10_count_50 rfl (by decide) rfl rfl rfl ?_
      refine V.iconst (v := 0) F dX10_count_51 (by decide) ?_
      refine V.istore_n (L' := [some (rf φ 0 0), some (.int x1), some (.int 0), some (.int 0), none]) F dX10_count_52 rfl (by decide) rfl rfl rfl ?_
      refine V.iconst (v := 0) F dX10_count_53 (by decide) ?_
      refine V.istore (L' := [some (rf φ 0 0), some (.int x1), some (.int 0), some (.int 0), some (.int 0)]) F dX10_count_54 (by decide) rfl rfl rfl ?_
      exact M_count_56L_ok F hd 1000 _ _ _ _ _ _ h
    · have h := t_out h c4
      refine V.iload_n F dX10_count_20 rfl rfl ?_
      refine V.iconst (v := 3) F dX10_count_21 (by decide) ?_
      refine V.icmp_ne (tgt := 32) F dX10_count_22 (by decide) (fun c5 => ?_) (fun c5 => ?_)
      · have h := f_out h c5
        refine V.iload_n F dX10_count_32 rfl rfl ?_
        refine V.iconst (v := 4) F dX10_count_33 (by decide) ?_
        refine V.icmp_ne (tgt := 44) F dX10_count_34 (by decide) (fun c6 => ?_) (fun c6 => ?_)
        · have h := f_out h c6
          refine V.rload_n F dX10_count_44 rfl rfl ?_
          refine gf_RX10_104 F dX10_count_45 ?_
          obtain rfl := r1_out h
          exact V.iret F dX10_count_48
        · have h := t_out h c6
          refine V.rload_n F dX10_count_37 rfl rfl ?_
          refine gf_RX10_134 F dX10_count_38 ?_
          refine V.goto (tgt := 48) F dX10_count_41 (by decide) ?_
          obtain rfl := r1_out h
          exact V.iret F dX10_count_48
      · have h := t_out h c5
        refine V.rload_n F dX10_count_25 rfl rfl ?_
        refine gf_RX10_73 F dX10_count_26 ?_
        refine V.goto (tgt := 48) F dX10_count_29 (by decide) ?_
        obtain rfl := r1_out h
        exact V.iret F dX10_count_48
  · have h := t_out h c3
    refine V.bipush (v := (-2)) F dX10_count_12 (by decide) ?_
    obtain rfl := r1_out h
    exact V.iret F dX10_count_14
set_option maxHeartbeats 4000000 in
set_option maxRecDepth 100000 in
theorem M_count_ct {l : Launch} {G : Glo} {x1 : Int32} {μ : Mem} {r : Int32} (h : M_count x1 μ = some r) : Ct l ΩB G 2 yX10_count cX10_count 5 (some .int) [.ref (G.1 0 0), .int x1] μ (some (.int r), μ) := by
  refine Ct.intro (by decide) (Nat.le_of_ble_eq_true rfl) ?_
  intro φ hl hG F
  subst hl; subst hG
  exact M_count_ok F (Nat.le_refl _) h
def M_cell_83 (y1 : Int32) (y2 : Int32) (μ : Mem) : Option (Int32 × Mem) :=
  chk (inb y1 160) <|
  nm (up μ 16 0 (ix y1) y2) fun μ2 =>
  some (1, μ2)
set_option maxHeartbeats 4000000 in
set_option maxRecDepth 100000 in
theorem M_cell_83_ok {φ : Fr} {d : Nat} (F : Fx φ ΩB cX10_cell RX10 4 (some .int)) (hd : 3 ≤ d) {y1 : Int32} {y2 : Int32} {μ : Mem} {r : Int32} {μ' : Mem} (h : M_cell_83 y1 y2 μ = some (r, μ')) : V φ ΩB 4 d 83 [none, none, none, none] [.int y2, .int y1, rf φ 16 0] μ (some (.int r), μ') := by
  unfold M_cell_83 at h
  obtain ⟨c1, h⟩ := chk_out h
  obtain ⟨μ2, eμ2, h⟩ := nm_out h
  refine V.iast (t0 := 0) (n := 160) F mB16 (fun _ => rfl) rfl c1 eμ2 dX10_cell_83 ?_
  refine V.iconst (v := 1) F dX10_cell_84 (by decide) ?_
  obtain ⟨rfl, rfl⟩ := r2_out h
  exact V.iret F dX10_cell_85
def M_cell (x1 : Int32) (x2 : Int32) (x3 : Int32) (μ : Mem) : Option (Int32 × Mem) :=
  bnd (M_isSheet x1) fun r2 =>
  if r2 = 0 then (
    some ((-2), μ))
  else (
    chk (inb x1 4) <|
    if (rd μ 13 0 (ix x1)) = 0 then (
      some ((-11), μ))
    else (
      chk (inb x1 4) <|
      nm (M_in (Int32.toInt64 x2) 0 (Int32.toInt64 ((rd μ 15 0 (ix x1)) - 1))) fun r8 =>
      if r8 = 0 then (
        some ((-12), μ))
      else (
        chk (inb x1 4) <|
        if (rd μ 14 0 (ix x1)) = 0 then (
          M_cell_83 ((40 * x1) + x2) (b8 x3) μ)
        else (
          chk (inb x1 4) <|
          if (rd μ 14 0 (ix x1)) = 1 then (
            M_cell_83 ((40 * x1) + x2) (b16 x3) μ)
          else (
            M_cell_83 ((40 * x1) + x2) x3 μ)))))
set_option maxHeartbeats 4000000 in
set_option maxRecDepth 100000 in
theorem M_cell_ok {φ : Fr} {d : Nat} (F : Fx φ ΩB cX10_cell RX10 4 (some .int)) (hd : 3 ≤ d) {x1 : Int32} {x2 : Int32} {x3 : Int32} {μ : Mem} {r : Int32} {μ' : Mem} (h : M_cell x1 x2 x3 μ = some (r, μ')) : V φ ΩB 4 d 0 [some (rf φ 0 0), some (.int x1), some (.int x2), some (.int x3)] [] μ (some (.int r), μ') := by
  unfold M_cell at h
  refine V.iload_n F dX10_cell_0 rfl rfl ?_
  obtain ⟨r2, e1, h⟩ := bnd_out h
  refine V.callSi (As := [.int x1]) F ck_RX10_323 (M_isSheet_ct e1) (by omega) (by decide) rfl rfl (Nat.le_of_ble_eq_true rfl) dX10_cell_1 ?_
  refine V.if_ne (tgt := 10) F dX10_cell_4 (by decide) (fun c3 => ?_) (fun c3 => ?_)
  · have h := f_out h c3
    refine V.rload_n F dX10_cell_10 rfl rfl ?_
    refine gf_RX10_56 F dX10_cell_11 ?_
    refine V.iload_n F dX10_cell_14 rfl rfl ?_
    obtain ⟨c4, h⟩ := chk_out h
    refine V.zald (t0 := 1) (n := 4) F mB13 rfl rfl c4 dX10_cell_15 ?_
    refine V.if_ne (tgt := 22) F dX10_cell_16 (by decide) (fun c5 => ?_) (fun c5 => ?_)
    · have h := f_out h c5
      refine V.iload_n F dX10_cell_22 rfl rfl ?_
      refine V.i2l F dX10_cell_23 ?_
      refine V.lconst (v := 0) F dX10_cell_24 (by decide) ?_
      refine V.rload_n F dX10_cell_25 rfl rfl ?_
      refine gf_RX10_63 F dX10_cell_26 ?_
      refine V.iload_n F dX10_cell_29 rfl rfl ?_
      obtain ⟨c6, h⟩ := chk_out h
      refine V.iald (t0 := 0) (n := 4) F mB15 rfl rfl c6 dX10_cell_30 ?_
      refine V.iconst (v := 1) F dX10_cell_31 (by decide) ?_
      refine V.isub F dX10_cell_32 ?_
      refine V.i2l F dX10_cell_33 ?_
      obtain ⟨r8, e7, h⟩ := nm_out h
      refine V.callSi (As := [.long (Int32.toInt64 x2), .long 0, .long (Int32.toInt64 ((rd μ 15 0 (ix x1)) - 1))]) F ck_RX10_79 (M_in_ct e7) (by omega) (by decide) rfl rfl (Nat.le_of_ble_eq_true rfl) dX10_cell_34 ?_
      refine V.if_ne (tgt := 43) F dX10_cell_37 (by decide) (fun c9 => ?_) (fun c9 => ?_)
      · have h := f_out h c9
        refine V.rload_n F dX10_cell_43 rfl rfl ?_
        refine gf_RX10_66 F dX10_cell_44 ?_
        refine V.bipush (v := 40) F dX10_cell_47 (by decide) ?_
        refine V.iload_n F dX10_cell_49 rfl rfl ?_
        refine V.imul F dX10_cell_50 ?_
        refine V.iload_n F dX10_cell_51 rfl rfl ?_
        refine V.iadd F dX10_cell_52 ?_
        refine V.rload_n F dX10_cell_53 rfl rfl ?_
        refine gf_RX10_60 F dX10_cell_54 ?_
        refine V.iload_n F dX10_cell_57 rfl rfl ?_
        obtain ⟨c10, h⟩ := chk_out h
        refine V.iald (t0 := 0) (n := 4) F mB14 rfl rfl c10 dX10_cell_58 ?_
        refine V.if_ne (tgt := 67) F dX10_cell_59 (by decide) (fun c11 => ?_) (fun c11 => ?_)
        · have h := f_out h c11
          refine V.rload_n F dX10_cell_67 rfl rfl ?_
          refine gf_RX10_60 F dX10_cell_68 ?_
          refine V.iload_n F dX10_cell_71 rfl rfl ?_
          obtain ⟨c12, h⟩ := chk_out h
          refine V.iald (t0 := 0) (n := 4) F mB14 rfl rfl c12 dX10_cell_72 ?_
          refine V.iconst (v := 1) F dX10_cell_73 (by decide) ?_
          refine V.icmp_ne (tgt := 82) F dX10_cell_74 (by decide) (fun c13 => ?_) (fun c13 => ?_)
          · have h := f_out h c13
            refine V.iload_n F dX10_cell_82 rfl rfl ?_
            refine V.msk (L' := [none, none, none, none]) [false, false, false, false] rfl ?_
            exact M_cell_83_ok F hd h
          · have h := t_out h c13
            refine V.iload_n F dX10_cell_77 rfl rfl ?_
            refine V.i2s F dX10_cell_78 ?_
            refine V.goto (tgt := 83) F dX10_cell_79 (by decide) ?_
            refine V.msk (L' := [none, none, none, none]) [false, false, false, false] rfl ?_
            exact M_cell_83_ok F hd h
        · have h := t_out h c11
          refine V.iload_n F dX10_cell_62 rfl rfl ?_
          refine V.i2b F dX10_cell_63 ?_
          refine V.goto (tgt := 83) F dX10_cell_64 (by decide) ?_
          refine V.msk (L' := [none, none, none, none]) [false, false, false, false] rfl ?_
          exact M_cell_83_ok F hd h
      · have h := t_out h c9
        refine V.bipush (v := (-12)) F dX10_cell_40 (by decide) ?_
        obtain ⟨rfl, rfl⟩ := r2_out h
        exact V.iret F dX10_cell_42
    · have h := t_out h c5
      refine V.bipush (v := (-11)) F dX10_cell_19 (by decide) ?_
      obtain ⟨rfl, rfl⟩ := r2_out h
      exact V.iret F dX10_cell_21
  · have h := t_out h c3
    refine V.bipush (v := (-2)) F dX10_cell_7 (by decide) ?_
    obtain ⟨rfl, rfl⟩ := r2_out h
    exact V.iret F dX10_cell_9
set_option maxHeartbeats 4000000 in
set_option maxRecDepth 100000 in
theorem M_cell_ct {l : Launch} {G : Glo} {x1 : Int32} {x2 : Int32} {x3 : Int32} {μ : Mem} {r : Int32} {μ' : Mem} (h : M_cell x1 x2 x3 μ = some (r, μ')) : Ct l ΩB G 3 yX10_cell cX10_cell 4 (some .int) [.ref (G.1 0 0), .int x1, .int x2, .int x3] μ (some (.int r), μ') := by
  refine Ct.intro (by decide) (Nat.le_of_ble_eq_true rfl) ?_
  intro φ hl hG F
  subst hl; subst hG
  exact M_cell_ok F (Nat.le_refl _) h
def M_copy_145 (k121 : Int32 → Int32 → Int32 → Int32 → Int32 → Int32 → Int32 → Mem → Option (Int32 × Mem)) (x1 : Int32) (x2 : Int32) (x3 : Int32) (x4 : Int32) (x5 : Int32) (x6 : Int32) (x7 : Int32) (y0 : Int32) (μ : Mem) : Option (Int32 × Mem) :=
  chk (inb (((40 * x1) + x2) + y0) 160) <|
  chk (inb (((40 * x3) + x4) + y0) 160) <|
  nm (up μ 16 0 (ix (((40 * x3) + x4) + y0)) (rd μ 16 0 (ix (((40 * x1) + x2) + y0)))) fun μ3 =>
  nm (x7 + 1) fun a4 =>
  k121 x1 x2 x3 x4 x5 x6 a4 μ3
set_option maxHeartbeats 4000000 in
set_option maxRecDepth 100000 in
theorem M_copy_145_ok {φ : Fr} {d : Nat} (F : Fx φ ΩB cX10_copy RX10 9 (some .int)) (hd : 3 ≤ d) {k121 : Int32 → Int32 → Int32 → Int32 → Int32 → Int32 → Int32 → Mem → Option (Int32 × Mem)} (hk121 : ∀ (x1 : Int32) (x2 : Int32) (x3 : Int32) (x4 : Int32) (x5 : Int32) (x6 : Int32) (x7 : Int32) (μ : Mem) (r : Int32) (μ' : Mem), k121 x1 x2 x3 x4 x5 x6 x7 μ = some (r, μ') → V φ ΩB 9 d 121 [some (rf φ 0 0), some (.int x1), some (.int x2), some (.int x3), some (.int x4), some (.int x5), some (.int x6), some (.int x7), none] [] μ (some (.int r), μ')) {x1 : Int32} {x2 : Int32} {x3 : Int32} {x4 : Int32} {x5 : Int32} {x6 : Int32} {x7 : Int32} {y0 : Int32} {μ : Mem} {r : Int32} {μ' : Mem} (h : M_copy_145 k121 x1 x2 x3 x4 x5 x6 x7 y0 μ = some (r, μ')) : V φ ΩB 9 d 145 [some (rf φ 0 0), some (.int x1), some (.int x2), some (.int x3), some (.int x4), some (.int x5), some (.int x6), some (.int x7), none] [.int y0] μ (some (.int r), μ') := by
  unfold M_copy_145 at h
  refine V.istore (L' := [some (rf φ 0 0), some (.int x1), some (.int x2), some (.int x3), some (.int x4), some (.int x5), some (.int x6), some (.int x7), some (.int y0)]) F dX10_copy_145 (by decide) rfl rfl rfl ?_
  refine V.rload_n F dX10_copy_147 rfl rfl ?_
  refine gf_RX10_66 F dX10_copy_148 ?_
  refine V.bipush (v := 40) F dX10_copy_151 (by decide) ?_
  refine V.iload_n F dX10_copy_153 rfl rfl ?_
  refine V.imul F dX10_copy_154 ?_
  refine V.iload F dX10_copy_155 rfl ?_
  refine V.iadd F dX10_copy_157 ?_
  refine V.iload F dX10_copy_158 rfl ?_
  refine V.iadd F dX10_copy_160 ?_
  refine V.rload_n F dX10_copy_161 rfl rfl ?_
  refine gf_RX10_66 F dX10_copy_162 ?_
  refine V.bipush (v := 40) F dX10_copy_165 (by decide) ?_
  refine V.iload_n F dX10_copy_167 rfl rfl ?_
  refine V.imul F dX10_copy_168 ?_
  refine V.iload_n F dX10_copy_169 rfl rfl ?_
  refine V.iadd F dX10_copy_170 ?_
  refine V.iload F dX10_copy_171 rfl ?_
  refine V.iadd F dX10_copy_173 ?_
  obtain ⟨c1, h⟩ := chk_out h
  refine V.iald (t0 := 0) (n := 160) F mB16 rfl rfl c1 dX10_copy_174 ?_
  obtain ⟨c2, h⟩ := chk_out h
  obtain ⟨μ3, eμ3, h⟩ := nm_out h
  refine V.iast (t0 := 0) (n := 160) F mB16 (fun _ => rfl) rfl c2 eμ3 dX10_copy_175 ?_
  obtain ⟨a4, ea4, h⟩ := nm_out h
  refine V.iinc (z := 1) (L' := [some (rf φ 0 0), some (.int x1), some (.int x2), some (.int x3), some (.int x4), some (.int x5), some (.int x6), some (.int a4), some (.int y0)]) F dX10_copy_176 rfl (by decide) ea4 (by decide) rfl rfl ?_
  refine V.goto (tgt := 121) F dX10_copy_179 (by decide) ?_
  refine V.msk (L' := [some (rf φ 0 0), some (.int x1), some (.int x2), some (.int x3), some (.int x4), some (.int x5), some (.int x6), some (.int a4), none]) [true, true, true, true, true, true, true, true, false] rfl ?_
  exact hk121 _ _ _ _ _ _ _ _ _ _ h
def M_copy_121 (k121 : Int32 → Int32 → Int32 → Int32 → Int32 → Int32 → Int32 → Mem → Option (Int32 × Mem)) (x1 : Int32) (x2 : Int32) (x3 : Int32) (x4 : Int32) (x5 : Int32) (x6 : Int32) (x7 : Int32) (μ : Mem) : Option (Int32 × Mem) :=
  if x7 < x5 then (
    if x6 = 0 then (
      M_copy_145 k121 x1 x2 x3 x4 x5 x6 x7 x7 μ)
    else (
      M_copy_145 k121 x1 x2 x3 x4 x5 x6 x7 ((x5 - 1) - x7) μ))
  else (
    some (x5, μ))
set_option maxHeartbeats 4000000 in
set_option maxRecDepth 100000 in
theorem M_copy_121_ok {φ : Fr} {d : Nat} (F : Fx φ ΩB cX10_copy RX10 9 (some .int)) (hd : 3 ≤ d) {k121 : Int32 → Int32 → Int32 → Int32 → Int32 → Int32 → Int32 → Mem → Option (Int32 × Mem)} (hk121 : ∀ (x1 : Int32) (x2 : Int32) (x3 : Int32) (x4 : Int32) (x5 : Int32) (x6 : Int32) (x7 : Int32) (μ : Mem) (r : Int32) (μ' : Mem), k121 x1 x2 x3 x4 x5 x6 x7 μ = some (r, μ') → V φ ΩB 9 d 121 [some (rf φ 0 0), some (.int x1), some (.int x2), some (.int x3), some (.int x4), some (.int x5), some (.int x6), some (.int x7), none] [] μ (some (.int r), μ')) {x1 : Int32} {x2 : Int32} {x3 : Int32} {x4 : Int32} {x5 : Int32} {x6 : Int32} {x7 : Int32} {μ : Mem} {r : Int32} {μ' : Mem} (h : M_copy_121 k121 x1 x2 x3 x4 x5 x6 x7 μ = some (r, μ')) : V φ ΩB 9 d 121 [some (rf φ 0 0), some (.int x1), some (.int x2), some (.int x3), some (.int x4), some (.int x5), some (.int x6), some (.int x7), none] [] μ (some (.int r), μ') := by
  unfold M_copy_121 at h
  refine V.iload F dX10_copy_121 rfl ?_
  refine V.iload F dX10_copy_123 rfl ?_
  refine V.icmp_ge (tgt := 182) F dX10_copy_125 (by decide) (fun c1 => ?_) (fun c1 => ?_)
  · have h := f_out h c1
    refine V.iload F dX10_copy_182 rfl ?_
    obtain ⟨rfl, rfl⟩ := r2_out h
    exact V.iret F dX10_copy_184
  · have h := t_out h c1
    refine V.iload F dX10_copy_128 rfl ?_
    refine V.if_eq (tgt := 143) F dX10_copy_130 (by decide) (fun c2 => ?_) (fun c2 => ?_)
    · have h := t_out h c2
      refine V.iload F dX10_copy_143 rfl ?_
      exact M_copy_145_ok F hd hk121 h
    · have h := f_out h c2
      refine V.iload F dX10_copy_133 rfl ?_
      refine V.iconst (v := 1) F dX10_copy_135 (by decide) ?_
      refine V.isub F dX10_copy_136 ?_
      refine V.iload F dX10_copy_137 rfl ?_
      refine V.isub F dX10_copy_139 ?_
      refine V.goto (tgt := 145) F dX10_copy_140 (by decide) ?_
      exact M_copy_145_ok F hd hk121 h
def M_copy_121L : Nat → Int32 → Int32 → Int32 → Int32 → Int32 → Int32 → Int32 → Mem → Option (Int32 × Mem)
  | 0 => fun _ _ _ _ _ _ _ _ => none
  | n + 1 => M_copy_121 (M_copy_121L n)
set_option maxHeartbeats 4000000 in
set_option maxRecDepth 100000 in
theorem M_copy_121L_ok {φ : Fr} {d : Nat} (F : Fx φ ΩB cX10_copy RX10 9 (some .int)) (hd : 3 ≤ d) : ∀ (n : Nat) (x1 : Int32) (x2 : Int32) (x3 : Int32) (x4 : Int32) (x5 : Int32) (x6 : Int32) (x7 : Int32) (μ : Mem) (r : Int32) (μ' : Mem), M_copy_121L n x1 x2 x3 x4 x5 x6 x7 μ = some (r, μ') → V φ ΩB 9 d 121 [some (rf φ 0 0), some (.int x1), some (.int x2), some (.int x3), some (.int x4), some (.int x5), some (.int x6), some (.int x7), none] [] μ (some (.int r), μ') := by
  intro n
  induction n with
  | zero => intro x1 x2 x3 x4 x5 x6 x7 μ r μ' h; cases h
  | succ n ih => intro x1 x2 x3 x4 x5 x6 x7 μ r μ' h; exact M_copy_121_ok F hd ih h
def M_copy_116 (x1 : Int32) (x2 : Int32) (x3 : Int32) (x4 : Int32) (x5 : Int32) (y0 : Int32) (μ : Mem) : Option (Int32 × Mem) :=
  M_copy_121L 1000 x1 x2 x3 x4 x5 y0 0 μ
set_option maxHeartbeats 4000000 in
set_option maxRecDepth 100000 in
theorem M_copy_116_ok {φ : Fr} {d : Nat} (F : Fx φ ΩB cX10_copy RX10 9 (some .int)) (hd : 3 ≤ d) {x1 : Int32} {x2 : Int32} {x3 : Int32} {x4 : Int32} {x5 : Int32} {y0 : Int32} {μ : Mem} {r : Int32} {μ' : Mem} (h : M_copy_116 x1 x2 x3 x4 x5 y0 μ = some (r, μ')) : V φ ΩB 9 d 116 [some (rf φ 0 0), some (.int x1), some (.int x2), some (.int x3), some (.int x4), some (.int x5), none, none, none] [.int y0] μ (some (.int r), μ') := by
  unfold M_copy_116 at h
  refine V.istore (L' := [some (rf φ 0 0), some (.int x1), some (.int x2), some (.int x3), some (.int x4), some (.int x5), some (.int y0), none, none]) F dX10_copy_116 (by decide) rfl rfl rfl ?_
  refine V.iconst (v := 0) F dX10_copy_118 (by decide) ?_
  refine V.istore (L' := [some (rf φ 0 0), some (.int x1), some (.int x2), some (.int x3), some (.int x4), some (.int x5), some (.int y0), some (.int 0), none]) F dX10_copy_119 (by decide) rfl rfl rfl ?_
  exact M_copy_121L_ok F hd 1000 _ _ _ _ _ _ _ _ _ _ h
def M_copy (x1 : Int32) (x2 : Int32) (x3 : Int32) (x4 : Int32) (x5 : Int32) (μ : Mem) : Option (Int32 × Mem) :=
  bnd (M_isSheet x1) fun r2 =>
  if r2 = 0 then (
    some ((-2), μ))
  else (
    bnd (M_isSheet x3) fun r5 =>
    if r5 = 0 then (
      some ((-2), μ))
    else (
      chk (inb x1 4) <|
      if (rd μ 13 0 (ix x1)) = 0 then (
        some ((-11), μ))
      else (
        chk (inb x3 4) <|
        if (rd μ 13 0 (ix x3)) = 0 then (
          some ((-11), μ))
        else (
          chk (inb x1 4) <|
          chk (inb x3 4) <|
          if (rd μ 14 0 (ix x1)) = (rd μ 14 0 (ix x3)) then (
            if x5 < 0 then (
              some ((-12), μ))
            else (
              if x2 < 0 then (
                some ((-12), μ))
              else (
                if x4 < 0 then (
                  some ((-12), μ))
                else (
                  chk (inb x1 4) <|
                  if ((rd μ 15 0 (ix x1)) - x5) < x2 then (
                    some ((-12), μ))
                  else (
                    chk (inb x3 4) <|
                    if ((rd μ 15 0 (ix x3)) - x5) < x4 then (
                      some ((-12), μ))
                    else (
                      if x1 = x3 then (
                        if x2 < x4 then (
                          M_copy_116 x1 x2 x3 x4 x5 1 μ)
                        else (
                          M_copy_116 x1 x2 x3 x4 x5 0 μ))
                      else (
                        M_copy_116 x1 x2 x3 x4 x5 0 μ)))))))
          else (
            some ((-13), μ))))))
set_option maxHeartbeats 4000000 in
set_option maxRecDepth 100000 in
theorem M_copy_ok {φ : Fr} {d : Nat} (F : Fx φ ΩB cX10_copy RX10 9 (some .int)) (hd : 3 ≤ d) {x1 : Int32} {x2 : Int32} {x3 : Int32} {x4 : Int32} {x5 : Int32} {μ : Mem} {r : Int32} {μ' : Mem} (h : M_copy x1 x2 x3 x4 x5 μ = some (r, μ')) : V φ ΩB 9 d 0 [some (rf φ 0 0), some (.int x1), some (.int x2), some (.int x3), some (.int x4), some (.int x5), none, none, none] [] μ (some (.int r), μ') := by
  unfold M_copy at h
  refine V.iload_n F dX10_copy_0 rfl rfl ?_
  obtain ⟨r2, e1, h⟩ := bnd_out h
  refine V.callSi (As := [.int x1]) F ck_RX10_323 (M_isSheet_ct e1) (by omega) (by decide) rfl rfl (Nat.le_of_ble_eq_true rfl) dX10_copy_1 ?_
  refine V.if_eq (tgt := 14) F dX10_copy_4 (by decide) (fun c3 => ?_) (fun c3 => ?_)
  · have h := t_out h c3
    refine V.bipush (v := (-2)) F dX10_copy_14 (by decide) ?_
    obtain ⟨rfl, rfl⟩ := r2_out h
    exact V.iret F dX10_copy_16
  · have h := f_out h c3
    refine V.iload_n F dX10_copy_7 rfl rfl ?_
    obtain ⟨r5, e4, h⟩ := bnd_out h
    refine V.callSi (As := [.int x3]) F ck_RX10_323 (M_isSheet_ct e4) (by omega) (by decide) rfl rfl (Nat.le_of_ble_eq_true rfl) dX10_copy_8 ?_
    refine V.if_ne (tgt := 17) F dX10_copy_11 (by decide) (fun c6 => ?_) (fun c6 => ?_)
    · have h := f_out h c6
      refine V.rload_n F dX10_copy_17 rfl rfl ?_
      refine gf_RX10_56 F dX10_copy_18 ?_
      refine V.iload_n F dX10_copy_21 rfl rfl ?_
      obtain ⟨c7, h⟩ := chk_out h
      refine V.zald (t0 := 1) (n := 4) F mB13 rfl rfl c7 dX10_copy_22 ?_
      refine V.if_eq (tgt := 35) F dX10_copy_23 (by decide) (fun c8 => ?_) (fun c8 => ?_)
      · have h := t_out h c8
        refine V.bipush (v := (-11)) F dX10_copy_35 (by decide) ?_
        obtain ⟨rfl, rfl⟩ := r2_out h
        exact V.iret F dX10_copy_37
      · have h := f_out h c8
        refine V.rload_n F dX10_copy_26 rfl rfl ?_
        refine gf_RX10_56 F dX10_copy_27 ?_
        refine V.iload_n F dX10_copy_30 rfl rfl ?_
        obtain ⟨c9, h⟩ := chk_out h
        refine V.zald (t0 := 1) (n := 4) F mB13 rfl rfl c9 dX10_copy_31 ?_
        refine V.if_ne (tgt := 38) F dX10_copy_32 (by decide) (fun c10 => ?_) (fun c10 => ?_)
        · have h := f_out h c10
          refine V.rload_n F dX10_copy_38 rfl rfl ?_
          refine gf_RX10_60 F dX10_copy_39 ?_
          refine V.iload_n F dX10_copy_42 rfl rfl ?_
          obtain ⟨c11, h⟩ := chk_out h
          refine V.iald (t0 := 0) (n := 4) F mB14 rfl rfl c11 dX10_copy_43 ?_
          refine V.rload_n F dX10_copy_44 rfl rfl ?_
          refine gf_RX10_60 F dX10_copy_45 ?_
          refine V.iload_n F dX10_copy_48 rfl rfl ?_
          obtain ⟨c12, h⟩ := chk_out h
          refine V.iald (t0 := 0) (n := 4) F mB14 rfl rfl c12 dX10_copy_49 ?_
          refine V.icmp_eq (tgt := 56) F dX10_copy_50 (by decide) (fun c13 => ?_) (fun c13 => ?_)
          · have h := t_out h c13
            refine V.iload F dX10_copy_56 rfl ?_
            refine V.if_lt (tgt := 97) F dX10_copy_58 (by decide) (fun c14 => ?_) (fun c14 => ?_)
            · have h := t_out h c14
              refine V.bipush (v := (-12)) F dX10_copy_97 (by decide) ?_
              obtain ⟨rfl, rfl⟩ := r2_out h
              exact V.iret F dX10_copy_99
            · have h := f_out h c14
              refine V.iload_n F dX10_copy_61 rfl rfl ?_
              refine V.if_lt (tgt := 97) F dX10_copy_62 (by decide) (fun c15 => ?_) (fun c15 => ?_)
              · have h := t_out h c15
                refine V.bipush (v := (-12)) F dX10_copy_97 (by decide) ?_
                obtain ⟨rfl, rfl⟩ := r2_out h
                exact V.iret F dX10_copy_99
              · have h := f_out h c15
                refine V.iload F dX10_copy_65 rfl ?_
                refine V.if_lt (tgt := 97) F dX10_copy_67 (by decide) (fun c16 => ?_) (fun c16 => ?_)
                · have h := t_out h c16
                  refine V.bipush (v := (-12)) F dX10_copy_97 (by decide) ?_
                  obtain ⟨rfl, rfl⟩ := r2_out h
                  exact V.iret F dX10_copy_99
                · have h := f_out h c16
                  refine V.iload_n F dX10_copy_70 rfl rfl ?_
                  refine V.rload_n F dX10_copy_71 rfl rfl ?_
                  refine gf_RX10_63 F dX10_copy_72 ?_
                  refine V.iload_n F dX10_copy_75 rfl rfl ?_
                  obtain ⟨c17, h⟩ := chk_out h
                  refine V.iald (t0 := 0) (n := 4) F mB15 rfl rfl c17 dX10_copy_76 ?_
                  refine V.iload F dX10_copy_77 rfl ?_
                  refine V.isub F dX10_copy_79 ?_
                  refine V.icmp_gt (tgt := 97) F dX10_copy_80 (by decide) (fun c18 => ?_) (fun c18 => ?_)
                  · have h := t_out h c18
                    refine V.bipush (v := (-12)) F dX10_copy_97 (by decide) ?_
                    obtain ⟨rfl, rfl⟩ := r2_out h
                    exact V.iret F dX10_copy_99
                  · have h := f_out h c18
                    refine V.iload F dX10_copy_83 rfl ?_
                    refine V.rload_n F dX10_copy_85 rfl rfl ?_
                    refine gf_RX10_63 F dX10_copy_86 ?_
                    refine V.iload_n F dX10_copy_89 rfl rfl ?_
                    obtain ⟨c19, h⟩ := chk_out h
                    refine V.iald (t0 := 0) (n := 4) F mB15 rfl rfl c19 dX10_copy_90 ?_
                    refine V.iload F dX10_copy_91 rfl ?_
                    refine V.isub F dX10_copy_93 ?_
                    refine V.icmp_le (tgt := 100) F dX10_copy_94 (by decide) (fun c20 => ?_) (fun c20 => ?_)
                    · have h := f_out h c20
                      refine V.iload_n F dX10_copy_100 rfl rfl ?_
                      refine V.iload_n F dX10_copy_101 rfl rfl ?_
                      refine V.icmp_ne (tgt := 115) F dX10_copy_102 (by decide) (fun c21 => ?_) (fun c21 => ?_)
                      · have h := f_out h c21
                        refine V.iconst (v := 0) F dX10_copy_115 (by decide) ?_
                        exact M_copy_116_ok F hd h
                      · have h := t_out h c21
                        refine V.iload_n F dX10_copy_105 rfl rfl ?_
                        refine V.iload F dX10_copy_106 rfl ?_
                        refine V.icmp_ge (tgt := 115) F dX10_copy_108 (by decide) (fun c22 => ?_) (fun c22 => ?_)
                        · have h := f_out h c22
                          refine V.iconst (v := 0) F dX10_copy_115 (by decide) ?_
                          exact M_copy_116_ok F hd h
                        · have h := t_out h c22
                          refine V.iconst (v := 1) F dX10_copy_111 (by decide) ?_
                          refine V.goto (tgt := 116) F dX10_copy_112 (by decide) ?_
                          exact M_copy_116_ok F hd h
                    · have h := t_out h c20
                      refine V.bipush (v := (-12)) F dX10_copy_97 (by decide) ?_
                      obtain ⟨rfl, rfl⟩ := r2_out h
                      exact V.iret F dX10_copy_99
          · have h := f_out h c13
            refine V.bipush (v := (-13)) F dX10_copy_53 (by decide) ?_
            obtain ⟨rfl, rfl⟩ := r2_out h
            exact V.iret F dX10_copy_55
        · have h := t_out h c10
          refine V.bipush (v := (-11)) F dX10_copy_35 (by decide) ?_
          obtain ⟨rfl, rfl⟩ := r2_out h
          exact V.iret F dX10_copy_37
    · have h := t_out h c6
      refine V.bipush (v := (-2)) F dX10_copy_14 (by decide) ?_
      obtain ⟨rfl, rfl⟩ := r2_out h
      exact V.iret F dX10_copy_16
set_option maxHeartbeats 4000000 in
set_option maxRecDepth 100000 in
theorem M_copy_ct {l : Launch} {G : Glo} {x1 : Int32} {x2 : Int32} {x3 : Int32} {x4 : Int32} {x5 : Int32} {μ : Mem} {r : Int32} {μ' : Mem} (h : M_copy x1 x2 x3 x4 x5 μ = some (r, μ')) : Ct l ΩB G 3 yX10_copy cX10_copy 9 (some .int) [.ref (G.1 0 0), .int x1, .int x2, .int x3, .int x4, .int x5] μ (some (.int r), μ') := by
  refine Ct.intro (by decide) (Nat.le_of_ble_eq_true rfl) ?_
  intro φ hl hG F
  subst hl; subst hG
  exact M_copy_ok F (Nat.le_refl _) h
def M_grooms_158 (k75 : Int32 → Int32 → Int32 → Int32 → Int32 → Mem → Option (Int32 × Mem)) (x1 : Int32) (x3 : Int32) (x4 : Int32) (x6 : Int32) (y0 : Int32) (y1 : Int32) (μ : Mem) : Option (Int32 × Mem) :=
  nm (y0 + y1) fun a1 =>
  nm (x6 + 1) fun a2 =>
  k75 x1 x3 x4 a1 a2 μ
set_option maxHeartbeats 4000000 in
set_option maxRecDepth 100000 in
theorem M_grooms_158_ok {φ : Fr} {d : Nat} (F : Fx φ ΩB cX10_grooms RX10 8 (some .int)) (hd : 3 ≤ d) {k75 : Int32 → Int32 → Int32 → Int32 → Int32 → Mem → Option (Int32 × Mem)} (hk75 : ∀ (x1 : Int32) (x3 : Int32) (x4 : Int32) (x5 : Int32) (x6 : Int32) (μ : Mem) (r : Int32) (μ' : Mem), k75 x1 x3 x4 x5 x6 μ = some (r, μ') → V φ ΩB 8 d 75 [some (rf φ 0 0), some (.int x1), none, some (.int x3), some (.int x4), some (.int x5), some (.int x6), none] [] μ (some (.int r), μ')) {x1 : Int32} {x3 : Int32} {x4 : Int32} {x6 : Int32} {y0 : Int32} {y1 : Int32} {μ : Mem} {r : Int32} {μ' : Mem} (h : M_grooms_158 k75 x1 x3 x4 x6 y0 y1 μ = some (r, μ')) : V φ ΩB 8 d 158 [some (rf φ 0 0), some (.int x1), none, some (.int x3), some (.int x4), none, some (.int x6), none] [.int y1, .int y0] μ (some (.int r), μ') := by
  unfold M_grooms_158 at h
  refine V.iadd F dX10_grooms_158 ?_
  obtain ⟨a1, ea1, h⟩ := nm_out h
  refine V.istore (L' := [some (rf φ 0 0), some (.int x1), none, some (.int x3), some (.int x4), some (.int a1), some (.int x6), none]) F dX10_grooms_159 (by decide) rfl ea1 rfl ?_
  obtain ⟨a2, ea2, h⟩ := nm_out h
  refine V.iinc (z := 1) (L' := [some (rf φ 0 0), some (.int x1), none, some (.int x3), some (.int x4), some (.int a1), some (.int a2), none]) F dX10_grooms_161 rfl (by decide) ea2 (by decide) rfl rfl ?_
  refine V.goto (tgt := 75) F dX10_grooms_164 (by decide) ?_
  exact hk75 _ _ _ _ _ _ _ _ h
def M_grooms_75 (k75 : Int32 → Int32 → Int32 → Int32 → Int32 → Mem → Option (Int32 × Mem)) (x1 : Int32) (x3 : Int32) (x4 : Int32) (x5 : Int32) (x6 : Int32) (μ : Mem) : Option (Int32 × Mem) :=
  if x6 < x4 then (
    if x3 < 0 then (
      some ((-12), μ))
    else (
      chk (inb x1 4) <|
      if (((rd μ 15 0 (ix x1)) - (3 * x6)) - 3) < x3 then (
        some ((-12), μ))
      else (
        nm (((40 * x1) + x3) + (3 * x6)) fun a5 =>
        chk (inb a5 160) <|
        chk (inb (a5 + 1) 160) <|
        chk (inb (a5 + 2) 160) <|
        bnd2 (M_groom (rd μ 16 0 (ix a5)) (rd μ 16 0 (ix (a5 + 1))) (rd μ 16 0 (ix (a5 + 2))) μ) fun r10 μ11 =>
        if r10 < 0 then (
          M_grooms_158 k75 x1 x3 x4 x6 x5 0 μ11)
        else (
          M_grooms_158 k75 x1 x3 x4 x6 x5 1 μ11))))
  else (
    some (x5, μ))
set_option maxHeartbeats 4000000 in
set_option maxRecDepth 100000 in
theorem M_grooms_75_ok {φ : Fr} {d : Nat} (F : Fx φ ΩB cX10_grooms RX10 8 (some .int)) (hd : 3 ≤ d) {k75 : Int32 → Int32 → Int32 → Int32 → Int32 → Mem → Option (Int32 × Mem)} (hk75 : ∀ (x1 : Int32) (x3 : Int32) (x4 : Int32) (x5 : Int32) (x6 : Int32) (μ : Mem) (r : Int32) (μ' : Mem), k75 x1 x3 x4 x5 x6 μ = some (r, μ') → V φ ΩB 8 d 75 [some (rf φ 0 0), some (.int x1), none, some (.int x3), some (.int x4), some (.int x5), some (.int x6), none] [] μ (some (.int r), μ')) {x1 : Int32} {x3 : Int32} {x4 : Int32} {x5 : Int32} {x6 : Int32} {μ : Mem} {r : Int32} {μ' : Mem} (h : M_grooms_75 k75 x1 x3 x4 x5 x6 μ = some (r, μ')) : V φ ΩB 8 d 75 [some (rf φ 0 0), some (.int x1), none, some (.int x3), some (.int x4), some (.int x5), some (.int x6), none] [] μ (some (.int r), μ') := by
  unfold M_grooms_75 at h
  refine V.iload F dX10_grooms_75 rfl ?_
  refine V.iload F dX10_grooms_77 rfl ?_
  refine V.icmp_ge (tgt := 167) F dX10_grooms_79 (by decide) (fun c1 => ?_) (fun c1 => ?_)
  · have h := f_out h c1
    refine V.iload F dX10_grooms_167 rfl ?_
    obtain ⟨rfl, rfl⟩ := r2_out h
    exact V.iret F dX10_grooms_169
  · have h := t_out h c1
    refine V.iload_n F dX10_grooms_82 rfl rfl ?_
    refine V.if_lt (tgt := 103) F dX10_grooms_83 (by decide) (fun c2 => ?_) (fun c2 => ?_)
    · have h := t_out h c2
      refine V.bipush (v := (-12)) F dX10_grooms_103 (by decide) ?_
      obtain ⟨rfl, rfl⟩ := r2_out h
      exact V.iret F dX10_grooms_105
    · have h := f_out h c2
      refine V.iload_n F dX10_grooms_86 rfl rfl ?_
      refine V.rload_n F dX10_grooms_87 rfl rfl ?_
      refine gf_RX10_63 F dX10_grooms_88 ?_
      refine V.iload_n F dX10_grooms_91 rfl rfl ?_
      obtain ⟨c3, h⟩ := chk_out h
      refine V.iald (t0 := 0) (n := 4) F mB15 rfl rfl c3 dX10_grooms_92 ?_
      refine V.iconst (v := 3) F dX10_grooms_93 (by decide) ?_
      refine V.iload F dX10_grooms_94 rfl ?_
      refine V.imul F dX10_grooms_96 ?_
      refine V.isub F dX10_grooms_97 ?_
      refine V.iconst (v := 3) F dX10_grooms_98 (by decide) ?_
      refine V.isub F dX10_grooms_99 ?_
      refine V.icmp_le (tgt := 106) F dX10_grooms_100 (by decide) (fun c4 => ?_) (fun c4 => ?_)
      · have h := f_out h c4
        refine V.bipush (v := 40) F dX10_grooms_106 (by decide) ?_
        refine V.iload_n F dX10_grooms_108 rfl rfl ?_
        refine V.imul F dX10_grooms_109 ?_
        refine V.iload_n F dX10_grooms_110 rfl rfl ?_
        refine V.iadd F dX10_grooms_111 ?_
        refine V.iconst (v := 3) F dX10_grooms_112 (by decide) ?_
        refine V.iload F dX10_grooms_113 rfl ?_
        refine V.imul F dX10_grooms_115 ?_
        refine V.iadd F dX10_grooms_116 ?_
        obtain ⟨a5, ea5, h⟩ := nm_out h
        refine V.istore (L' := [some (rf φ 0 0), some (.int x1), none, some (.int x3), some (.int x4), some (.int x5), some (.int x6), some (.int a5)]) F dX10_grooms_117 (by decide) rfl ea5 rfl ?_
        refine V.iload F dX10_grooms_119 rfl ?_
        refine V.rload_n F dX10_grooms_121 rfl rfl ?_
        refine V.rload_n F dX10_grooms_122 rfl rfl ?_
        refine gf_RX10_66 F dX10_grooms_123 ?_
        refine V.iload F dX10_grooms_126 rfl ?_
        obtain ⟨c6, h⟩ := chk_out h
        refine V.iald (t0 := 0) (n := 160) F mB16 rfl rfl c6 dX10_grooms_128 ?_
        refine V.rload_n F dX10_grooms_129 rfl rfl ?_
        refine gf_RX10_66 F dX10_grooms_130 ?_
        refine V.iload F dX10_grooms_133 rfl ?_
        refine V.iconst (v := 1) F dX10_grooms_135 (by decide) ?_
        refine V.iadd F dX10_grooms_136 ?_
        obtain ⟨c7, h⟩ := chk_out h
        refine V.iald (t0 := 0) (n := 160) F mB16 rfl rfl c7 dX10_grooms_137 ?_
        refine V.rload_n F dX10_grooms_138 rfl rfl ?_
        refine gf_RX10_66 F dX10_grooms_139 ?_
        refine V.iload F dX10_grooms_142 rfl ?_
        refine V.iconst (v := 2) F dX10_grooms_144 (by decide) ?_
        refine V.iadd F dX10_grooms_145 ?_
        obtain ⟨c8, h⟩ := chk_out h
        refine V.iald (t0 := 0) (n := 160) F mB16 rfl rfl c8 dX10_grooms_146 ?_
        obtain ⟨r10, μ11, e9, h⟩ := bnd2_out h
        refine V.callVi (f := 0) (i := 0) (As := [.int (rd μ 16 0 (ix a5)), .int (rd μ 16 0 (ix (a5 + 1))), .int (rd μ 16 0 (ix (a5 + 2)))]) F ck_RX10_367 (M_groom_ct e9) (by omega) (by decide) rfl mB0 rfl rfl rfl (Nat.le_of_ble_eq_true rfl) dX10_grooms_147 ?_
        refine V.if_lt (tgt := 157) F dX10_grooms_150 (by decide) (fun c12 => ?_) (fun c12 => ?_)
        · have h := t_out h c12
          refine V.iconst (v := 0) F dX10_grooms_157 (by decide) ?_
          refine V.msk (L' := [some (rf φ 0 0), some (.int x1), none, some (.int x3), some (.int x4), none, some (.int x6), none]) [true, true, false, true, true, false, true, false] rfl ?_
          exact M_grooms_158_ok F hd hk75 h
        · have h := f_out h c12
          refine V.iconst (v := 1) F dX10_grooms_153 (by decide) ?_
          refine V.goto (tgt := 158) F dX10_grooms_154 (by decide) ?_
          refine V.msk (L' := [some (rf φ 0 0), some (.int x1), none, some (.int x3), some (.int x4), none, some (.int x6), none]) [true, true, false, true, true, false, true, false] rfl ?_
          exact M_grooms_158_ok F hd hk75 h
      · have h := t_out h c4
        refine V.bipush (v := (-12)) F dX10_grooms_103 (by decide) ?_
        obtain ⟨rfl, rfl⟩ := r2_out h
        exact V.iret F dX10_grooms_105
def M_grooms_75L : Nat → Int32 → Int32 → Int32 → Int32 → Int32 → Mem → Option (Int32 × Mem)
  | 0 => fun _ _ _ _ _ _ => none
  | n + 1 => M_grooms_75 (M_grooms_75L n)
set_option maxHeartbeats 4000000 in
set_option maxRecDepth 100000 in
theorem M_grooms_75L_ok {φ : Fr} {d : Nat} (F : Fx φ ΩB cX10_grooms RX10 8 (some .int)) (hd : 3 ≤ d) : ∀ (n : Nat) (x1 : Int32) (x3 : Int32) (x4 : Int32) (x5 : Int32) (x6 : Int32) (μ : Mem) (r : Int32) (μ' : Mem), M_grooms_75L n x1 x3 x4 x5 x6 μ = some (r, μ') → V φ ΩB 8 d 75 [some (rf φ 0 0), some (.int x1), none, some (.int x3), some (.int x4), some (.int x5), some (.int x6), none] [] μ (some (.int r), μ') := by
  intro n
  induction n with
  | zero => intro x1 x3 x4 x5 x6 μ r μ' h; cases h
  | succ n ih => intro x1 x3 x4 x5 x6 μ r μ' h; exact M_grooms_75_ok F hd ih h
def M_grooms_57 (x1 : Int32) (x3 : Int32) (x4 : Int32) (μ : Mem) : Option (Int32 × Mem) :=
  chk (inb x1 4) <|
  if (rd μ 13 0 (ix x1)) = 0 then (
    some ((-11), μ))
  else (
    M_grooms_75L 1000 x1 x3 x4 0 0 μ)
set_option maxHeartbeats 4000000 in
set_option maxRecDepth 100000 in
theorem M_grooms_57_ok {φ : Fr} {d : Nat} (F : Fx φ ΩB cX10_grooms RX10 8 (some .int)) (hd : 3 ≤ d) {x1 : Int32} {x3 : Int32} {x4 : Int32} {μ : Mem} {r : Int32} {μ' : Mem} (h : M_grooms_57 x1 x3 x4 μ = some (r, μ')) : V φ ΩB 8 d 57 [some (rf φ 0 0), some (.int x1), none, some (.int x3), some (.int x4), none, none, none] [] μ (some (.int r), μ') := by
  unfold M_grooms_57 at h
  refine V.rload_n F dX10_grooms_57 rfl rfl ?_
  refine gf_RX10_56 F dX10_grooms_58 ?_
  refine V.iload_n F dX10_grooms_61 rfl rfl ?_
  obtain ⟨c1, h⟩ := chk_out h
  refine V.zald (t0 := 1) (n := 4) F mB13 rfl rfl c1 dX10_grooms_62 ?_
  refine V.if_ne (tgt := 69) F dX10_grooms_63 (by decide) (fun c2 => ?_) (fun c2 => ?_)
  · have h := f_out h c2
    refine V.iconst (v := 0) F dX10_grooms_69 (by decide) ?_
    refine V.istore (L' := [some (rf φ 0 0), some (.int x1), none, some (.int x3), some (.int x4), some (.int 0), none, none]) F dX10_grooms_70 (by decide) rfl rfl rfl ?_
    refine V.iconst (v := 0) F dX10_grooms_72 (by decide) ?_
    refine V.istore (L' := [some (rf φ 0 0), some (.int x1), none, some (.int x3), some (.int x4), some (.int 0), some (.int 0), none]) F dX10_grooms_73 (by decide) rfl rfl rfl ?_
    exact M_grooms_75L_ok F hd 1000 _ _ _ _ _ _ _ _ h
  · have h := t_out h c2
    refine V.bipush (v := (-11)) F dX10_grooms_66 (by decide) ?_
    obtain ⟨rfl, rfl⟩ := r2_out h
    exact V.iret F dX10_grooms_68
def M_grooms (x1 : Int32) (x2 : Int32) (x3 : Int32) (x4 : Int32) (μ : Mem) : Option (Int32 × Mem) :=
  bnd (M_isSheet x1) fun r2 =>
  if r2 = 0 then (
    some ((-2), μ))
  else (
    nm (M_in (Int32.toInt64 x2) 0 2) fun r5 =>
    if r5 = 0 then (
      some ((-2), μ))
    else (
      nm (M_in (Int32.toInt64 x4) 0 6) fun r8 =>
      if r8 = 0 then (
        some ((-2), μ))
      else (
        chk (inb x1 4) <|
        if (rd μ 13 0 (ix x1)) = 0 then (
          M_grooms_57 x1 x3 x4 μ)
        else (
          chk (inb x1 4) <|
          if (rd μ 14 0 (ix x1)) = x2 then (
            M_grooms_57 x1 x3 x4 μ)
          else (
            some ((-13), μ))))))
set_option maxHeartbeats 4000000 in
set_option maxRecDepth 100000 in
theorem M_grooms_ok {φ : Fr} {d : Nat} (F : Fx φ ΩB cX10_grooms RX10 8 (some .int)) (hd : 3 ≤ d) {x1 : Int32} {x2 : Int32} {x3 : Int32} {x4 : Int32} {μ : Mem} {r : Int32} {μ' : Mem} (h : M_grooms x1 x2 x3 x4 μ = some (r, μ')) : V φ ΩB 8 d 0 [some (rf φ 0 0), some (.int x1), some (.int x2), some (.int x3), some (.int x4), none, none, none] [] μ (some (.int r), μ') := by
  unfold M_grooms at h
  refine V.iload_n F dX10_grooms_0 rfl rfl ?_
  obtain ⟨r2, e1, h⟩ := bnd_out h
  refine V.callSi (As := [.int x1]) F ck_RX10_323 (M_isSheet_ct e1) (by omega) (by decide) rfl rfl (Nat.le_of_ble_eq_true rfl) dX10_grooms_1 ?_
  refine V.if_eq (tgt := 32) F dX10_grooms_4 (by decide) (fun c3 => ?_) (fun c3 => ?_)
  · have h := t_out h c3
    refine V.bipush (v := (-2)) F dX10_grooms_32 (by decide) ?_
    obtain ⟨rfl, rfl⟩ := r2_out h
    exact V.iret F dX10_grooms_34
  · have h := f_out h c3
    refine V.iload_n F dX10_grooms_7 rfl rfl ?_
    refine V.i2l F dX10_grooms_8 ?_
    refine V.lconst (v := 0) F dX10_grooms_9 (by decide) ?_
    refine V.ldc2 F kl_RX10_363 dX10_grooms_10 ?_
    obtain ⟨r5, e4, h⟩ := nm_out h
    refine V.callSi (As := [.long (Int32.toInt64 x2), .long 0, .long 2]) F ck_RX10_79 (M_in_ct e4) (by omega) (by decide) rfl rfl (Nat.le_of_ble_eq_true rfl) dX10_grooms_13 ?_
    refine V.if_eq (tgt := 32) F dX10_grooms_16 (by decide) (fun c6 => ?_) (fun c6 => ?_)
    · have h := t_out h c6
      refine V.bipush (v := (-2)) F dX10_grooms_32 (by decide) ?_
      obtain ⟨rfl, rfl⟩ := r2_out h
      exact V.iret F dX10_grooms_34
    · have h := f_out h c6
      refine V.iload F dX10_grooms_19 rfl ?_
      refine V.i2l F dX10_grooms_21 ?_
      refine V.lconst (v := 0) F dX10_grooms_22 (by decide) ?_
      refine V.ldc2 F kl_RX10_365 dX10_grooms_23 ?_
      obtain ⟨r8, e7, h⟩ := nm_out h
      refine V.callSi (As := [.long (Int32.toInt64 x4), .long 0, .long 6]) F ck_RX10_79 (M_in_ct e7) (by omega) (by decide) rfl rfl (Nat.le_of_ble_eq_true rfl) dX10_grooms_26 ?_
      refine V.if_ne (tgt := 35) F dX10_grooms_29 (by decide) (fun c9 => ?_) (fun c9 => ?_)
      · have h := f_out h c9
        refine V.rload_n F dX10_grooms_35 rfl rfl ?_
        refine gf_RX10_56 F dX10_grooms_36 ?_
        refine V.iload_n F dX10_grooms_39 rfl rfl ?_
        obtain ⟨c10, h⟩ := chk_out h
        refine V.zald (t0 := 1) (n := 4) F mB13 rfl rfl c10 dX10_grooms_40 ?_
        refine V.if_eq (tgt := 57) F dX10_grooms_41 (by decide) (fun c11 => ?_) (fun c11 => ?_)
        · have h := t_out h c11
          refine V.msk (L' := [some (rf φ 0 0), some (.int x1), none, some (.int x3), some (.int x4), none, none, none]) [true, true, false, true, true, false, false, false] rfl ?_
          exact M_grooms_57_ok F hd h
        · have h := f_out h c11
          refine V.rload_n F dX10_grooms_44 rfl rfl ?_
          refine gf_RX10_60 F dX10_grooms_45 ?_
          refine V.iload_n F dX10_grooms_48 rfl rfl ?_
          obtain ⟨c12, h⟩ := chk_out h
          refine V.iald (t0 := 0) (n := 4) F mB14 rfl rfl c12 dX10_grooms_49 ?_
          refine V.iload_n F dX10_grooms_50 rfl rfl ?_
          refine V.icmp_eq (tgt := 57) F dX10_grooms_51 (by decide) (fun c13 => ?_) (fun c13 => ?_)
          · have h := t_out h c13
            refine V.msk (L' := [some (rf φ 0 0), some (.int x1), none, some (.int x3), some (.int x4), none, none, none]) [true, true, false, true, true, false, false, false] rfl ?_
            exact M_grooms_57_ok F hd h
          · have h := f_out h c13
            refine V.bipush (v := (-13)) F dX10_grooms_54 (by decide) ?_
            obtain ⟨rfl, rfl⟩ := r2_out h
            exact V.iret F dX10_grooms_56
      · have h := t_out h c9
        refine V.bipush (v := (-2)) F dX10_grooms_32 (by decide) ?_
        obtain ⟨rfl, rfl⟩ := r2_out h
        exact V.iret F dX10_grooms_34
set_option maxHeartbeats 4000000 in
set_option maxRecDepth 100000 in
theorem M_grooms_ct {l : Launch} {G : Glo} {x1 : Int32} {x2 : Int32} {x3 : Int32} {x4 : Int32} {μ : Mem} {r : Int32} {μ' : Mem} (h : M_grooms x1 x2 x3 x4 μ = some (r, μ')) : Ct l ΩB G 3 yX10_grooms cX10_grooms 8 (some .int) [.ref (G.1 0 0), .int x1, .int x2, .int x3, .int x4] μ (some (.int r), μ') := by
  refine Ct.intro (by decide) (Nat.le_of_ble_eq_true rfl) ?_
  intro φ hl hG F
  subst hl; subst hG
  exact M_grooms_ok F (Nat.le_refl _) h
def M_over (x0 : Int32) : Int32 :=
  if x0 = 0 then (
    (-1))
  else (
    if x0 = 3 then (
      1)
    else (
      if x0 = 4 then (
        2)
      else (
        0)))
set_option maxHeartbeats 4000000 in
set_option maxRecDepth 100000 in
theorem M_over_ok {φ : Fr} {d : Nat} (F : Fx φ ΩB cX10_over RX10 1 (some .int)) (hd : 1 ≤ d) {x0 : Int32} {μ : Mem} {r : Int32} (h : M_over x0 = r) : V φ ΩB 1 d 0 [some (.int x0)] [] μ (some (.int r), μ) := by
  unfold M_over at h
  refine V.iload_n F dX10_over_0 rfl rfl ?_
  refine V.if_ne (tgt := 8) F dX10_over_1 (by decide) (fun c1 => ?_) (fun c1 => ?_)
  · have h := f_out h c1
    refine V.iload_n F dX10_over_8 rfl rfl ?_
    refine V.iconst (v := 3) F dX10_over_9 (by decide) ?_
    refine V.icmp_ne (tgt := 17) F dX10_over_10 (by decide) (fun c2 => ?_) (fun c2 => ?_)
    · have h := f_out h c2
      refine V.iload_n F dX10_over_17 rfl rfl ?_
      refine V.iconst (v := 4) F dX10_over_18 (by decide) ?_
      refine V.icmp_ne (tgt := 26) F dX10_over_19 (by decide) (fun c3 => ?_) (fun c3 => ?_)
      · have h := f_out h c3
        refine V.iconst (v := 0) F dX10_over_26 (by decide) ?_
        obtain rfl := h
        exact V.iret F dX10_over_27
      · have h := t_out h c3
        refine V.iconst (v := 2) F dX10_over_22 (by decide) ?_
        refine V.goto (tgt := 27) F dX10_over_23 (by decide) ?_
        obtain rfl := h
        exact V.iret F dX10_over_27
    · have h := t_out h c2
      refine V.iconst (v := 1) F dX10_over_13 (by decide) ?_
      refine V.goto (tgt := 27) F dX10_over_14 (by decide) ?_
      obtain rfl := h
      exact V.iret F dX10_over_27
  · have h := t_out h c1
    refine V.iconst (v := (-1)) F dX10_over_4 (by decide) ?_
    refine V.goto (tgt := 27) F dX10_over_5 (by decide) ?_
    obtain rfl := h
    exact V.iret F dX10_over_27
set_option maxHeartbeats 4000000 in
set_option maxRecDepth 100000 in
theorem M_over_ct {l : Launch} {G : Glo} {x0 : Int32} {μ : Mem} {r : Int32} (h : M_over x0 = r) : Ct l ΩB G 1 yX10_over cX10_over 1 (some .int) [.int x0] μ (some (.int r), μ) := by
  refine Ct.intro (by decide) (Nat.le_of_ble_eq_true rfl) ?_
  intro φ hl hG F
  subst hl; subst hG
  exact M_over_ok F (Nat.le_refl _) h
def M_taken_51 (x1 : Int32) (x2 : Int32) (x3 : Int32) (μ : Mem) : Option Int32 :=
  if x3 = x2 then (
    chk (inb (3 * x1) 18) <|
    some (rd μ 5 0 (ix (3 * x1))))
  else (
    some (-13))
set_option maxHeartbeats 4000000 in
set_option maxRecDepth 100000 in
theorem M_taken_51_ok {φ : Fr} {d : Nat} (F : Fx φ ΩB cX10_taken RX10 4 (some .int)) (hd : 3 ≤ d) {x1 : Int32} {x2 : Int32} {x3 : Int32} {μ : Mem} {r : Int32} (h : M_taken_51 x1 x2 x3 μ = some r) : V φ ΩB 4 d 51 [some (rf φ 0 0), some (.int x1), some (.int x2), some (.int x3)] [] μ (some (.int r), μ) := by
  unfold M_taken_51 at h
  refine V.iload_n F dX10_taken_51 rfl rfl ?_
  refine V.iload_n F dX10_taken_52 rfl rfl ?_
  refine V.icmp_ne (tgt := 67) F dX10_taken_53 (by decide) (fun c1 => ?_) (fun c1 => ?_)
  · have h := f_out h c1
    refine V.bipush (v := (-13)) F dX10_taken_67 (by decide) ?_
    obtain rfl := r1_out h
    exact V.iret F dX10_taken_69
  · have h := t_out h c1
    refine V.rload_n F dX10_taken_56 rfl rfl ?_
    refine gf_RX10_29 F dX10_taken_57 ?_
    refine V.iconst (v := 3) F dX10_taken_60 (by decide) ?_
    refine V.iload_n F dX10_taken_61 rfl rfl ?_
    refine V.imul F dX10_taken_62 ?_
    obtain ⟨c2, h⟩ := chk_out h
    refine V.iald (t0 := 0) (n := 18) F mB5 rfl rfl c2 dX10_taken_63 ?_
    refine V.goto (tgt := 69) F dX10_taken_64 (by decide) ?_
    obtain rfl := r1_out h
    exact V.iret F dX10_taken_69
def M_taken_33 (k33 : Int32 → Int32 → Int32 → Mem → Option Int32) (x1 : Int32) (x2 : Int32) (x3 : Int32) (μ : Mem) : Option Int32 :=
  if x3 = (-1) then (
    M_taken_51 x1 x2 x3 μ)
  else (
    if x3 = x2 then (
      M_taken_51 x1 x2 x3 μ)
    else (
      nm (M_over x3) fun r4 =>
      k33 x1 x2 r4 μ))
set_option maxHeartbeats 4000000 in
set_option maxRecDepth 100000 in
theorem M_taken_33_ok {φ : Fr} {d : Nat} (F : Fx φ ΩB cX10_taken RX10 4 (some .int)) (hd : 3 ≤ d) {k33 : Int32 → Int32 → Int32 → Mem → Option Int32} (hk33 : ∀ (x1 : Int32) (x2 : Int32) (x3 : Int32) (μ : Mem) (r : Int32), k33 x1 x2 x3 μ = some r → V φ ΩB 4 d 33 [some (rf φ 0 0), some (.int x1), some (.int x2), some (.int x3)] [] μ (some (.int r), μ)) {x1 : Int32} {x2 : Int32} {x3 : Int32} {μ : Mem} {r : Int32} (h : M_taken_33 k33 x1 x2 x3 μ = some r) : V φ ΩB 4 d 33 [some (rf φ 0 0), some (.int x1), some (.int x2), some (.int x3)] [] μ (some (.int r), μ) := by
  unfold M_taken_33 at h
  refine V.iload_n F dX10_taken_33 rfl rfl ?_
  refine V.iconst (v := (-1)) F dX10_taken_34 (by decide) ?_
  refine V.icmp_eq (tgt := 51) F dX10_taken_35 (by decide) (fun c1 => ?_) (fun c1 => ?_)
  · have h := t_out h c1
    exact M_taken_51_ok F hd h
  · have h := f_out h c1
    refine V.iload_n F dX10_taken_38 rfl rfl ?_
    refine V.iload_n F dX10_taken_39 rfl rfl ?_
    refine V.icmp_eq (tgt := 51) F dX10_taken_40 (by decide) (fun c2 => ?_) (fun c2 => ?_)
    · have h := t_out h c2
      exact M_taken_51_ok F hd h
    · have h := f_out h c2
      refine V.iload_n F dX10_taken_43 rfl rfl ?_
      obtain ⟨r4, e3, h⟩ := nm_out h
      refine V.callSi (As := [.int x3]) F ck_RX10_370 (M_over_ct e3) (by omega) (by decide) rfl rfl (Nat.le_of_ble_eq_true rfl) dX10_taken_44 ?_
      refine V.istore_n (L' := [some (rf φ 0 0), some (.int x1), some (.int x2), some (.int r4)]) F dX10_taken_47 rfl (by decide) rfl rfl rfl ?_
      refine V.goto (tgt := 33) F dX10_taken_48 (by decide) ?_
      exact hk33 _ _ _ _ _ h
def M_taken_33L : Nat → Int32 → Int32 → Int32 → Mem → Option Int32
  | 0 => fun _ _ _ _ => none
  | n + 1 => M_taken_33 (M_taken_33L n)
set_option maxHeartbeats 4000000 in
set_option maxRecDepth 100000 in
theorem M_taken_33L_ok {φ : Fr} {d : Nat} (F : Fx φ ΩB cX10_taken RX10 4 (some .int)) (hd : 3 ≤ d) : ∀ (n : Nat) (x1 : Int32) (x2 : Int32) (x3 : Int32) (μ : Mem) (r : Int32), M_taken_33L n x1 x2 x3 μ = some r → V φ ΩB 4 d 33 [some (rf φ 0 0), some (.int x1), some (.int x2), some (.int x3)] [] μ (some (.int r), μ) := by
  intro n
  induction n with
  | zero => intro x1 x2 x3 μ r h; cases h
  | succ n ih => intro x1 x2 x3 μ r h; exact M_taken_33_ok F hd ih h
def M_taken (x1 : Int32) (x2 : Int32) (μ : Mem) : Option Int32 :=
  nm (M_in (Int32.toInt64 x2) 0 5) fun r2 =>
  if r2 = 0 then (
    some (-2))
  else (
    bnd (M_isOne x1 μ) fun r5 =>
    if r5 = 0 then (
      some (-11))
    else (
      chk (inb x1 6) <|
      nm (rd μ 4 0 (ix x1)) fun a8 =>
      M_taken_33L 1000 x1 x2 a8 μ))
set_option maxHeartbeats 4000000 in
set_option maxRecDepth 100000 in
theorem M_taken_ok {φ : Fr} {d : Nat} (F : Fx φ ΩB cX10_taken RX10 4 (some .int)) (hd : 3 ≤ d) {x1 : Int32} {x2 : Int32} {μ : Mem} {r : Int32} (h : M_taken x1 x2 μ = some r) : V φ ΩB 4 d 0 [some (rf φ 0 0), some (.int x1), some (.int x2), none] [] μ (some (.int r), μ) := by
  unfold M_taken at h
  refine V.iload_n F dX10_taken_0 rfl rfl ?_
  refine V.i2l F dX10_taken_1 ?_
  refine V.lconst (v := 0) F dX10_taken_2 (by decide) ?_
  refine V.ldc2 F kl_RX10_107 dX10_taken_3 ?_
  obtain ⟨r2, e1, h⟩ := nm_out h
  refine V.callSi (As := [.long (Int32.toInt64 x2), .long 0, .long 5]) F ck_RX10_79 (M_in_ct e1) (by omega) (by decide) rfl rfl (Nat.le_of_ble_eq_true rfl) dX10_taken_6 ?_
  refine V.if_ne (tgt := 15) F dX10_taken_9 (by decide) (fun c3 => ?_) (fun c3 => ?_)
  · have h := f_out h c3
    refine V.rload_n F dX10_taken_15 rfl rfl ?_
    refine V.iload_n F dX10_taken_16 rfl rfl ?_
    obtain ⟨r5, e4, h⟩ := bnd_out h
    refine V.callVi (f := 0) (i := 0) (As := [.int x1]) F ck_RX10_85 (M_isOne_ct e4) (by omega) (by decide) rfl mB0 rfl rfl rfl (Nat.le_of_ble_eq_true rfl) dX10_taken_17 ?_
    refine V.if_ne (tgt := 26) F dX10_taken_20 (by decide) (fun c6 => ?_) (fun c6 => ?_)
    · have h := f_out h c6
      refine V.rload_n F dX10_taken_26 rfl rfl ?_
      refine gf_RX10_26 F dX10_taken_27 ?_
      refine V.iload_n F dX10_taken_30 rfl rfl ?_
      obtain ⟨c7, h⟩ := chk_out h
      refine V.iald (t0 := 0) (n := 6) F mB4 rfl rfl c7 dX10_taken_31 ?_
      obtain ⟨a8, ea8, h⟩ := nm_out h
      refine V.istore_n (L' := [some (rf φ 0 0), some (.int x1), some (.int x2), some (.int a8)]) F dX10_taken_32 rfl (by decide) rfl ea8 rfl ?_
      exact M_taken_33L_ok F hd 1000 _ _ _ _ _ h
    · have h := t_out h c6
      refine V.bipush (v := (-11)) F dX10_taken_23 (by decide) ?_
      obtain rfl := r1_out h
      exact V.iret F dX10_taken_25
  · have h := t_out h c3
    refine V.bipush (v := (-2)) F dX10_taken_12 (by decide) ?_
    obtain rfl := r1_out h
    exact V.iret F dX10_taken_14
set_option maxHeartbeats 4000000 in
set_option maxRecDepth 100000 in
theorem M_taken_ct {l : Launch} {G : Glo} {x1 : Int32} {x2 : Int32} {μ : Mem} {r : Int32} (h : M_taken x1 x2 μ = some r) : Ct l ΩB G 3 yX10_taken cX10_taken 4 (some .int) [.ref (G.1 0 0), .int x1, .int x2] μ (some (.int r), μ) := by
  refine Ct.intro (by decide) (Nat.le_of_ble_eq_true rfl) ?_
  intro φ hl hG F
  subst hl; subst hG
  exact M_taken_ok F (Nat.le_refl _) h
