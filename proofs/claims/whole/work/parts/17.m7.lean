def M_best (x1 : Int32) (x2 : Int32) (μ : Mem) : Option (Int32 × Mem) :=
  nm (M_in (Int32.toInt64 x1) 0 10) fun r2 =>
  if r2 = 0 then (
    some ((-2), μ))
  else (
    nm (M_in (Int32.toInt64 x2) 0 1) fun r5 =>
    if r5 = 0 then (
      some ((-2), μ))
    else (
      bnd (M_tables x1 μ) fun μ8 =>
      nm (up μ8 0 0 32 0) fun μ9 =>
      bnd (M_seeksR 100 0 0 0 0 0 μ9) fun μ11 =>
      if x2 = 0 then (
        some (rd μ11 0 0 33, μ11))
      else (
        some (rd μ11 0 0 34, μ11))))
set_option maxHeartbeats 4000000 in
set_option maxRecDepth 100000 in
theorem M_best_ok {φ : Fr} {d : Nat} (F : Fx φ ΩB cX10_best RX10 3 (some .int)) (hd : 112 ≤ d) {x1 : Int32} {x2 : Int32} {μ : Mem} {r : Int32} {μ' : Mem} (h : M_best x1 x2 μ = some (r, μ')) : V φ ΩB 3 d 0 [some (rf φ 0 0), some (.int x1), some (.int x2)] [] μ (some (.int r), μ') := by
  unfold M_best at h
  refine V.iload_n F dX10_best_0 rfl rfl ?_
  refine V.i2l F dX10_best_1 ?_
  refine V.lconst (v := 0) F dX10_best_2 (by decide) ?_
  refine V.ldc2 F kl_RX10_117 dX10_best_3 ?_
  obtain ⟨r2, e1, h⟩ := nm_out h
  refine V.callSi (As := [.long (Int32.toInt64 x1), .long 0, .long 10]) F ck_RX10_79 (M_in_ct e1) (by omega) (by decide) rfl rfl (Nat.le_of_ble_eq_true rfl) dX10_best_6 ?_
  refine V.if_eq (tgt := 22) F dX10_best_9 (by decide) (fun c3 => ?_) (fun c3 => ?_)
  · have h := t_out h c3
    refine V.bipush (v := (-2)) F dX10_best_22 (by decide) ?_
    obtain ⟨rfl, rfl⟩ := r2_out h
    exact V.iret F dX10_best_24
  · have h := f_out h c3
    refine V.iload_n F dX10_best_12 rfl rfl ?_
    refine V.i2l F dX10_best_13 ?_
    refine V.lconst (v := 0) F dX10_best_14 (by decide) ?_
    refine V.lconst (v := 1) F dX10_best_15 (by decide) ?_
    obtain ⟨r5, e4, h⟩ := nm_out h
    refine V.callSi (As := [.long (Int32.toInt64 x2), .long 0, .long 1]) F ck_RX10_79 (M_in_ct e4) (by omega) (by decide) rfl rfl (Nat.le_of_ble_eq_true rfl) dX10_best_16 ?_
    refine V.if_ne (tgt := 25) F dX10_best_19 (by decide) (fun c6 => ?_) (fun c6 => ?_)
    · have h := f_out h c6
      refine V.rload_n F dX10_best_25 rfl rfl ?_
      refine V.iload_n F dX10_best_26 rfl rfl ?_
      obtain ⟨μ8, e7, h⟩ := bnd_out h
      refine V.callVv (f := 0) (i := 0) (As := [.int x1]) F ck_RX10_284 (M_tables_ct e7) (by omega) (by decide) rfl mB0 rfl rfl rfl (Nat.le_of_ble_eq_true rfl) dX10_best_27 ?_
      refine V.rload_n F dX10_best_30 rfl rfl ?_
      refine V.iconst (v := 0) F dX10_best_31 (by decide) ?_
      obtain ⟨μ9, eμ9, h⟩ := nm_out h
      refine pf_RX10_291 (by decide) F eμ9 dX10_best_32 ?_
      refine V.rload_n F dX10_best_35 rfl rfl ?_
      refine V.iconst (v := 0) F dX10_best_36 (by decide) ?_
      refine V.iconst (v := 0) F dX10_best_37 (by decide) ?_
      refine V.iconst (v := 0) F dX10_best_38 (by decide) ?_
      refine V.iconst (v := 0) F dX10_best_39 (by decide) ?_
      obtain ⟨μ11, e10, h⟩ := bnd_out h
      refine V.callVv (f := 0) (i := 0) (As := [.int 0, .int 0, .int 0, .int 0]) F ck_RX10_300 (M_seeksR_ct 100 0 _ _ _ _ _ _ e10) (by omega) (by decide) rfl mB0 rfl rfl rfl (Nat.le_of_ble_eq_true rfl) dX10_best_40 ?_
      refine V.iload_n F dX10_best_43 rfl rfl ?_
      refine V.if_ne (tgt := 54) F dX10_best_44 (by decide) (fun c12 => ?_) (fun c12 => ?_)
      · have h := f_out h c12
        refine V.rload_n F dX10_best_54 rfl rfl ?_
        refine gf_RX10_294 F dX10_best_55 ?_
        obtain ⟨rfl, rfl⟩ := r2_out h
        exact V.iret F dX10_best_58
      · have h := t_out h c12
        refine V.rload_n F dX10_best_47 rfl rfl ?_
        refine gf_RX10_297 F dX10_best_48 ?_
        refine V.goto (tgt := 58) F dX10_best_51 (by decide) ?_
        obtain ⟨rfl, rfl⟩ := r2_out h
        exact V.iret F dX10_best_58
    · have h := t_out h c6
      refine V.bipush (v := (-2)) F dX10_best_22 (by decide) ?_
      obtain ⟨rfl, rfl⟩ := r2_out h
      exact V.iret F dX10_best_24
set_option maxHeartbeats 4000000 in
set_option maxRecDepth 100000 in
theorem M_best_ct {l : Launch} {G : Glo} {x1 : Int32} {x2 : Int32} {μ : Mem} {r : Int32} {μ' : Mem} (h : M_best x1 x2 μ = some (r, μ')) : Ct l ΩB G 112 yX10_best cX10_best 3 (some .int) [.ref (G.1 0 0), .int x1, .int x2] μ (some (.int r), μ') := by
  refine Ct.intro (by decide) (Nat.le_of_ble_eq_true rfl) ?_
  intro φ hl hG F
  subst hl; subst hG
  exact M_best_ok F (Nat.le_refl _) h
def M_opens1 (x1 : Int32) (x2 : Int32) (μ : Mem) : Option Int32 :=
  if 7 < x1 then (
    chk (inb (3 * x2) 18) <|
    if (irm x1 8) = (irm (rd μ 5 0 (ix (3 * x2))) 8) then (
      some 1)
    else (
      some 0))
  else (
    some 0)
set_option maxHeartbeats 4000000 in
set_option maxRecDepth 100000 in
theorem M_opens1_ok {φ : Fr} {d : Nat} (F : Fx φ ΩB cX10_opens1 RX10 3 (some .boolean)) (hd : 1 ≤ d) {x1 : Int32} {x2 : Int32} {μ : Mem} {r : Int32} (h : M_opens1 x1 x2 μ = some r) : V φ ΩB 3 d 0 [some (rf φ 0 0), some (.int x1), some (.int x2)] [] μ (some (.int r), μ) := by
  unfold M_opens1 at h
  refine V.iload_n F dX10_opens1_0 rfl rfl ?_
  refine V.bipush (v := 7) F dX10_opens1_1 (by decide) ?_
  refine V.icmp_le (tgt := 28) F dX10_opens1_3 (by decide) (fun c1 => ?_) (fun c1 => ?_)
  · have h := f_out h c1
    refine V.iconst (v := 0) F dX10_opens1_28 (by decide) ?_
    obtain rfl := r1_out h
    exact V.zret F (by decide) dX10_opens1_29
  · have h := t_out h c1
    refine V.iload_n F dX10_opens1_6 rfl rfl ?_
    refine V.bipush (v := 8) F dX10_opens1_7 (by decide) ?_
    refine V.irem F dX10_opens1_9 (by decide) ?_
    refine V.rload_n F dX10_opens1_10 rfl rfl ?_
    refine gf_RX10_29 F dX10_opens1_11 ?_
    refine V.iconst (v := 3) F dX10_opens1_14 (by decide) ?_
    refine V.iload_n F dX10_opens1_15 rfl rfl ?_
    refine V.imul F dX10_opens1_16 ?_
    obtain ⟨c2, h⟩ := chk_out h
    refine V.iald (t0 := 0) (n := 18) F mB5 rfl rfl c2 dX10_opens1_17 ?_
    refine V.bipush (v := 8) F dX10_opens1_18 (by decide) ?_
    refine V.irem F dX10_opens1_20 (by decide) ?_
    refine V.icmp_ne (tgt := 28) F dX10_opens1_21 (by decide) (fun c3 => ?_) (fun c3 => ?_)
    · have h := f_out h c3
      refine V.iconst (v := 0) F dX10_opens1_28 (by decide) ?_
      obtain rfl := r1_out h
      exact V.zret F (by decide) dX10_opens1_29
    · have h := t_out h c3
      refine V.iconst (v := 1) F dX10_opens1_24 (by decide) ?_
      refine V.goto (tgt := 29) F dX10_opens1_25 (by decide) ?_
      obtain rfl := r1_out h
      exact V.zret F (by decide) dX10_opens1_29
set_option maxHeartbeats 4000000 in
set_option maxRecDepth 100000 in
theorem M_opens1_ct {l : Launch} {G : Glo} {x1 : Int32} {x2 : Int32} {μ : Mem} {r : Int32} (h : M_opens1 x1 x2 μ = some r) : Ct l ΩB G 1 yX10_opens1 cX10_opens1 3 (some .boolean) [.ref (G.1 0 0), .int x1, .int x2] μ (some (.int r), μ) := by
  refine Ct.intro (by decide) (Nat.le_of_ble_eq_true rfl) ?_
  intro φ hl hG F
  subst hl; subst hG
  exact M_opens1_ok F (Nat.le_refl _) h
def M_fromOf_69 (k4 : Int32 → Int32 → Mem → Option Int32) (k14 : Int32 → Int32 → Int32 → Mem → Option Int32) (k26 : Int32 → Int32 → Int32 → Int32 → Mem → Option Int32) (x3 : Int32) (x4 : Int32) (x5 : Int32) (y0 : Int32) (y1 : Int32) (μ : Mem) : Option Int32 :=
  nm (y0 ||| y1) fun a1 =>
  nm (x5 + 1) fun a2 =>
  k26 a1 x3 x4 a2 μ
set_option maxHeartbeats 4000000 in
set_option maxRecDepth 100000 in
theorem M_fromOf_69_ok {φ : Fr} {d : Nat} (F : Fx φ ΩB cX10_fromOf RX10 6 (some .int)) (hd : 2 ≤ d) {k4 : Int32 → Int32 → Mem → Option Int32} (hk4 : ∀ (x2 : Int32) (x3 : Int32) (μ : Mem) (r : Int32), k4 x2 x3 μ = some r → V φ ΩB 6 d 4 [some (rf φ 0 0), none, some (.int x2), some (.int x3), none, none] [] μ (some (.int r), μ)) {k14 : Int32 → Int32 → Int32 → Mem → Option Int32} (hk14 : ∀ (x2 : Int32) (x3 : Int32) (x4 : Int32) (μ : Mem) (r : Int32), k14 x2 x3 x4 μ = some r → V φ ΩB 6 d 14 [some (rf φ 0 0), none, some (.int x2), some (.int x3), some (.int x4), none] [] μ (some (.int r), μ)) {k26 : Int32 → Int32 → Int32 → Int32 → Mem → Option Int32} (hk26 : ∀ (x2 : Int32) (x3 : Int32) (x4 : Int32) (x5 : Int32) (μ : Mem) (r : Int32), k26 x2 x3 x4 x5 μ = some r → V φ ΩB 6 d 26 [some (rf φ 0 0), none, some (.int x2), some (.int x3), some (.int x4), some (.int x5)] [] μ (some (.int r), μ)) {x3 : Int32} {x4 : Int32} {x5 : Int32} {y0 : Int32} {y1 : Int32} {μ : Mem} {r : Int32} (h : M_fromOf_69 k4 k14 k26 x3 x4 x5 y0 y1 μ = some r) : V φ ΩB 6 d 69 [some (rf φ 0 0), none, none, some (.int x3), some (.int x4), some (.int x5)] [.int y1, .int y0] μ (some (.int r), μ) := by
  unfold M_fromOf_69 at h
  refine V.ior F dX10_fromOf_69 ?_
  obtain ⟨a1, ea1, h⟩ := nm_out h
  refine V.istore_n (L' := [some (rf φ 0 0), none, some (.int a1), some (.int x3), some (.int x4), some (.int x5)]) F dX10_fromOf_70 rfl (by decide) rfl ea1 rfl ?_
  obtain ⟨a2, ea2, h⟩ := nm_out h
  refine V.iinc (z := 1) (L' := [some (rf φ 0 0), none, some (.int a1), some (.int x3), some (.int x4), some (.int a2)]) F dX10_fromOf_71 rfl (by decide) ea2 (by decide) rfl rfl ?_
  refine V.goto (tgt := 26) F dX10_fromOf_74 (by decide) ?_
  exact hk26 _ _ _ _ _ _ h
def M_fromOf_26 (k4 : Int32 → Int32 → Mem → Option Int32) (k14 : Int32 → Int32 → Int32 → Mem → Option Int32) (k26 : Int32 → Int32 → Int32 → Int32 → Mem → Option Int32) (x2 : Int32) (x3 : Int32) (x4 : Int32) (x5 : Int32) (μ : Mem) : Option Int32 :=
  if x5 < (rd μ 0 0 12) then (
    if ((shr x2 x4) &&& 1) = 1 then (
      bnd (M_thingOf x4 μ) fun r5 =>
      bnd (M_opens1 r5 x5 μ) fun r7 =>
      if r7 = 0 then (
        M_fromOf_69 k4 k14 k26 x3 x4 x5 x2 0 μ)
      else (
        M_fromOf_69 k4 k14 k26 x3 x4 x5 x2 (shl 1 x5) μ))
    else (
      M_fromOf_69 k4 k14 k26 x3 x4 x5 x2 0 μ))
  else (
    nm (x4 + 1) fun a2 =>
    k14 x2 x3 a2 μ)
set_option maxHeartbeats 4000000 in
set_option maxRecDepth 100000 in
theorem M_fromOf_26_ok {φ : Fr} {d : Nat} (F : Fx φ ΩB cX10_fromOf RX10 6 (some .int)) (hd : 2 ≤ d) {k4 : Int32 → Int32 → Mem → Option Int32} (hk4 : ∀ (x2 : Int32) (x3 : Int32) (μ : Mem) (r : Int32), k4 x2 x3 μ = some r → V φ ΩB 6 d 4 [some (rf φ 0 0), none, some (.int x2), some (.int x3), none, none] [] μ (some (.int r), μ)) {k14 : Int32 → Int32 → Int32 → Mem → Option Int32} (hk14 : ∀ (x2 : Int32) (x3 : Int32) (x4 : Int32) (μ : Mem) (r : Int32), k14 x2 x3 x4 μ = some r → V φ ΩB 6 d 14 [some (rf φ 0 0), none, some (.int x2), some (.int x3), some (.int x4), none] [] μ (some (.int r), μ)) {k26 : Int32 → Int32 → Int32 → Int32 → Mem → Option Int32} (hk26 : ∀ (x2 : Int32) (x3 : Int32) (x4 : Int32) (x5 : Int32) (μ : Mem) (r : Int32), k26 x2 x3 x4 x5 μ = some r → V φ ΩB 6 d 26 [some (rf φ 0 0), none, some (.int x2), some (.int x3), some (.int x4), some (.int x5)] [] μ (some (.int r), μ)) {x2 : Int32} {x3 : Int32} {x4 : Int32} {x5 : Int32} {μ : Mem} {r : Int32} (h : M_fromOf_26 k4 k14 k26 x2 x3 x4 x5 μ = some r) : V φ ΩB 6 d 26 [some (rf φ 0 0), none, some (.int x2), some (.int x3), some (.int x4), some (.int x5)] [] μ (some (.int r), μ) := by
  unfold M_fromOf_26 at h
  refine V.iload F dX10_fromOf_26 rfl ?_
  refine V.rload_n F dX10_fromOf_28 rfl rfl ?_
  refine gf_RX10_76 F dX10_fromOf_29 ?_
  refine V.icmp_ge (tgt := 77) F dX10_fromOf_32 (by decide) (fun c1 => ?_) (fun c1 => ?_)
  · have h := f_out h c1
    obtain ⟨a2, ea2, h⟩ := nm_out h
    refine V.iinc (z := 1) (L' := [some (rf φ 0 0), none, some (.int x2), some (.int x3), some (.int a2), some (.int x5)]) F dX10_fromOf_77 rfl (by decide) ea2 (by decide) rfl rfl ?_
    refine V.goto (tgt := 14) F dX10_fromOf_80 (by decide) ?_
    refine V.msk (L' := [some (rf φ 0 0), none, some (.int x2), some (.int x3), some (.int a2), none]) [true, false, true, true, true, false] rfl ?_
    exact hk14 _ _ _ _ _ h
  · have h := t_out h c1
    refine V.iload_n F dX10_fromOf_35 rfl rfl ?_
    refine V.iload_n F dX10_fromOf_36 rfl rfl ?_
    refine V.iload F dX10_fromOf_37 rfl ?_
    refine V.ishr F dX10_fromOf_39 ?_
    refine V.iconst (v := 1) F dX10_fromOf_40 (by decide) ?_
    refine V.iand F dX10_fromOf_41 ?_
    refine V.iconst (v := 1) F dX10_fromOf_42 (by decide) ?_
    refine V.icmp_ne (tgt := 68) F dX10_fromOf_43 (by decide) (fun c3 => ?_) (fun c3 => ?_)
    · have h := f_out h c3
      refine V.iconst (v := 0) F dX10_fromOf_68 (by decide) ?_
      refine V.msk (L' := [some (rf φ 0 0), none, none, some (.int x3), some (.int x4), some (.int x5)]) [true, false, false, true, true, true] rfl ?_
      exact M_fromOf_69_ok F hd hk4 hk14 hk26 h
    · have h := t_out h c3
      refine V.rload_n F dX10_fromOf_46 rfl rfl ?_
      refine V.rload_n F dX10_fromOf_47 rfl rfl ?_
      refine V.iload F dX10_fromOf_48 rfl ?_
      obtain ⟨r5, e4, h⟩ := bnd_out h
      refine V.callVi (f := 0) (i := 0) (As := [.int x4]) F ck_RX10_119 (M_thingOf_ct e4) (by omega) (by decide) rfl mB0 rfl rfl rfl (Nat.le_of_ble_eq_true rfl) dX10_fromOf_50 ?_
      refine V.iload F dX10_fromOf_53 rfl ?_
      obtain ⟨r7, e6, h⟩ := bnd_out h
      refine V.callVi (f := 0) (i := 0) (As := [.int r5, .int x5]) F ck_RX10_304 (M_opens1_ct e6) (by omega) (by decide) rfl mB0 rfl rfl rfl (Nat.le_of_ble_eq_true rfl) dX10_fromOf_55 ?_
      refine V.if_eq (tgt := 68) F dX10_fromOf_58 (by decide) (fun c8 => ?_) (fun c8 => ?_)
      · have h := t_out h c8
        refine V.iconst (v := 0) F dX10_fromOf_68 (by decide) ?_
        refine V.msk (L' := [some (rf φ 0 0), none, none, some (.int x3), some (.int x4), some (.int x5)]) [true, false, false, true, true, true] rfl ?_
        exact M_fromOf_69_ok F hd hk4 hk14 hk26 h
      · have h := f_out h c8
        refine V.iconst (v := 1) F dX10_fromOf_61 (by decide) ?_
        refine V.iload F dX10_fromOf_62 rfl ?_
        refine V.ishl F dX10_fromOf_64 ?_
        refine V.goto (tgt := 69) F dX10_fromOf_65 (by decide) ?_
        refine V.msk (L' := [some (rf φ 0 0), none, none, some (.int x3), some (.int x4), some (.int x5)]) [true, false, false, true, true, true] rfl ?_
        exact M_fromOf_69_ok F hd hk4 hk14 hk26 h
def M_fromOf_26L (k4 : Int32 → Int32 → Mem → Option Int32) (k14 : Int32 → Int32 → Int32 → Mem → Option Int32) : Nat → Int32 → Int32 → Int32 → Int32 → Mem → Option Int32
  | 0 => fun _ _ _ _ _ => none
  | n + 1 => M_fromOf_26 k4 k14 (M_fromOf_26L k4 k14 n)
set_option maxHeartbeats 4000000 in
set_option maxRecDepth 100000 in
theorem M_fromOf_26L_ok {φ : Fr} {d : Nat} (F : Fx φ ΩB cX10_fromOf RX10 6 (some .int)) (hd : 2 ≤ d) {k4 : Int32 → Int32 → Mem → Option Int32} (hk4 : ∀ (x2 : Int32) (x3 : Int32) (μ : Mem) (r : Int32), k4 x2 x3 μ = some r → V φ ΩB 6 d 4 [some (rf φ 0 0), none, some (.int x2), some (.int x3), none, none] [] μ (some (.int r), μ)) {k14 : Int32 → Int32 → Int32 → Mem → Option Int32} (hk14 : ∀ (x2 : Int32) (x3 : Int32) (x4 : Int32) (μ : Mem) (r : Int32), k14 x2 x3 x4 μ = some r → V φ ΩB 6 d 14 [some (rf φ 0 0), none, some (.int x2), some (.int x3), some (.int x4), none] [] μ (some (.int r), μ)) : ∀ (n : Nat) (x2 : Int32) (x3 : Int32) (x4 : Int32) (x5 : Int32) (μ : Mem) (r : Int32), M_fromOf_26L k4 k14 n x2 x3 x4 x5 μ = some r → V φ ΩB 6 d 26 [some (rf φ 0 0), none, some (.int x2), some (.int x3), some (.int x4), some (.int x5)] [] μ (some (.int r), μ) := by
  intro n
  induction n with
  | zero => intro x2 x3 x4 x5 μ r h; cases h
  | succ n ih => intro x2 x3 x4 x5 μ r h; exact M_fromOf_26_ok F hd hk4 hk14 ih h
def M_fromOf_14 (k4 : Int32 → Int32 → Mem → Option Int32) (k14 : Int32 → Int32 → Int32 → Mem → Option Int32) (x2 : Int32) (x3 : Int32) (x4 : Int32) (μ : Mem) : Option Int32 :=
  if x4 < (rd μ 0 0 12) then (
    M_fromOf_26L k4 k14 1000 x2 x3 x4 0 μ)
  else (
    k4 x2 x3 μ)
set_option maxHeartbeats 4000000 in
set_option maxRecDepth 100000 in
theorem M_fromOf_14_ok {φ : Fr} {d : Nat} (F : Fx φ ΩB cX10_fromOf RX10 6 (some .int)) (hd : 2 ≤ d) {k4 : Int32 → Int32 → Mem → Option Int32} (hk4 : ∀ (x2 : Int32) (x3 : Int32) (μ : Mem) (r : Int32), k4 x2 x3 μ = some r → V φ ΩB 6 d 4 [some (rf φ 0 0), none, some (.int x2), some (.int x3), none, none] [] μ (some (.int r), μ)) {k14 : Int32 → Int32 → Int32 → Mem → Option Int32} (hk14 : ∀ (x2 : Int32) (x3 : Int32) (x4 : Int32) (μ : Mem) (r : Int32), k14 x2 x3 x4 μ = some r → V φ ΩB 6 d 14 [some (rf φ 0 0), none, some (.int x2), some (.int x3), some (.int x4), none] [] μ (some (.int r), μ)) {x2 : Int32} {x3 : Int32} {x4 : Int32} {μ : Mem} {r : Int32} (h : M_fromOf_14 k4 k14 x2 x3 x4 μ = some r) : V φ ΩB 6 d 14 [some (rf φ 0 0), none, some (.int x2), some (.int x3), some (.int x4), none] [] μ (some (.int r), μ) := by
  unfold M_fromOf_14 at h
  refine V.iload F dX10_fromOf_14 rfl ?_
  refine V.rload_n F dX10_fromOf_16 rfl rfl ?_
  refine gf_RX10_76 F dX10_fromOf_17 ?_
  refine V.icmp_ge (tgt := 83) F dX10_fromOf_20 (by decide) (fun c1 => ?_) (fun c1 => ?_)
  · have h := f_out h c1
    refine V.goto (tgt := 4) F dX10_fromOf_83 (by decide) ?_
    refine V.msk (L' := [some (rf φ 0 0), none, some (.int x2), some (.int x3), none, none]) [true, false, true, true, false, false] rfl ?_
    exact hk4 _ _ _ _ h
  · have h := t_out h c1
    refine V.iconst (v := 0) F dX10_fromOf_23 (by decide) ?_
    refine V.istore (L' := [some (rf φ 0 0), none, some (.int x2), some (.int x3), some (.int x4), some (.int 0)]) F dX10_fromOf_24 (by decide) rfl rfl rfl ?_
    exact M_fromOf_26L_ok F hd hk4 hk14 1000 _ _ _ _ _ _ h
def M_fromOf_14L (k4 : Int32 → Int32 → Mem → Option Int32) : Nat → Int32 → Int32 → Int32 → Mem → Option Int32
  | 0 => fun _ _ _ _ => none
  | n + 1 => M_fromOf_14 k4 (M_fromOf_14L k4 n)
set_option maxHeartbeats 4000000 in
set_option maxRecDepth 100000 in
theorem M_fromOf_14L_ok {φ : Fr} {d : Nat} (F : Fx φ ΩB cX10_fromOf RX10 6 (some .int)) (hd : 2 ≤ d) {k4 : Int32 → Int32 → Mem → Option Int32} (hk4 : ∀ (x2 : Int32) (x3 : Int32) (μ : Mem) (r : Int32), k4 x2 x3 μ = some r → V φ ΩB 6 d 4 [some (rf φ 0 0), none, some (.int x2), some (.int x3), none, none] [] μ (some (.int r), μ)) : ∀ (n : Nat) (x2 : Int32) (x3 : Int32) (x4 : Int32) (μ : Mem) (r : Int32), M_fromOf_14L k4 n x2 x3 x4 μ = some r → V φ ΩB 6 d 14 [some (rf φ 0 0), none, some (.int x2), some (.int x3), some (.int x4), none] [] μ (some (.int r), μ) := by
  intro n
  induction n with
  | zero => intro x2 x3 x4 μ r h; cases h
  | succ n ih => intro x2 x3 x4 μ r h; exact M_fromOf_14_ok F hd hk4 ih h
def M_fromOf_4 (k4 : Int32 → Int32 → Mem → Option Int32) (x2 : Int32) (x3 : Int32) (μ : Mem) : Option Int32 :=
  if x2 = x3 then (
    some x2)
  else (
    M_fromOf_14L k4 1000 x2 x2 0 μ)
set_option maxHeartbeats 4000000 in
set_option maxRecDepth 100000 in
theorem M_fromOf_4_ok {φ : Fr} {d : Nat} (F : Fx φ ΩB cX10_fromOf RX10 6 (some .int)) (hd : 2 ≤ d) {k4 : Int32 → Int32 → Mem → Option Int32} (hk4 : ∀ (x2 : Int32) (x3 : Int32) (μ : Mem) (r : Int32), k4 x2 x3 μ = some r → V φ ΩB 6 d 4 [some (rf φ 0 0), none, some (.int x2), some (.int x3), none, none] [] μ (some (.int r), μ)) {x2 : Int32} {x3 : Int32} {μ : Mem} {r : Int32} (h : M_fromOf_4 k4 x2 x3 μ = some r) : V φ ΩB 6 d 4 [some (rf φ 0 0), none, some (.int x2), some (.int x3), none, none] [] μ (some (.int r), μ) := by
  unfold M_fromOf_4 at h
  refine V.iload_n F dX10_fromOf_4 rfl rfl ?_
  refine V.iload_n F dX10_fromOf_5 rfl rfl ?_
  refine V.icmp_eq (tgt := 86) F dX10_fromOf_6 (by decide) (fun c1 => ?_) (fun c1 => ?_)
  · have h := t_out h c1
    refine V.iload_n F dX10_fromOf_86 rfl rfl ?_
    obtain rfl := r1_out h
    exact V.iret F dX10_fromOf_87
  · have h := f_out h c1
    refine V.iload_n F dX10_fromOf_9 rfl rfl ?_
    refine V.istore_n (L' := [some (rf φ 0 0), none, some (.int x2), some (.int x2), none, none]) F dX10_fromOf_10 rfl (by decide) rfl rfl rfl ?_
    refine V.iconst (v := 0) F dX10_fromOf_11 (by decide) ?_
    refine V.istore (L' := [some (rf φ 0 0), none, some (.int x2), some (.int x2), some (.int 0), none]) F dX10_fromOf_12 (by decide) rfl rfl rfl ?_
    exact M_fromOf_14L_ok F hd hk4 1000 _ _ _ _ _ h
def M_fromOf_4L : Nat → Int32 → Int32 → Mem → Option Int32
  | 0 => fun _ _ _ => none
  | n + 1 => M_fromOf_4 (M_fromOf_4L n)
set_option maxHeartbeats 4000000 in
set_option maxRecDepth 100000 in
theorem M_fromOf_4L_ok {φ : Fr} {d : Nat} (F : Fx φ ΩB cX10_fromOf RX10 6 (some .int)) (hd : 2 ≤ d) : ∀ (n : Nat) (x2 : Int32) (x3 : Int32) (μ : Mem) (r : Int32), M_fromOf_4L n x2 x3 μ = some r → V φ ΩB 6 d 4 [some (rf φ 0 0), none, some (.int x2), some (.int x3), none, none] [] μ (some (.int r), μ) := by
  intro n
  induction n with
  | zero => intro x2 x3 μ r h; cases h
  | succ n ih => intro x2 x3 μ r h; exact M_fromOf_4_ok F hd ih h
def M_fromOf (x1 : Int32) (μ : Mem) : Option Int32 :=
  M_fromOf_4L 1000 x1 0 μ
set_option maxHeartbeats 4000000 in
set_option maxRecDepth 100000 in
theorem M_fromOf_ok {φ : Fr} {d : Nat} (F : Fx φ ΩB cX10_fromOf RX10 6 (some .int)) (hd : 2 ≤ d) {x1 : Int32} {μ : Mem} {r : Int32} (h : M_fromOf x1 μ = some r) : V φ ΩB 6 d 0 [some (rf φ 0 0), some (.int x1), none, none, none, none] [] μ (some (.int r), μ) := by
  unfold M_fromOf at h
  refine V.iload_n F dX10_fromOf_0 rfl rfl ?_
  refine V.istore_n (L' := [some (rf φ 0 0), some (.int x1), some (.int x1), none, none, none]) F dX10_fromOf_1 rfl (by decide) rfl rfl rfl ?_
  refine V.iconst (v := 0) F dX10_fromOf_2 (by decide) ?_
  refine V.istore_n (L' := [some (rf φ 0 0), some (.int x1), some (.int x1), some (.int 0), none, none]) F dX10_fromOf_3 rfl (by decide) rfl rfl rfl ?_
  refine V.msk (L' := [some (rf φ 0 0), none, some (.int x1), some (.int 0), none, none]) [true, false, true, true, false, false] rfl ?_
  exact M_fromOf_4L_ok F hd 1000 _ _ _ _ h
set_option maxHeartbeats 4000000 in
set_option maxRecDepth 100000 in
theorem M_fromOf_ct {l : Launch} {G : Glo} {x1 : Int32} {μ : Mem} {r : Int32} (h : M_fromOf x1 μ = some r) : Ct l ΩB G 2 yX10_fromOf cX10_fromOf 6 (some .int) [.ref (G.1 0 0), .int x1] μ (some (.int r), μ) := by
  refine Ct.intro (by decide) (Nat.le_of_ble_eq_true rfl) ?_
  intro φ hl hG F
  subst hl; subst hG
  exact M_fromOf_ok F (Nat.le_refl _) h
def M_from (x1 : Int32) (μ : Mem) : Option Int32 :=
  bnd (M_isOne x1 μ) fun r2 =>
  if r2 = 0 then (
    some (-2))
  else (
    bnd (M_fromOf (shl 1 x1) μ) fun r5 =>
    some r5)
set_option maxHeartbeats 4000000 in
set_option maxRecDepth 100000 in
theorem M_from_ok {φ : Fr} {d : Nat} (F : Fx φ ΩB cX10_from RX10 2 (some .int)) (hd : 3 ≤ d) {x1 : Int32} {μ : Mem} {r : Int32} (h : M_from x1 μ = some r) : V φ ΩB 2 d 0 [some (rf φ 0 0), some (.int x1)] [] μ (some (.int r), μ) := by
  unfold M_from at h
  refine V.rload_n F dX10_from_0 rfl rfl ?_
  refine V.iload_n F dX10_from_1 rfl rfl ?_
  obtain ⟨r2, e1, h⟩ := bnd_out h
  refine V.callVi (f := 0) (i := 0) (As := [.int x1]) F ck_RX10_85 (M_isOne_ct e1) (by omega) (by decide) rfl mB0 rfl rfl rfl (Nat.le_of_ble_eq_true rfl) dX10_from_2 ?_
  refine V.if_eq (tgt := 18) F dX10_from_5 (by decide) (fun c3 => ?_) (fun c3 => ?_)
  · have h := t_out h c3
    refine V.bipush (v := (-2)) F dX10_from_18 (by decide) ?_
    obtain rfl := r1_out h
    exact V.iret F dX10_from_20
  · have h := f_out h c3
    refine V.rload_n F dX10_from_8 rfl rfl ?_
    refine V.iconst (v := 1) F dX10_from_9 (by decide) ?_
    refine V.iload_n F dX10_from_10 rfl rfl ?_
    refine V.ishl F dX10_from_11 ?_
    obtain ⟨r5, e4, h⟩ := bnd_out h
    refine V.callVi (f := 0) (i := 0) (As := [.int (shl 1 x1)]) F ck_RX10_307 (M_fromOf_ct e4) (by omega) (by decide) rfl mB0 rfl rfl rfl (Nat.le_of_ble_eq_true rfl) dX10_from_12 ?_
    refine V.goto (tgt := 20) F dX10_from_15 (by decide) ?_
    obtain rfl := r1_out h
    exact V.iret F dX10_from_20
set_option maxHeartbeats 4000000 in
set_option maxRecDepth 100000 in
theorem M_from_ct {l : Launch} {G : Glo} {x1 : Int32} {μ : Mem} {r : Int32} (h : M_from x1 μ = some r) : Ct l ΩB G 3 yX10_from cX10_from 2 (some .int) [.ref (G.1 0 0), .int x1] μ (some (.int r), μ) := by
  refine Ct.intro (by decide) (Nat.le_of_ble_eq_true rfl) ?_
  intro φ hl hG F
  subst hl; subst hG
  exact M_from_ok F (Nat.le_refl _) h
def M_keys_128 (k96 : Int32 → Int32 → Int32 → Int32 → Mem → Option Int32) (x1 : Int32) (x2 : Int32) (x5 : Int32) (x6 : Int32) (μ : Mem) : Option Int32 :=
  nm (x6 + (-1)) fun a1 =>
  k96 x1 x2 x5 a1 μ
set_option maxHeartbeats 4000000 in
set_option maxRecDepth 100000 in
theorem M_keys_128_ok {φ : Fr} {d : Nat} (F : Fx φ ΩB cX10_keys RX10 7 (some .int)) (hd : 3 ≤ d) {k96 : Int32 → Int32 → Int32 → Int32 → Mem → Option Int32} (hk96 : ∀ (x1 : Int32) (x2 : Int32) (x5 : Int32) (x6 : Int32) (μ : Mem) (r : Int32), k96 x1 x2 x5 x6 μ = some r → V φ ΩB 7 d 96 [some (rf φ 0 0), some (.int x1), some (.int x2), none, none, some (.int x5), some (.int x6)] [] μ (some (.int r), μ)) {x1 : Int32} {x2 : Int32} {x5 : Int32} {x6 : Int32} {μ : Mem} {r : Int32} (h : M_keys_128 k96 x1 x2 x5 x6 μ = some r) : V φ ΩB 7 d 128 [some (rf φ 0 0), some (.int x1), some (.int x2), none, none, some (.int x5), some (.int x6)] [] μ (some (.int r), μ) := by
  unfold M_keys_128 at h
  obtain ⟨a1, ea1, h⟩ := nm_out h
  refine V.iinc (z := (-1)) (L' := [some (rf φ 0 0), some (.int x1), some (.int x2), none, none, some (.int x5), some (.int a1)]) F dX10_keys_128 rfl (by decide) ea1 (by decide) rfl rfl ?_
  refine V.goto (tgt := 96) F dX10_keys_131 (by decide) ?_
  exact hk96 _ _ _ _ _ _ h
def M_keys_96 (k96 : Int32 → Int32 → Int32 → Int32 → Mem → Option Int32) (x1 : Int32) (x2 : Int32) (x5 : Int32) (x6 : Int32) (μ : Mem) : Option Int32 :=
  if x6 < 0 then (
    if x1 = 2 then (
      some x5)
    else (
      bnd (M_bitsOf x5) fun r4 =>
      some r4))
  else (
    bnd (M_fromOf x6 μ) fun r6 =>
    if r6 = x2 then (
      bnd (M_bitsOf x6) fun r9 =>
      bnd (M_bitsOf x5) fun r11 =>
      if r11 < r9 then (
        M_keys_128 k96 x1 x2 x5 x6 μ)
      else (
        M_keys_128 k96 x1 x2 x6 x6 μ))
    else (
      M_keys_128 k96 x1 x2 x5 x6 μ))
set_option maxHeartbeats 4000000 in
set_option maxRecDepth 100000 in
theorem M_keys_96_ok {φ : Fr} {d : Nat} (F : Fx φ ΩB cX10_keys RX10 7 (some .int)) (hd : 3 ≤ d) {k96 : Int32 → Int32 → Int32 → Int32 → Mem → Option Int32} (hk96 : ∀ (x1 : Int32) (x2 : Int32) (x5 : Int32) (x6 : Int32) (μ : Mem) (r : Int32), k96 x1 x2 x5 x6 μ = some r → V φ ΩB 7 d 96 [some (rf φ 0 0), some (.int x1), some (.int x2), none, none, some (.int x5), some (.int x6)] [] μ (some (.int r), μ)) {x1 : Int32} {x2 : Int32} {x5 : Int32} {x6 : Int32} {μ : Mem} {r : Int32} (h : M_keys_96 k96 x1 x2 x5 x6 μ = some r) : V φ ΩB 7 d 96 [some (rf φ 0 0), some (.int x1), some (.int x2), none, none, some (.int x5), some (.int x6)] [] μ (some (.int r), μ) := by
  unfold M_keys_96 at h
  refine V.iload F dX10_keys_96 rfl ?_
  refine V.if_lt (tgt := 134) F dX10_keys_98 (by decide) (fun c1 => ?_) (fun c1 => ?_)
  · have h := t_out h c1
    refine V.iload_n F dX10_keys_134 rfl rfl ?_
    refine V.iconst (v := 2) F dX10_keys_135 (by decide) ?_
    refine V.icmp_ne (tgt := 144) F dX10_keys_136 (by decide) (fun c2 => ?_) (fun c2 => ?_)
    · have h := f_out h c2
      refine V.iload F dX10_keys_144 rfl ?_
      obtain ⟨r4, e3, h⟩ := bnd_out h
      refine V.callSi (As := [.int x5]) F ck_RX10_281 (M_bitsOf_ct e3) (by omega) (by decide) rfl rfl (Nat.le_of_ble_eq_true rfl) dX10_keys_146 ?_
      obtain rfl := r1_out h
      exact V.iret F dX10_keys_149
    · have h := t_out h c2
      refine V.iload F dX10_keys_139 rfl ?_
      refine V.goto (tgt := 149) F dX10_keys_141 (by decide) ?_
      obtain rfl := r1_out h
      exact V.iret F dX10_keys_149
  · have h := f_out h c1
    refine V.rload_n F dX10_keys_101 rfl rfl ?_
    refine V.iload F dX10_keys_102 rfl ?_
    obtain ⟨r6, e5, h⟩ := bnd_out h
    refine V.callVi (f := 0) (i := 0) (As := [.int x6]) F ck_RX10_307 (M_fromOf_ct e5) (by omega) (by decide) rfl mB0 rfl rfl rfl (Nat.le_of_ble_eq_true rfl) dX10_keys_104 ?_
    refine V.iload_n F dX10_keys_107 rfl rfl ?_
    refine V.icmp_ne (tgt := 128) F dX10_keys_108 (by decide) (fun c7 => ?_) (fun c7 => ?_)
    · have h := f_out h c7
      exact M_keys_128_ok F hd hk96 h
    · have h := t_out h c7
      refine V.iload F dX10_keys_111 rfl ?_
      obtain ⟨r9, e8, h⟩ := bnd_out h
      refine V.callSi (As := [.int x6]) F ck_RX10_281 (M_bitsOf_ct e8) (by omega) (by decide) rfl rfl (Nat.le_of_ble_eq_true rfl) dX10_keys_113 ?_
      refine V.iload F dX10_keys_116 rfl ?_
      obtain ⟨r11, e10, h⟩ := bnd_out h
      refine V.callSi (As := [.int x5]) F ck_RX10_281 (M_bitsOf_ct e10) (by omega) (by decide) rfl rfl (Nat.le_of_ble_eq_true rfl) dX10_keys_118 ?_
      refine V.icmp_gt (tgt := 128) F dX10_keys_121 (by decide) (fun c12 => ?_) (fun c12 => ?_)
      · have h := t_out h c12
        exact M_keys_128_ok F hd hk96 h
      · have h := f_out h c12
        refine V.iload F dX10_keys_124 rfl ?_
        refine V.istore (L' := [some (rf φ 0 0), some (.int x1), some (.int x2), none, none, some (.int x6), some (.int x6)]) F dX10_keys_126 (by decide) rfl rfl rfl ?_
        exact M_keys_128_ok F hd hk96 h
def M_keys_96L : Nat → Int32 → Int32 → Int32 → Int32 → Mem → Option Int32
  | 0 => fun _ _ _ _ _ => none
  | n + 1 => M_keys_96 (M_keys_96L n)
set_option maxHeartbeats 4000000 in
set_option maxRecDepth 100000 in
theorem M_keys_96L_ok {φ : Fr} {d : Nat} (F : Fx φ ΩB cX10_keys RX10 7 (some .int)) (hd : 3 ≤ d) : ∀ (n : Nat) (x1 : Int32) (x2 : Int32) (x5 : Int32) (x6 : Int32) (μ : Mem) (r : Int32), M_keys_96L n x1 x2 x5 x6 μ = some r → V φ ΩB 7 d 96 [some (rf φ 0 0), some (.int x1), some (.int x2), none, none, some (.int x5), some (.int x6)] [] μ (some (.int r), μ) := by
  intro n
  induction n with
  | zero => intro x1 x2 x5 x6 μ r h; cases h
  | succ n ih => intro x1 x2 x5 x6 μ r h; exact M_keys_96_ok F hd ih h
def M_keys_68 (k32 : Int32 → Int32 → Int32 → Int32 → Int32 → Mem → Option Int32) (x1 : Int32) (x2 : Int32) (x3 : Int32) (x4 : Int32) (x5 : Int32) (μ : Mem) : Option Int32 :=
  nm (x5 + 1) fun a1 =>
  k32 x1 x2 x3 x4 a1 μ
set_option maxHeartbeats 4000000 in
set_option maxRecDepth 100000 in
theorem M_keys_68_ok {φ : Fr} {d : Nat} (F : Fx φ ΩB cX10_keys RX10 7 (some .int)) (hd : 3 ≤ d) {k32 : Int32 → Int32 → Int32 → Int32 → Int32 → Mem → Option Int32} (hk32 : ∀ (x1 : Int32) (x2 : Int32) (x3 : Int32) (x4 : Int32) (x5 : Int32) (μ : Mem) (r : Int32), k32 x1 x2 x3 x4 x5 μ = some r → V φ ΩB 7 d 32 [some (rf φ 0 0), some (.int x1), some (.int x2), some (.int x3), some (.int x4), some (.int x5), none] [] μ (some (.int r), μ)) {x1 : Int32} {x2 : Int32} {x3 : Int32} {x4 : Int32} {x5 : Int32} {μ : Mem} {r : Int32} (h : M_keys_68 k32 x1 x2 x3 x4 x5 μ = some r) : V φ ΩB 7 d 68 [some (rf φ 0 0), some (.int x1), some (.int x2), some (.int x3), some (.int x4), some (.int x5), none] [] μ (some (.int r), μ) := by
  unfold M_keys_68 at h
  obtain ⟨a1, ea1, h⟩ := nm_out h
  refine V.iinc (z := 1) (L' := [some (rf φ 0 0), some (.int x1), some (.int x2), some (.int x3), some (.int x4), some (.int a1), none]) F dX10_keys_68 rfl (by decide) ea1 (by decide) rfl rfl ?_
  refine V.goto (tgt := 32) F dX10_keys_71 (by decide) ?_
  exact hk32 _ _ _ _ _ _ _ h
def M_keys_32 (k32 : Int32 → Int32 → Int32 → Int32 → Int32 → Mem → Option Int32) (x1 : Int32) (x2 : Int32) (x3 : Int32) (x4 : Int32) (x5 : Int32) (μ : Mem) : Option Int32 :=
  if x5 < (rd μ 0 0 12) then (
    bnd (M_fromOf (shl 1 x5) μ) fun r5 =>
    bnd (M_bitsOf r5) fun r7 =>
    if x4 < r7 then (
      M_keys_68 k32 x1 x2 x5 r7 x5 μ)
    else (
      M_keys_68 k32 x1 x2 x3 x4 x5 μ))
  else (
    if x1 < 2 then (
      if x1 = 0 then (
        some x3)
      else (
        some x4))
    else (
      M_keys_96L 1000 x1 x2 x2 x2 μ))
set_option maxHeartbeats 4000000 in
set_option maxRecDepth 100000 in
theorem M_keys_32_ok {φ : Fr} {d : Nat} (F : Fx φ ΩB cX10_keys RX10 7 (some .int)) (hd : 3 ≤ d) {k32 : Int32 → Int32 → Int32 → Int32 → Int32 → Mem → Option Int32} (hk32 : ∀ (x1 : Int32) (x2 : Int32) (x3 : Int32) (x4 : Int32) (x5 : Int32) (μ : Mem) (r : Int32), k32 x1 x2 x3 x4 x5 μ = some r → V φ ΩB 7 d 32 [some (rf φ 0 0), some (.int x1), some (.int x2), some (.int x3), some (.int x4), some (.int x5), none] [] μ (some (.int r), μ)) {x1 : Int32} {x2 : Int32} {x3 : Int32} {x4 : Int32} {x5 : Int32} {μ : Mem} {r : Int32} (h : M_keys_32 k32 x1 x2 x3 x4 x5 μ = some r) : V φ ΩB 7 d 32 [some (rf φ 0 0), some (.int x1), some (.int x2), some (.int x3), some (.int x4), some (.int x5), none] [] μ (some (.int r), μ) := by
  unfold M_keys_32 at h
  refine V.iload F dX10_keys_32 rfl ?_
  refine V.rload_n F dX10_keys_34 rfl rfl ?_
  refine gf_RX10_76 F dX10_keys_35 ?_
  refine V.icmp_ge (tgt := 74) F dX10_keys_38 (by decide) (fun c1 => ?_) (fun c1 => ?_)
  · have h := f_out h c1
    refine V.iload_n F dX10_keys_74 rfl rfl ?_
    refine V.iconst (v := 2) F dX10_keys_75 (by decide) ?_
    refine V.icmp_ge (tgt := 90) F dX10_keys_76 (by decide) (fun c2 => ?_) (fun c2 => ?_)
    · have h := f_out h c2
      refine V.iload_n F dX10_keys_90 rfl rfl ?_
      refine V.istore (L' := [some (rf φ 0 0), some (.int x1), some (.int x2), some (.int x3), some (.int x4), some (.int x2), none]) F dX10_keys_91 (by decide) rfl rfl rfl ?_
      refine V.iload_n F dX10_keys_93 rfl rfl ?_
      refine V.istore (L' := [some (rf φ 0 0), some (.int x1), some (.int x2), some (.int x3), some (.int x4), some (.int x2), some (.int x2)]) F dX10_keys_94 (by decide) rfl rfl rfl ?_
      refine V.msk (L' := [some (rf φ 0 0), some (.int x1), some (.int x2), none, none, some (.int x2), some (.int x2)]) [true, true, true, false, false, true, true] rfl ?_
      exact M_keys_96L_ok F hd 1000 _ _ _ _ _ _ h
    · have h := t_out h c2
      refine V.iload_n F dX10_keys_79 rfl rfl ?_
      refine V.if_ne (tgt := 87) F dX10_keys_80 (by decide) (fun c3 => ?_) (fun c3 => ?_)
      · have h := f_out h c3
        refine V.iload F dX10_keys_87 rfl ?_
        obtain rfl := r1_out h
        exact V.iret F dX10_keys_89
      · have h := t_out h c3
        refine V.iload_n F dX10_keys_83 rfl rfl ?_
        refine V.goto (tgt := 89) F dX10_keys_84 (by decide) ?_
        obtain rfl := r1_out h
        exact V.iret F dX10_keys_89
  · have h := t_out h c1
    refine V.rload_n F dX10_keys_41 rfl rfl ?_
    refine V.iconst (v := 1) F dX10_keys_42 (by decide) ?_
    refine V.iload F dX10_keys_43 rfl ?_
    refine V.ishl F dX10_keys_45 ?_
    obtain ⟨r5, e4, h⟩ := bnd_out h
    refine V.callVi (f := 0) (i := 0) (As := [.int (shl 1 x5)]) F ck_RX10_307 (M_fromOf_ct e4) (by omega) (by decide) rfl mB0 rfl rfl rfl (Nat.le_of_ble_eq_true rfl) dX10_keys_46 ?_
    obtain ⟨r7, e6, h⟩ := bnd_out h
    refine V.callSi (As := [.int r5]) F ck_RX10_281 (M_bitsOf_ct e6) (by omega) (by decide) rfl rfl (Nat.le_of_ble_eq_true rfl) dX10_keys_49 ?_
    refine V.istore (L' := [some (rf φ 0 0), some (.int x1), some (.int x2), some (.int x3), some (.int x4), some (.int x5), some (.int r7)]) F dX10_keys_52 (by decide) rfl rfl rfl ?_
    refine V.iload F dX10_keys_54 rfl ?_
    refine V.iload F dX10_keys_56 rfl ?_
    refine V.icmp_le (tgt := 68) F dX10_keys_58 (by decide) (fun c8 => ?_) (fun c8 => ?_)
    · have h := f_out h c8
      refine V.msk (L' := [some (rf φ 0 0), some (.int x1), some (.int x2), some (.int x3), some (.int x4), some (.int x5), none]) [true, true, true, true, true, true, false] rfl ?_
      exact M_keys_68_ok F hd hk32 h
    · have h := t_out h c8
      refine V.iload F dX10_keys_61 rfl ?_
      refine V.istore_n (L' := [some (rf φ 0 0), some (.int x1), some (.int x2), some (.int x5), some (.int x4), some (.int x5), some (.int r7)]) F dX10_keys_63 rfl (by decide) rfl rfl rfl ?_
      refine V.iload F dX10_keys_64 rfl ?_
      refine V.istore (L' := [some (rf φ 0 0), some (.int x1), some (.int x2), some (.int x5), some (.int r7), some (.int x5), some (.int r7)]) F dX10_keys_66 (by decide) rfl rfl rfl ?_
      refine V.msk (L' := [some (rf φ 0 0), some (.int x1), some (.int x2), some (.int x5), some (.int r7), some (.int x5), none]) [true, true, true, true, true, true, false] rfl ?_
      exact M_keys_68_ok F hd hk32 h
def M_keys_32L : Nat → Int32 → Int32 → Int32 → Int32 → Int32 → Mem → Option Int32
  | 0 => fun _ _ _ _ _ _ => none
  | n + 1 => M_keys_32 (M_keys_32L n)
set_option maxHeartbeats 4000000 in
set_option maxRecDepth 100000 in
theorem M_keys_32L_ok {φ : Fr} {d : Nat} (F : Fx φ ΩB cX10_keys RX10 7 (some .int)) (hd : 3 ≤ d) : ∀ (n : Nat) (x1 : Int32) (x2 : Int32) (x3 : Int32) (x4 : Int32) (x5 : Int32) (μ : Mem) (r : Int32), M_keys_32L n x1 x2 x3 x4 x5 μ = some r → V φ ΩB 7 d 32 [some (rf φ 0 0), some (.int x1), some (.int x2), some (.int x3), some (.int x4), some (.int x5), none] [] μ (some (.int r), μ) := by
  intro n
  induction n with
  | zero => intro x1 x2 x3 x4 x5 μ r h; cases h
  | succ n ih => intro x1 x2 x3 x4 x5 μ r h; exact M_keys_32_ok F hd ih h
def M_keys (x1 : Int32) (μ : Mem) : Option Int32 :=
  nm (M_in (Int32.toInt64 x1) 0 3) fun r2 =>
  if r2 = 0 then (
    some (-2))
  else (
    nm ((shl 1 (rd μ 0 0 12)) - 1) fun a4 =>
    M_keys_32L 1000 x1 a4 (-1) 0 0 μ)
set_option maxHeartbeats 4000000 in
set_option maxRecDepth 100000 in
theorem M_keys_ok {φ : Fr} {d : Nat} (F : Fx φ ΩB cX10_keys RX10 7 (some .int)) (hd : 3 ≤ d) {x1 : Int32} {μ : Mem} {r : Int32} (h : M_keys x1 μ = some r) : V φ ΩB 7 d 0 [some (rf φ 0 0), some (.int x1), none, none, none, none, none] [] μ (some (.int r), μ) := by
  unfold M_keys at h
  refine V.iload_n F dX10_keys_0 rfl rfl ?_
  refine V.i2l F dX10_keys_1 ?_
  refine V.lconst (v := 0) F dX10_keys_2 (by decide) ?_
  refine V.ldc2 F kl_RX10_310 dX10_keys_3 ?_
  obtain ⟨r2, e1, h⟩ := nm_out h
  refine V.callSi (As := [.long (Int32.toInt64 x1), .long 0, .long 3]) F ck_RX10_79 (M_in_ct e1) (by omega) (by decide) rfl rfl (Nat.le_of_ble_eq_true rfl) dX10_keys_6 ?_
  refine V.if_ne (tgt := 15) F dX10_keys_9 (by decide) (fun c3 => ?_) (fun c3 => ?_)
  · have h := f_out h c3
    refine V.iconst (v := 1) F dX10_keys_15 (by decide) ?_
    refine V.rload_n F dX10_keys_16 rfl rfl ?_
    refine gf_RX10_76 F dX10_keys_17 ?_
    refine V.ishl F dX10_keys_20 ?_
    refine V.iconst (v := 1) F dX10_keys_21 (by decide) ?_
    refine V.isub F dX10_keys_22 ?_
    obtain ⟨a4, ea4, h⟩ := nm_out h
    refine V.istore_n (L' := [some (rf φ 0 0), some (.int x1), some (.int a4), none, none, none, none]) F dX10_keys_23 rfl (by decide) rfl ea4 rfl ?_
    refine V.iconst (v := (-1)) F dX10_keys_24 (by decide) ?_
    refine V.istore_n (L' := [some (rf φ 0 0), some (.int x1), some (.int a4), some (.int (-1)), none, none, none]) F dX10_keys_25 rfl (by decide) rfl rfl rfl ?_
    refine V.iconst (v := 0) F dX10_keys_26 (by decide) ?_
    refine V.istore (L' := [some (rf φ 0 0), some (.int x1), some (.int a4), some (.int (-1)), some (.int 0), none, none]) F dX10_keys_27 (by decide) rfl rfl rfl ?_
    refine V.iconst (v := 0) F dX10_keys_29 (by decide) ?_
    refine V.istore (L' := [some (rf φ 0 0), some (.int x1), some (.int a4), some (.int (-1)), some (.int 0), some (.int 0), none]) F dX10_keys_30 (by decide) rfl rfl rfl ?_
    exact M_keys_32L_ok F hd 1000 _ _ _ _ _ _ _ h
  · have h := t_out h c3
    refine V.bipush (v := (-2)) F dX10_keys_12 (by decide) ?_
    obtain rfl := r1_out h
    exact V.iret F dX10_keys_14
set_option maxHeartbeats 4000000 in
set_option maxRecDepth 100000 in
theorem M_keys_ct {l : Launch} {G : Glo} {x1 : Int32} {μ : Mem} {r : Int32} (h : M_keys x1 μ = some r) : Ct l ΩB G 3 yX10_keys cX10_keys 7 (some .int) [.ref (G.1 0 0), .int x1] μ (some (.int r), μ) := by
  refine Ct.intro (by decide) (Nat.le_of_ble_eq_true rfl) ?_
  intro φ hl hG F
  subst hl; subst hG
  exact M_keys_ok F (Nat.le_refl _) h
def M_unlike_43 (k4 : Int32 → Int32 → Int32 → Mem → Option (Int32 × Mem)) (x1 : Int32) (x3 : Int32) (y0 : Int32) (y1 : Int32) (μ : Mem) : Option (Int32 × Mem) :=
  nm (y0 ||| (shl y1 x3)) fun a1 =>
  nm (x3 + 1) fun a2 =>
  k4 x1 a1 a2 μ
set_option maxHeartbeats 4000000 in
set_option maxRecDepth 100000 in
theorem M_unlike_43_ok {φ : Fr} {d : Nat} (F : Fx φ ΩB cX10_unlike RX10 4 (some .int)) (hd : 110 ≤ d) {k4 : Int32 → Int32 → Int32 → Mem → Option (Int32 × Mem)} (hk4 : ∀ (x1 : Int32) (x2 : Int32) (x3 : Int32) (μ : Mem) (r : Int32) (μ' : Mem), k4 x1 x2 x3 μ = some (r, μ') → V φ ΩB 4 d 4 [some (rf φ 0 0), some (.int x1), some (.int x2), some (.int x3)] [] μ (some (.int r), μ')) {x1 : Int32} {x3 : Int32} {y0 : Int32} {y1 : Int32} {μ : Mem} {r : Int32} {μ' : Mem} (h : M_unlike_43 k4 x1 x3 y0 y1 μ = some (r, μ')) : V φ ΩB 4 d 43 [some (rf φ 0 0), some (.int x1), none, some (.int x3)] [.int y1, .int y0] μ (some (.int r), μ') := by
  unfold M_unlike_43 at h
  refine V.iload_n F dX10_unlike_43 rfl rfl ?_
  refine V.ishl F dX10_unlike_44 ?_
  refine V.ior F dX10_unlike_45 ?_
  obtain ⟨a1, ea1, h⟩ := nm_out h
  refine V.istore_n (L' := [some (rf φ 0 0), some (.int x1), some (.int a1), some (.int x3)]) F dX10_unlike_46 rfl (by decide) rfl ea1 rfl ?_
  obtain ⟨a2, ea2, h⟩ := nm_out h
  refine V.iinc (z := 1) (L' := [some (rf φ 0 0), some (.int x1), some (.int a1), some (.int a2)]) F dX10_unlike_47 rfl (by decide) ea2 (by decide) rfl rfl ?_
  refine V.goto (tgt := 4) F dX10_unlike_50 (by decide) ?_
  exact hk4 _ _ _ _ _ _ h
def M_unlike_4 (k4 : Int32 → Int32 → Int32 → Mem → Option (Int32 × Mem)) (x1 : Int32) (x2 : Int32) (x3 : Int32) (μ : Mem) : Option (Int32 × Mem) :=
  if x3 < (rd μ 0 0 12) then (
    chk (inb x3 6) <|
    bnd2 (M_feelsOf x3 (rd μ 6 0 (ix x3)) μ) fun r4 μ5 =>
    chk (inb ((40 * x1) + x3) 160) <|
    if r4 = (rd μ5 16 0 (ix ((40 * x1) + x3))) then (
      M_unlike_43 k4 x1 x3 x2 0 μ5)
    else (
      M_unlike_43 k4 x1 x3 x2 1 μ5))
  else (
    some (x2, μ))
set_option maxHeartbeats 4000000 in
set_option maxRecDepth 100000 in
theorem M_unlike_4_ok {φ : Fr} {d : Nat} (F : Fx φ ΩB cX10_unlike RX10 4 (some .int)) (hd : 110 ≤ d) {k4 : Int32 → Int32 → Int32 → Mem → Option (Int32 × Mem)} (hk4 : ∀ (x1 : Int32) (x2 : Int32) (x3 : Int32) (μ : Mem) (r : Int32) (μ' : Mem), k4 x1 x2 x3 μ = some (r, μ') → V φ ΩB 4 d 4 [some (rf φ 0 0), some (.int x1), some (.int x2), some (.int x3)] [] μ (some (.int r), μ')) {x1 : Int32} {x2 : Int32} {x3 : Int32} {μ : Mem} {r : Int32} {μ' : Mem} (h : M_unlike_4 k4 x1 x2 x3 μ = some (r, μ')) : V φ ΩB 4 d 4 [some (rf φ 0 0), some (.int x1), some (.int x2), some (.int x3)] [] μ (some (.int r), μ') := by
  unfold M_unlike_4 at h
  refine V.iload_n F dX10_unlike_4 rfl rfl ?_
  refine V.rload_n F dX10_unlike_5 rfl rfl ?_
  refine gf_RX10_76 F dX10_unlike_6 ?_
  refine V.icmp_ge (tgt := 53) F dX10_unlike_9 (by decide) (fun c1 => ?_) (fun c1 => ?_)
  · have h := f_out h c1
    refine V.iload_n F dX10_unlike_53 rfl rfl ?_
    obtain ⟨rfl, rfl⟩ := r2_out h
    exact V.iret F dX10_unlike_54
  · have h := t_out h c1
    refine V.iload_n F dX10_unlike_12 rfl rfl ?_
    refine V.rload_n F dX10_unlike_13 rfl rfl ?_
    refine V.iload_n F dX10_unlike_14 rfl rfl ?_
    refine V.rload_n F dX10_unlike_15 rfl rfl ?_
    refine gf_RX10_32 F dX10_unlike_16 ?_
    refine V.iload_n F dX10_unlike_19 rfl rfl ?_
    obtain ⟨c2, h⟩ := chk_out h
    refine V.iald (t0 := 0) (n := 6) F mB6 rfl rfl c2 dX10_unlike_20 ?_
    obtain ⟨r4, μ5, e3, h⟩ := bnd2_out h
    refine V.callVi (f := 0) (i := 0) (As := [.int x3, .int (rd μ 6 0 (ix x3))]) F ck_RX10_129 (M_feelsOf_ct e3) (by omega) (by decide) rfl mB0 rfl rfl rfl (Nat.le_of_ble_eq_true rfl) dX10_unlike_21 ?_
    refine V.rload_n F dX10_unlike_24 rfl rfl ?_
    refine gf_RX10_66 F dX10_unlike_25 ?_
    refine V.bipush (v := 40) F dX10_unlike_28 (by decide) ?_
    refine V.iload_n F dX10_unlike_30 rfl rfl ?_
    refine V.imul F dX10_unlike_31 ?_
    refine V.iload_n F dX10_unlike_32 rfl rfl ?_
    refine V.iadd F dX10_unlike_33 ?_
    obtain ⟨c6, h⟩ := chk_out h
    refine V.iald (t0 := 0) (n := 160) F mB16 rfl rfl c6 dX10_unlike_34 ?_
    refine V.icmp_ne (tgt := 42) F dX10_unlike_35 (by decide) (fun c7 => ?_) (fun c7 => ?_)
    · have h := f_out h c7
      refine V.iconst (v := 1) F dX10_unlike_42 (by decide) ?_
      refine V.msk (L' := [some (rf φ 0 0), some (.int x1), none, some (.int x3)]) [true, true, false, true] rfl ?_
      exact M_unlike_43_ok F hd hk4 h
    · have h := t_out h c7
      refine V.iconst (v := 0) F dX10_unlike_38 (by decide) ?_
      refine V.goto (tgt := 43) F dX10_unlike_39 (by decide) ?_
      refine V.msk (L' := [some (rf φ 0 0), some (.int x1), none, some (.int x3)]) [true, true, false, true] rfl ?_
      exact M_unlike_43_ok F hd hk4 h
def M_unlike_4L : Nat → Int32 → Int32 → Int32 → Mem → Option (Int32 × Mem)
  | 0 => fun _ _ _ _ => none
  | n + 1 => M_unlike_4 (M_unlike_4L n)
set_option maxHeartbeats 4000000 in
set_option maxRecDepth 100000 in
theorem M_unlike_4L_ok {φ : Fr} {d : Nat} (F : Fx φ ΩB cX10_unlike RX10 4 (some .int)) (hd : 110 ≤ d) : ∀ (n : Nat) (x1 : Int32) (x2 : Int32) (x3 : Int32) (μ : Mem) (r : Int32) (μ' : Mem), M_unlike_4L n x1 x2 x3 μ = some (r, μ') → V φ ΩB 4 d 4 [some (rf φ 0 0), some (.int x1), some (.int x2), some (.int x3)] [] μ (some (.int r), μ') := by
  intro n
  induction n with
  | zero => intro x1 x2 x3 μ r μ' h; cases h
  | succ n ih => intro x1 x2 x3 μ r μ' h; exact M_unlike_4_ok F hd ih h
def M_unlike (x1 : Int32) (μ : Mem) : Option (Int32 × Mem) :=
  M_unlike_4L 1000 x1 0 0 μ
set_option maxHeartbeats 4000000 in
set_option maxRecDepth 100000 in
theorem M_unlike_ok {φ : Fr} {d : Nat} (F : Fx φ ΩB cX10_unlike RX10 4 (some .int)) (hd : 110 ≤ d) {x1 : Int32} {μ : Mem} {r : Int32} {μ' : Mem} (h : M_unlike x1 μ = some (r, μ')) : V φ ΩB 4 d 0 [some (rf φ 0 0), some (.int x1), none, none] [] μ (some (.int r), μ') := by
  unfold M_unlike at h
  refine V.iconst (v := 0) F dX10_unlike_0 (by decide) ?_
  refine V.istore_n (L' := [some (rf φ 0 0), some (.int x1), some (.int 0), none]) F dX10_unlike_1 rfl (by decide) rfl rfl rfl ?_
  refine V.iconst (v := 0) F dX10_unlike_2 (by decide) ?_
  refine V.istore_n (L' := [some (rf φ 0 0), some (.int x1), some (.int 0), some (.int 0)]) F dX10_unlike_3 rfl (by decide) rfl rfl rfl ?_
  exact M_unlike_4L_ok F hd 1000 _ _ _ _ _ _ h
set_option maxHeartbeats 4000000 in
set_option maxRecDepth 100000 in
theorem M_unlike_ct {l : Launch} {G : Glo} {x1 : Int32} {μ : Mem} {r : Int32} {μ' : Mem} (h : M_unlike x1 μ = some (r, μ')) : Ct l ΩB G 110 yX10_unlike cX10_unlike 4 (some .int) [.ref (G.1 0 0), .int x1] μ (some (.int r), μ') := by
  refine Ct.intro (by decide) (Nat.le_of_ble_eq_true rfl) ?_
  intro φ hl hG F
  subst hl; subst hG
  exact M_unlike_ok F (Nat.le_refl _) h
def M_looksRG (l : Launch) (G : Glo) (d w : Nat) (a0 : Int32) (a1 : Int32) (a2 : Int32) (μ : Mem) (ρ : Option Value × Mem) : Prop := match w with
  | 0 => Ct l ΩB G d yX10_looks cX10_looks 5 (none) [.ref (G.1 0 0), .int a0, .int a1, .int a2] μ ρ
  | _ => False
def M_looks_143 (rc : Nat → Int32 → Int32 → Int32 → Mem → Option Mem) (k79 : Int32 → Int32 → Int32 → Int32 → Mem → Option Mem) (x1 : Int32) (x2 : Int32) (x3 : Int32) (x4 : Int32) (μ : Mem) : Option Mem :=
  nm (x4 + 1) fun a1 =>
  k79 x1 x2 x3 a1 μ
set_option maxHeartbeats 4000000 in
set_option maxRecDepth 100000 in
theorem M_looks_143_ok {φ : Fr} {d : Nat} (F : Fx φ ΩB cX10_looks RX10 5 (none)) (hd : 0 ≤ d) {rc : Nat → Int32 → Int32 → Int32 → Mem → Option Mem} (hrc : ∀ (w : Nat) (a0 : Int32) (a1 : Int32) (a2 : Int32) (μ : Mem)  (μ' : Mem), rc w a0 a1 a2 μ = some μ' → M_looksRG φ.1.2.1 (gl φ) d w a0 a1 a2 μ (none, μ')) {k79 : Int32 → Int32 → Int32 → Int32 → Mem → Option Mem} (hk79 : ∀ (x1 : Int32) (x2 : Int32) (x3 : Int32) (x4 : Int32) (μ : Mem)  (μ' : Mem), k79 x1 x2 x3 x4 μ = some μ' → V φ ΩB 5 (d + 1) 79 [some (rf φ 0 0), some (.int x1), some (.int x2), some (.int x3), some (.int x4)] [] μ (none, μ')) {x1 : Int32} {x2 : Int32} {x3 : Int32} {x4 : Int32} {μ : Mem}  {μ' : Mem} (h : M_looks_143 rc k79 x1 x2 x3 x4 μ = some μ') : V φ ΩB 5 (d + 1) 143 [some (rf φ 0 0), some (.int x1), some (.int x2), some (.int x3), some (.int x4)] [] μ (none, μ') := by
  unfold M_looks_143 at h
  obtain ⟨a1, ea1, h⟩ := nm_out h
  refine V.iinc (z := 1) (L' := [some (rf φ 0 0), some (.int x1), some (.int x2), some (.int x3), some (.int a1)]) F dX10_looks_143 rfl (by decide) ea1 (by decide) rfl rfl ?_
  refine V.goto (tgt := 79) F dX10_looks_146 (by decide) ?_
  exact hk79 _ _ _ _ _ _ h
def M_looks_79 (rc : Nat → Int32 → Int32 → Int32 → Mem → Option Mem) (k79 : Int32 → Int32 → Int32 → Int32 → Mem → Option Mem) (x1 : Int32) (x2 : Int32) (x3 : Int32) (x4 : Int32) (μ : Mem) : Option Mem :=
  if x4 < (rd μ 0 0 12) then (
    if ((shr x2 x4) &&& 1) = 0 then (
      chk (inb ((6 * x1) + x4) 36) <|
      if (rd μ 7 0 (ix ((6 * x1) + x4))) = 1 then (
        chk (inb x1 6) <|
        nm (up μ 9 0 (ix x1) x4) fun μ6 =>
        bnd (rc 0 (x1 + 1) (x2 ||| (shl 1 x4)) (((10 * x3) + x4) + 1) μ6) fun μ8 =>
        M_looks_143 rc k79 x1 x2 x3 x4 μ8)
      else (
        M_looks_143 rc k79 x1 x2 x3 x4 μ))
    else (
      M_looks_143 rc k79 x1 x2 x3 x4 μ))
  else (
    some μ)
set_option maxHeartbeats 4000000 in
set_option maxRecDepth 100000 in
theorem M_looks_79_ok {φ : Fr} {d : Nat} (F : Fx φ ΩB cX10_looks RX10 5 (none)) (hd : 0 ≤ d) {rc : Nat → Int32 → Int32 → Int32 → Mem → Option Mem} (hrc : ∀ (w : Nat) (a0 : Int32) (a1 : Int32) (a2 : Int32) (μ : Mem)  (μ' : Mem), rc w a0 a1 a2 μ = some μ' → M_looksRG φ.1.2.1 (gl φ) d w a0 a1 a2 μ (none, μ')) {k79 : Int32 → Int32 → Int32 → Int32 → Mem → Option Mem} (hk79 : ∀ (x1 : Int32) (x2 : Int32) (x3 : Int32) (x4 : Int32) (μ : Mem)  (μ' : Mem), k79 x1 x2 x3 x4 μ = some μ' → V φ ΩB 5 (d + 1) 79 [some (rf φ 0 0), some (.int x1), some (.int x2), some (.int x3), some (.int x4)] [] μ (none, μ')) {x1 : Int32} {x2 : Int32} {x3 : Int32} {x4 : Int32} {μ : Mem}  {μ' : Mem} (h : M_looks_79 rc k79 x1 x2 x3 x4 μ = some μ') : V φ ΩB 5 (d + 1) 79 [some (rf φ 0 0), some (.int x1), some (.int x2), some (.int x3), some (.int x4)] [] μ (none, μ') := by
  unfold M_looks_79 at h
  refine V.iload F dX10_looks_79 rfl ?_
  refine V.rload_n F dX10_looks_81 rfl rfl ?_
  refine gf_RX10_76 F dX10_looks_82 ?_
  refine V.icmp_ge (tgt := 149) F dX10_looks_85 (by decide) (fun c1 => ?_) (fun c1 => ?_)
  · have h := f_out h c1
    obtain rfl := r1_out h
    exact V.vret F dX10_looks_149
  · have h := t_out h c1
    refine V.iload_n F dX10_looks_88 rfl rfl ?_
    refine V.iload F dX10_looks_89 rfl ?_
    refine V.ishr F dX10_looks_91 ?_
    refine V.iconst (v := 1) F dX10_looks_92 (by decide) ?_
    refine V.iand F dX10_looks_93 ?_
    refine V.if_ne (tgt := 143) F dX10_looks_94 (by decide) (fun c2 => ?_) (fun c2 => ?_)
    · have h := f_out h c2
      exact M_looks_143_ok F hd hrc hk79 h
    · have h := t_out h c2
      refine V.rload_n F dX10_looks_97 rfl rfl ?_
      refine gf_RX10_35 F dX10_looks_98 ?_
      refine V.bipush (v := 6) F dX10_looks_101 (by decide) ?_
      refine V.iload_n F dX10_looks_103 rfl rfl ?_
      refine V.imul F dX10_looks_104 ?_
      refine V.iload F dX10_looks_105 rfl ?_
      refine V.iadd F dX10_looks_107 ?_
      obtain ⟨c3, h⟩ := chk_out h
      refine V.iald (t0 := 0) (n := 36) F mB7 rfl rfl c3 dX10_looks_108 ?_
      refine V.iconst (v := 1) F dX10_looks_109 (by decide) ?_
      refine V.icmp_ne (tgt := 143) F dX10_looks_110 (by decide) (fun c4 => ?_) (fun c4 => ?_)
      · have h := f_out h c4
        exact M_looks_143_ok F hd hrc hk79 h
      · have h := t_out h c4
        refine V.rload_n F dX10_looks_113 rfl rfl ?_
        refine gf_RX10_41 F dX10_looks_114 ?_
        refine V.iload_n F dX10_looks_117 rfl rfl ?_
        refine V.iload F dX10_looks_118 rfl ?_
        obtain ⟨c5, h⟩ := chk_out h
        obtain ⟨μ6, eμ6, h⟩ := nm_out h
        refine V.iast (t0 := 0) (n := 6) F mB9 (fun _ => rfl) rfl c5 eμ6 dX10_looks_120 ?_
        refine V.rload_n F dX10_looks_121 rfl rfl ?_
        refine V.iload_n F dX10_looks_122 rfl rfl ?_
        refine V.iconst (v := 1) F dX10_looks_123 (by decide) ?_
        refine V.iadd F dX10_looks_124 ?_
        refine V.iload_n F dX10_looks_125 rfl rfl ?_
        refine V.iconst (v := 1) F dX10_looks_126 (by decide) ?_
        refine V.iload F dX10_looks_127 rfl ?_
        refine V.ishl F dX10_looks_129 ?_
        refine V.ior F dX10_looks_130 ?_
        refine V.bipush (v := 10) F dX10_looks_131 (by decide) ?_
        refine V.iload_n F dX10_looks_133 rfl rfl ?_
        refine V.imul F dX10_looks_134 ?_
        refine V.iload F dX10_looks_135 rfl ?_
        refine V.iadd F dX10_looks_137 ?_
        refine V.iconst (v := 1) F dX10_looks_138 (by decide) ?_
        refine V.iadd F dX10_looks_139 ?_
        obtain ⟨μ8, e7, h⟩ := bnd_out h
        refine V.callVv (f := 0) (i := 0) (As := [.int (x1 + 1), .int (x2 ||| (shl 1 x4)), .int (((10 * x3) + x4) + 1)]) F ck_RX10_318 (hrc 0 _ _ _ _ _ e7) (by omega) (by decide) rfl mB0 rfl rfl rfl (Nat.le_of_ble_eq_true rfl) dX10_looks_140 ?_
        exact M_looks_143_ok F hd hrc hk79 h
def M_looks_79L (rc : Nat → Int32 → Int32 → Int32 → Mem → Option Mem) : Nat → Int32 → Int32 → Int32 → Int32 → Mem → Option Mem
  | 0 => fun _ _ _ _ _ => none
  | n + 1 => M_looks_79 rc (M_looks_79L rc n)
set_option maxHeartbeats 4000000 in
set_option maxRecDepth 100000 in
theorem M_looks_79L_ok {φ : Fr} {d : Nat} (F : Fx φ ΩB cX10_looks RX10 5 (none)) (hd : 0 ≤ d) {rc : Nat → Int32 → Int32 → Int32 → Mem → Option Mem} (hrc : ∀ (w : Nat) (a0 : Int32) (a1 : Int32) (a2 : Int32) (μ : Mem)  (μ' : Mem), rc w a0 a1 a2 μ = some μ' → M_looksRG φ.1.2.1 (gl φ) d w a0 a1 a2 μ (none, μ')) : ∀ (n : Nat) (x1 : Int32) (x2 : Int32) (x3 : Int32) (x4 : Int32) (μ : Mem)  (μ' : Mem), M_looks_79L rc n x1 x2 x3 x4 μ = some μ' → V φ ΩB 5 (d + 1) 79 [some (rf φ 0 0), some (.int x1), some (.int x2), some (.int x3), some (.int x4)] [] μ (none, μ') := by
  intro n
  induction n with
  | zero => intro x1 x2 x3 x4 μ μ' h; cases h
  | succ n ih => intro x1 x2 x3 x4 μ μ' h; exact M_looks_79_ok F hd hrc ih h
def M_looks_41 (rc : Nat → Int32 → Int32 → Int32 → Mem → Option Mem) (k41 : Int32 → Mem → Option Mem) (x4 : Int32) (μ : Mem) : Option Mem :=
  if x4 < (rd μ 0 0 12) then (
    chk (inb x4 6) <|
    chk (inb x4 6) <|
    chk (inb x4 6) <|
    nm (up μ 8 0 (ix x4) ((rd μ 8 0 (ix x4)) ||| (shl 1 (rd μ 9 0 (ix x4))))) fun μ5 =>
    nm (x4 + 1) fun a6 =>
    k41 a6 μ5)
  else (
    some μ)
set_option maxHeartbeats 4000000 in
set_option maxRecDepth 100000 in
theorem M_looks_41_ok {φ : Fr} {d : Nat} (F : Fx φ ΩB cX10_looks RX10 5 (none)) (hd : 0 ≤ d) {rc : Nat → Int32 → Int32 → Int32 → Mem → Option Mem} (hrc : ∀ (w : Nat) (a0 : Int32) (a1 : Int32) (a2 : Int32) (μ : Mem)  (μ' : Mem), rc w a0 a1 a2 μ = some μ' → M_looksRG φ.1.2.1 (gl φ) d w a0 a1 a2 μ (none, μ')) {k41 : Int32 → Mem → Option Mem} (hk41 : ∀ (x4 : Int32) (μ : Mem)  (μ' : Mem), k41 x4 μ = some μ' → V φ ΩB 5 (d + 1) 41 [some (rf φ 0 0), none, none, none, some (.int x4)] [] μ (none, μ')) {x4 : Int32} {μ : Mem}  {μ' : Mem} (h : M_looks_41 rc k41 x4 μ = some μ') : V φ ΩB 5 (d + 1) 41 [some (rf φ 0 0), none, none, none, some (.int x4)] [] μ (none, μ') := by
  unfold M_looks_41 at h
  refine V.iload F dX10_looks_41 rfl ?_
  refine V.rload_n F dX10_looks_43 rfl rfl ?_
  refine gf_RX10_76 F dX10_looks_44 ?_
  refine V.icmp_ge (tgt := 75) F dX10_looks_47 (by decide) (fun c1 => ?_) (fun c1 => ?_)
  · have h := f_out h c1
    obtain rfl := r1_out h
    exact V.vret F dX10_looks_75
  · have h := t_out h c1
    refine V.rload_n F dX10_looks_50 rfl rfl ?_
    refine gf_RX10_38 F dX10_looks_51 ?_
    refine V.iload F dX10_looks_54 rfl ?_
    refine V.dup2 F dX10_looks_56 rfl rfl ?_
    obtain ⟨c2, h⟩ := chk_out h
    refine V.iald (t0 := 0) (n := 6) F mB8 rfl rfl c2 dX10_looks_57 ?_
    refine V.iconst (v := 1) F dX10_looks_58 (by decide) ?_
    refine V.rload_n F dX10_looks_59 rfl rfl ?_
    refine gf_RX10_41 F dX10_looks_60 ?_
    refine V.iload F dX10_looks_63 rfl ?_
    obtain ⟨c3, h⟩ := chk_out h
    refine V.iald (t0 := 0) (n := 6) F mB9 rfl rfl c3 dX10_looks_65 ?_
    refine V.ishl F dX10_looks_66 ?_
    refine V.ior F dX10_looks_67 ?_
    obtain ⟨c4, h⟩ := chk_out h
    obtain ⟨μ5, eμ5, h⟩ := nm_out h
    refine V.iast (t0 := 0) (n := 6) F mB8 (fun _ => rfl) rfl c4 eμ5 dX10_looks_68 ?_
    obtain ⟨a6, ea6, h⟩ := nm_out h
    refine V.iinc (z := 1) (L' := [some (rf φ 0 0), none, none, none, some (.int a6)]) F dX10_looks_69 rfl (by decide) ea6 (by decide) rfl rfl ?_
    refine V.goto (tgt := 41) F dX10_looks_72 (by decide) ?_
    exact hk41 _ _ _ h
def M_looks_41L (rc : Nat → Int32 → Int32 → Int32 → Mem → Option Mem) : Nat → Int32 → Mem → Option Mem
  | 0 => fun _ _ => none
  | n + 1 => M_looks_41 rc (M_looks_41L rc n)
set_option maxHeartbeats 4000000 in
set_option maxRecDepth 100000 in
theorem M_looks_41L_ok {φ : Fr} {d : Nat} (F : Fx φ ΩB cX10_looks RX10 5 (none)) (hd : 0 ≤ d) {rc : Nat → Int32 → Int32 → Int32 → Mem → Option Mem} (hrc : ∀ (w : Nat) (a0 : Int32) (a1 : Int32) (a2 : Int32) (μ : Mem)  (μ' : Mem), rc w a0 a1 a2 μ = some μ' → M_looksRG φ.1.2.1 (gl φ) d w a0 a1 a2 μ (none, μ')) : ∀ (n : Nat) (x4 : Int32) (μ : Mem)  (μ' : Mem), M_looks_41L rc n x4 μ = some μ' → V φ ΩB 5 (d + 1) 41 [some (rf φ 0 0), none, none, none, some (.int x4)] [] μ (none, μ') := by
  intro n
  induction n with
  | zero => intro x4 μ μ' h; cases h
  | succ n ih => intro x4 μ μ' h; exact M_looks_41_ok F hd hrc ih h
def M_looks_35 (rc : Nat → Int32 → Int32 → Int32 → Mem → Option Mem) (y1 : Int32) (μ : Mem) : Option Mem :=
  nm (up μ 0 0 36 y1) fun μ1 =>
  M_looks_41L rc 1000 0 μ1
set_option maxHeartbeats 4000000 in
set_option maxRecDepth 100000 in
theorem M_looks_35_ok {φ : Fr} {d : Nat} (F : Fx φ ΩB cX10_looks RX10 5 (none)) (hd : 0 ≤ d) {rc : Nat → Int32 → Int32 → Int32 → Mem → Option Mem} (hrc : ∀ (w : Nat) (a0 : Int32) (a1 : Int32) (a2 : Int32) (μ : Mem)  (μ' : Mem), rc w a0 a1 a2 μ = some μ' → M_looksRG φ.1.2.1 (gl φ) d w a0 a1 a2 μ (none, μ')) {y1 : Int32} {μ : Mem}  {μ' : Mem} (h : M_looks_35 rc y1 μ = some μ') : V φ ΩB 5 (d + 1) 35 [some (rf φ 0 0), none, none, none, none] [.int y1, rf φ 0 0] μ (none, μ') := by
  unfold M_looks_35 at h
  obtain ⟨μ1, eμ1, h⟩ := nm_out h
  refine pf_RX10_315 F eμ1 dX10_looks_35 ?_
  refine V.iconst (v := 0) F dX10_looks_38 (by decide) ?_
  refine V.istore (L' := [some (rf φ 0 0), none, none, none, some (.int 0)]) F dX10_looks_39 (by decide) rfl rfl rfl ?_
  exact M_looks_41L_ok F hd hrc 1000 _ _ _ h
def M_looks (rc : Nat → Int32 → Int32 → Int32 → Mem → Option Mem) (x1 : Int32) (x2 : Int32) (x3 : Int32) (μ : Mem) : Option Mem :=
  if x1 = (rd μ 0 0 12) then (
    nm (up μ 0 0 35 ((rd μ 0 0 35) + 1)) fun μ2 =>
    if (rd μ2 0 0 35) = 1 then (
      M_looks_35 rc x3 μ2)
    else (
      M_looks_35 rc (rd μ2 0 0 36) μ2))
  else (
    M_looks_79L rc 1000 x1 x2 x3 0 μ)
set_option maxHeartbeats 4000000 in
set_option maxRecDepth 100000 in
theorem M_looks_ok {φ : Fr} {d : Nat} (F : Fx φ ΩB cX10_looks RX10 5 (none)) (hd : 0 ≤ d) {rc : Nat → Int32 → Int32 → Int32 → Mem → Option Mem} (hrc : ∀ (w : Nat) (a0 : Int32) (a1 : Int32) (a2 : Int32) (μ : Mem)  (μ' : Mem), rc w a0 a1 a2 μ = some μ' → M_looksRG φ.1.2.1 (gl φ) d w a0 a1 a2 μ (none, μ')) {x1 : Int32} {x2 : Int32} {x3 : Int32} {μ : Mem}  {μ' : Mem} (h : M_looks rc x1 x2 x3 μ = some μ') : V φ ΩB 5 (d + 1) 0 [some (rf φ 0 0), some (.int x1), some (.int x2), some (.int x3), none] [] μ (none, μ') := by
  unfold M_looks at h
  refine V.iload_n F dX10_looks_0 rfl rfl ?_
  refine V.rload_n F dX10_looks_1 rfl rfl ?_
  refine gf_RX10_76 F dX10_looks_2 ?_
  refine V.icmp_ne (tgt := 76) F dX10_looks_5 (by decide) (fun c1 => ?_) (fun c1 => ?_)
  · have h := f_out h c1
    refine V.iconst (v := 0) F dX10_looks_76 (by decide) ?_
    refine V.istore (L' := [some (rf φ 0 0), some (.int x1), some (.int x2), some (.int x3), some (.int 0)]) F dX10_looks_77 (by decide) rfl rfl rfl ?_
    exact M_looks_79L_ok F hd hrc 1000 _ _ _ _ _ _ h
  · have h := t_out h c1
    refine V.rload_n F dX10_looks_8 rfl rfl ?_
    refine V.dup F dX10_looks_9 rfl ?_
    refine gf_RX10_312 F dX10_looks_10 ?_
    refine V.iconst (v := 1) F dX10_looks_13 (by decide) ?_
    refine V.iadd F dX10_looks_14 ?_
    obtain ⟨μ2, eμ2, h⟩ := nm_out h
    refine pf_RX10_312 F eμ2 dX10_looks_15 ?_
    refine V.rload_n F dX10_looks_18 rfl rfl ?_
    refine V.rload_n F dX10_looks_19 rfl rfl ?_
    refine gf_RX10_312 F dX10_looks_20 ?_
    refine V.iconst (v := 1) F dX10_looks_23 (by decide) ?_
    refine V.icmp_ne (tgt := 31) F dX10_looks_24 (by decide) (fun c3 => ?_) (fun c3 => ?_)
    · have h := f_out h c3
      refine V.rload_n F dX10_looks_31 rfl rfl ?_
      refine gf_RX10_315 F dX10_looks_32 ?_
      refine V.msk (L' := [some (rf φ 0 0), none, none, none, none]) [true, false, false, false, false] rfl ?_
      exact M_looks_35_ok F hd hrc h
    · have h := t_out h c3
      refine V.iload_n F dX10_looks_27 rfl rfl ?_
      refine V.goto (tgt := 35) F dX10_looks_28 (by decide) ?_
      refine V.msk (L' := [some (rf φ 0 0), none, none, none, none]) [true, false, false, false, false] rfl ?_
      exact M_looks_35_ok F hd hrc h
def M_looksR : Nat → Nat → Int32 → Int32 → Int32 → Mem → Option Mem
  | 0 => fun _ _ _ _ _ => none
  | n + 1 => fun w a0 a1 a2 μ => match w with
    | 0 => M_looks (M_looksR n) a0 a1 a2 μ
    | _ => none
set_option maxHeartbeats 4000000 in
set_option maxRecDepth 100000 in
theorem M_looksR_ct {l : Launch} {G : Glo} : ∀ (n w : Nat) (a0 : Int32) (a1 : Int32) (a2 : Int32) (μ : Mem)  (μ' : Mem), M_looksR n w a0 a1 a2 μ = some μ' → M_looksRG l G (0 + n) w a0 a1 a2 μ (none, μ') := by
  intro n
  induction n with
  | zero => intro w a0 a1 a2 μ μ' h; cases h
  | succ n ih =>
    intro w a0 a1 a2 μ μ' h
    match w, h with
    | 0, h =>
      refine Ct.intro (y := yX10_looks) (by decide) (Nat.le_of_ble_eq_true rfl) ?_
      intro φ hl hG F
      subst hl; subst hG
      exact M_looks_ok F (Nat.le_add_right _ _) ih h
    | _ + 1, h => cases h
def M_looksAll_62 (k2 : Int32 → Int32 → Mem → Option Mem) (k19 : Int32 → Int32 → Int32 → Mem → Option Mem) (x1 : Int32) (x2 : Int32) (x3 : Int32) (y1 : Int32) (y2 : Int32) (μ : Mem) : Option Mem :=
  chk (inb y1 36) <|
  nm (up μ 7 0 (ix y1) y2) fun μ2 =>
  nm (x3 + 1) fun a3 =>
  k19 x1 x2 a3 μ2
set_option maxHeartbeats 4000000 in
set_option maxRecDepth 100000 in
theorem M_looksAll_62_ok {φ : Fr} {d : Nat} (F : Fx φ ΩB cX10_looksAll RX10 4 (none)) (hd : 110 ≤ d) {k2 : Int32 → Int32 → Mem → Option Mem} (hk2 : ∀ (x1 : Int32) (x2 : Int32) (μ : Mem)  (μ' : Mem), k2 x1 x2 μ = some μ' → V φ ΩB 4 d 2 [some (rf φ 0 0), some (.int x1), some (.int x2), none] [] μ (none, μ')) {k19 : Int32 → Int32 → Int32 → Mem → Option Mem} (hk19 : ∀ (x1 : Int32) (x2 : Int32) (x3 : Int32) (μ : Mem)  (μ' : Mem), k19 x1 x2 x3 μ = some μ' → V φ ΩB 4 d 19 [some (rf φ 0 0), some (.int x1), some (.int x2), some (.int x3)] [] μ (none, μ')) {x1 : Int32} {x2 : Int32} {x3 : Int32} {y1 : Int32} {y2 : Int32} {μ : Mem}  {μ' : Mem} (h : M_looksAll_62 k2 k19 x1 x2 x3 y1 y2 μ = some μ') : V φ ΩB 4 d 62 [some (rf φ 0 0), some (.int x1), some (.int x2), some (.int x3)] [.int y2, .int y1, rf φ 7 0] μ (none, μ') := by
  unfold M_looksAll_62 at h
  obtain ⟨c1, h⟩ := chk_out h
  obtain ⟨μ2, eμ2, h⟩ := nm_out h
  refine V.iast (t0 := 0) (n := 36) F mB7 (fun _ => rfl) rfl c1 eμ2 dX10_looksAll_62 ?_
  obtain ⟨a3, ea3, h⟩ := nm_out h
  refine V.iinc (z := 1) (L' := [some (rf φ 0 0), some (.int x1), some (.int x2), some (.int a3)]) F dX10_looksAll_63 rfl (by decide) ea3 (by decide) rfl rfl ?_
  refine V.goto (tgt := 19) F dX10_looksAll_66 (by decide) ?_
  exact hk19 _ _ _ _ _ h
def M_looksAll_19 (k2 : Int32 → Int32 → Mem → Option Mem) (k19 : Int32 → Int32 → Int32 → Mem → Option Mem) (x1 : Int32) (x2 : Int32) (x3 : Int32) (μ : Mem) : Option Mem :=
  if x3 < (rd μ 0 0 12) then (
    bnd2 (M_feelsOf x2 x3 μ) fun r4 μ5 =>
    chk (inb ((40 * x1) + x2) 160) <|
    if r4 = (rd μ5 16 0 (ix ((40 * x1) + x2))) then (
      M_looksAll_62 k2 k19 x1 x2 x3 ((6 * x2) + x3) 1 μ5)
    else (
      M_looksAll_62 k2 k19 x1 x2 x3 ((6 * x2) + x3) 0 μ5))
  else (
    nm (x2 + 1) fun a2 =>
    k2 x1 a2 μ)
set_option maxHeartbeats 4000000 in
set_option maxRecDepth 100000 in
theorem M_looksAll_19_ok {φ : Fr} {d : Nat} (F : Fx φ ΩB cX10_looksAll RX10 4 (none)) (hd : 110 ≤ d) {k2 : Int32 → Int32 → Mem → Option Mem} (hk2 : ∀ (x1 : Int32) (x2 : Int32) (μ : Mem)  (μ' : Mem), k2 x1 x2 μ = some μ' → V φ ΩB 4 d 2 [some (rf φ 0 0), some (.int x1), some (.int x2), none] [] μ (none, μ')) {k19 : Int32 → Int32 → Int32 → Mem → Option Mem} (hk19 : ∀ (x1 : Int32) (x2 : Int32) (x3 : Int32) (μ : Mem)  (μ' : Mem), k19 x1 x2 x3 μ = some μ' → V φ ΩB 4 d 19 [some (rf φ 0 0), some (.int x1), some (.int x2), some (.int x3)] [] μ (none, μ')) {x1 : Int32} {x2 : Int32} {x3 : Int32} {μ : Mem}  {μ' : Mem} (h : M_looksAll_19 k2 k19 x1 x2 x3 μ = some μ') : V φ ΩB 4 d 19 [some (rf φ 0 0), some (.int x1), some (.int x2), some (.int x3)] [] μ (none, μ') := by
  unfold M_looksAll_19 at h
  refine V.iload_n F dX10_looksAll_19 rfl rfl ?_
  refine V.rload_n F dX10_looksAll_20 rfl rfl ?_
  refine gf_RX10_76 F dX10_looksAll_21 ?_
  refine V.icmp_ge (tgt := 69) F dX10_looksAll_24 (by decide) (fun c1 => ?_) (fun c1 => ?_)
  · have h := f_out h c1
    obtain ⟨a2, ea2, h⟩ := nm_out h
    refine V.iinc (z := 1) (L' := [some (rf φ 0 0), some (.int x1), some (.int a2), some (.int x3)]) F dX10_looksAll_69 rfl (by decide) ea2 (by decide) rfl rfl ?_
    refine V.goto (tgt := 2) F dX10_looksAll_72 (by decide) ?_
    refine V.msk (L' := [some (rf φ 0 0), some (.int x1), some (.int a2), none]) [true, true, true, false] rfl ?_
    exact hk2 _ _ _ _ h
  · have h := t_out h c1
    refine V.rload_n F dX10_looksAll_27 rfl rfl ?_
    refine gf_RX10_35 F dX10_looksAll_28 ?_
    refine V.bipush (v := 6) F dX10_looksAll_31 (by decide) ?_
    refine V.iload_n F dX10_looksAll_33 rfl rfl ?_
    refine V.imul F dX10_looksAll_34 ?_
    refine V.iload_n F dX10_looksAll_35 rfl rfl ?_
    refine V.iadd F dX10_looksAll_36 ?_
    refine V.rload_n F dX10_looksAll_37 rfl rfl ?_
    refine V.iload_n F dX10_looksAll_38 rfl rfl ?_
    refine V.iload_n F dX10_looksAll_39 rfl rfl ?_
    obtain ⟨r4, μ5, e3, h⟩ := bnd2_out h
    refine V.callVi (f := 0) (i := 0) (As := [.int x2, .int x3]) F ck_RX10_129 (M_feelsOf_ct e3) (by omega) (by decide) rfl mB0 rfl rfl rfl (Nat.le_of_ble_eq_true rfl) dX10_looksAll_40 ?_
    refine V.rload_n F dX10_looksAll_43 rfl rfl ?_
    refine gf_RX10_66 F dX10_looksAll_44 ?_
    refine V.bipush (v := 40) F dX10_looksAll_47 (by decide) ?_
    refine V.iload_n F dX10_looksAll_49 rfl rfl ?_
    refine V.imul F dX10_looksAll_50 ?_
    refine V.iload_n F dX10_looksAll_51 rfl rfl ?_
    refine V.iadd F dX10_looksAll_52 ?_
    obtain ⟨c6, h⟩ := chk_out h
    refine V.iald (t0 := 0) (n := 160) F mB16 rfl rfl c6 dX10_looksAll_53 ?_
    refine V.icmp_ne (tgt := 61) F dX10_looksAll_54 (by decide) (fun c7 => ?_) (fun c7 => ?_)
    · have h := f_out h c7
      refine V.iconst (v := 0) F dX10_looksAll_61 (by decide) ?_
      exact M_looksAll_62_ok F hd hk2 hk19 h
    · have h := t_out h c7
      refine V.iconst (v := 1) F dX10_looksAll_57 (by decide) ?_
      refine V.goto (tgt := 62) F dX10_looksAll_58 (by decide) ?_
      exact M_looksAll_62_ok F hd hk2 hk19 h
def M_looksAll_19L (k2 : Int32 → Int32 → Mem → Option Mem) : Nat → Int32 → Int32 → Int32 → Mem → Option Mem
  | 0 => fun _ _ _ _ => none
  | n + 1 => M_looksAll_19 k2 (M_looksAll_19L k2 n)
set_option maxHeartbeats 4000000 in
set_option maxRecDepth 100000 in
theorem M_looksAll_19L_ok {φ : Fr} {d : Nat} (F : Fx φ ΩB cX10_looksAll RX10 4 (none)) (hd : 110 ≤ d) {k2 : Int32 → Int32 → Mem → Option Mem} (hk2 : ∀ (x1 : Int32) (x2 : Int32) (μ : Mem)  (μ' : Mem), k2 x1 x2 μ = some μ' → V φ ΩB 4 d 2 [some (rf φ 0 0), some (.int x1), some (.int x2), none] [] μ (none, μ')) : ∀ (n : Nat) (x1 : Int32) (x2 : Int32) (x3 : Int32) (μ : Mem)  (μ' : Mem), M_looksAll_19L k2 n x1 x2 x3 μ = some μ' → V φ ΩB 4 d 19 [some (rf φ 0 0), some (.int x1), some (.int x2), some (.int x3)] [] μ (none, μ') := by
  intro n
  induction n with
  | zero => intro x1 x2 x3 μ μ' h; cases h
  | succ n ih => intro x1 x2 x3 μ μ' h; exact M_looksAll_19_ok F hd hk2 ih h
def M_looksAll_2 (k2 : Int32 → Int32 → Mem → Option Mem) (x1 : Int32) (x2 : Int32) (μ : Mem) : Option Mem :=
  if x2 < (rd μ 0 0 12) then (
    chk (inb x2 6) <|
    nm (up μ 8 0 (ix x2) 0) fun μ7 =>
    M_looksAll_19L k2 1000 x1 x2 0 μ7)
  else (
    nm (up μ 0 0 35 0) fun μ2 =>
    nm (up μ2 0 0 36 0) fun μ3 =>
    bnd (M_looksR 100 0 0 0 0 μ3) fun μ5 =>
    some μ5)
set_option maxHeartbeats 4000000 in
set_option maxRecDepth 100000 in
theorem M_looksAll_2_ok {φ : Fr} {d : Nat} (F : Fx φ ΩB cX10_looksAll RX10 4 (none)) (hd : 110 ≤ d) {k2 : Int32 → Int32 → Mem → Option Mem} (hk2 : ∀ (x1 : Int32) (x2 : Int32) (μ : Mem)  (μ' : Mem), k2 x1 x2 μ = some μ' → V φ ΩB 4 d 2 [some (rf φ 0 0), some (.int x1), some (.int x2), none] [] μ (none, μ')) {x1 : Int32} {x2 : Int32} {μ : Mem}  {μ' : Mem} (h : M_looksAll_2 k2 x1 x2 μ = some μ') : V φ ΩB 4 d 2 [some (rf φ 0 0), some (.int x1), some (.int x2), none] [] μ (none, μ') := by
  unfold M_looksAll_2 at h
  refine V.iload_n F dX10_looksAll_2 rfl rfl ?_
  refine V.rload_n F dX10_looksAll_3 rfl rfl ?_
  refine gf_RX10_76 F dX10_looksAll_4 ?_
  refine V.icmp_ge (tgt := 75) F dX10_looksAll_7 (by decide) (fun c1 => ?_) (fun c1 => ?_)
  · have h := f_out h c1
    refine V.rload_n F dX10_looksAll_75 rfl rfl ?_
    refine V.iconst (v := 0) F dX10_looksAll_76 (by decide) ?_
    obtain ⟨μ2, eμ2, h⟩ := nm_out h
    refine pf_RX10_312 F eμ2 dX10_looksAll_77 ?_
    refine V.rload_n F dX10_looksAll_80 rfl rfl ?_
    refine V.iconst (v := 0) F dX10_looksAll_81 (by decide) ?_
    obtain ⟨μ3, eμ3, h⟩ := nm_out h
    refine pf_RX10_315 F eμ3 dX10_looksAll_82 ?_
    refine V.rload_n F dX10_looksAll_85 rfl rfl ?_
    refine V.iconst (v := 0) F dX10_looksAll_86 (by decide) ?_
    refine V.iconst (v := 0) F dX10_looksAll_87 (by decide) ?_
    refine V.iconst (v := 0) F dX10_looksAll_88 (by decide) ?_
    obtain ⟨μ5, e4, h⟩ := bnd_out h
    refine V.callVv (f := 0) (i := 0) (As := [.int 0, .int 0, .int 0]) F ck_RX10_318 (M_looksR_ct 100 0 _ _ _ _ _ e4) (by omega) (by decide) rfl mB0 rfl rfl rfl (Nat.le_of_ble_eq_true rfl) dX10_looksAll_89 ?_
    obtain rfl := r1_out h
    exact V.vret F dX10_looksAll_92
  · have h := t_out h c1
    refine V.rload_n F dX10_looksAll_10 rfl rfl ?_
    refine gf_RX10_38 F dX10_looksAll_11 ?_
    refine V.iload_n F dX10_looksAll_14 rfl rfl ?_
    refine V.iconst (v := 0) F dX10_looksAll_15 (by decide) ?_
    obtain ⟨c6, h⟩ := chk_out h
    obtain ⟨μ7, eμ7, h⟩ := nm_out h
    refine V.iast (t0 := 0) (n := 6) F mB8 (fun _ => rfl) rfl c6 eμ7 dX10_looksAll_16 ?_
    refine V.iconst (v := 0) F dX10_looksAll_17 (by decide) ?_
    refine V.istore_n (L' := [some (rf φ 0 0), some (.int x1), some (.int x2), some (.int 0)]) F dX10_looksAll_18 rfl (by decide) rfl rfl rfl ?_
    exact M_looksAll_19L_ok F hd hk2 1000 _ _ _ _ _ h
def M_looksAll_2L : Nat → Int32 → Int32 → Mem → Option Mem
  | 0 => fun _ _ _ => none
  | n + 1 => M_looksAll_2 (M_looksAll_2L n)
set_option maxHeartbeats 4000000 in
set_option maxRecDepth 100000 in
theorem M_looksAll_2L_ok {φ : Fr} {d : Nat} (F : Fx φ ΩB cX10_looksAll RX10 4 (none)) (hd : 110 ≤ d) : ∀ (n : Nat) (x1 : Int32) (x2 : Int32) (μ : Mem)  (μ' : Mem), M_looksAll_2L n x1 x2 μ = some μ' → V φ ΩB 4 d 2 [some (rf φ 0 0), some (.int x1), some (.int x2), none] [] μ (none, μ') := by
  intro n
  induction n with
  | zero => intro x1 x2 μ μ' h; cases h
  | succ n ih => intro x1 x2 μ μ' h; exact M_looksAll_2_ok F hd ih h
def M_looksAll (x1 : Int32) (μ : Mem) : Option Mem :=
  M_looksAll_2L 1000 x1 0 μ
set_option maxHeartbeats 4000000 in
set_option maxRecDepth 100000 in
theorem M_looksAll_ok {φ : Fr} {d : Nat} (F : Fx φ ΩB cX10_looksAll RX10 4 (none)) (hd : 110 ≤ d) {x1 : Int32} {μ : Mem}  {μ' : Mem} (h : M_looksAll x1 μ = some μ') : V φ ΩB 4 d 0 [some (rf φ 0 0), some (.int x1), none, none] [] μ (none, μ') := by
  unfold M_looksAll at h
  refine V.iconst (v := 0) F dX10_looksAll_0 (by decide) ?_
  refine V.istore_n (L' := [some (rf φ 0 0), some (.int x1), some (.int 0), none]) F dX10_looksAll_1 rfl (by decide) rfl rfl rfl ?_
  exact M_looksAll_2L_ok F hd 1000 _ _ _ _ h
set_option maxHeartbeats 4000000 in
set_option maxRecDepth 100000 in
theorem M_looksAll_ct {l : Launch} {G : Glo} {x1 : Int32} {μ : Mem}  {μ' : Mem} (h : M_looksAll x1 μ = some μ') : Ct l ΩB G 110 yX10_looksAll cX10_looksAll 4 (none) [.ref (G.1 0 0), .int x1] μ (none, μ') := by
  refine Ct.intro (by decide) (Nat.le_of_ble_eq_true rfl) ?_
  intro φ hl hG F
  subst hl; subst hG
  exact M_looksAll_ok F (Nat.le_refl _) h
def M_sure_31 (k4 : Int32 → Int32 → Mem → Option Int32) (x2 : Int32) (y0 : Int32) (y1 : Int32) (μ : Mem) : Option Int32 :=
  nm (y0 ||| (shl y1 x2)) fun a1 =>
  nm (x2 + 1) fun a2 =>
  k4 a1 a2 μ
set_option maxHeartbeats 4000000 in
set_option maxRecDepth 100000 in
theorem M_sure_31_ok {φ : Fr} {d : Nat} (F : Fx φ ΩB cX10_sure RX10 3 (some .int)) (hd : 2 ≤ d) {k4 : Int32 → Int32 → Mem → Option Int32} (hk4 : ∀ (x1 : Int32) (x2 : Int32) (μ : Mem) (r : Int32), k4 x1 x2 μ = some r → V φ ΩB 3 d 4 [some (rf φ 0 0), some (.int x1), some (.int x2)] [] μ (some (.int r), μ)) {x2 : Int32} {y0 : Int32} {y1 : Int32} {μ : Mem} {r : Int32} (h : M_sure_31 k4 x2 y0 y1 μ = some r) : V φ ΩB 3 d 31 [some (rf φ 0 0), none, some (.int x2)] [.int y1, .int y0] μ (some (.int r), μ) := by
  unfold M_sure_31 at h
  refine V.iload_n F dX10_sure_31 rfl rfl ?_
  refine V.ishl F dX10_sure_32 ?_
  refine V.ior F dX10_sure_33 ?_
  obtain ⟨a1, ea1, h⟩ := nm_out h
  refine V.istore_n (L' := [some (rf φ 0 0), some (.int a1), some (.int x2)]) F dX10_sure_34 rfl (by decide) rfl ea1 rfl ?_
  obtain ⟨a2, ea2, h⟩ := nm_out h
  refine V.iinc (z := 1) (L' := [some (rf φ 0 0), some (.int a1), some (.int a2)]) F dX10_sure_35 rfl (by decide) ea2 (by decide) rfl rfl ?_
  refine V.goto (tgt := 4) F dX10_sure_38 (by decide) ?_
  exact hk4 _ _ _ _ h
def M_sure_4 (k4 : Int32 → Int32 → Mem → Option Int32) (x1 : Int32) (x2 : Int32) (μ : Mem) : Option Int32 :=
  if x2 < (rd μ 0 0 12) then (
    chk (inb x2 6) <|
    bnd (M_bitsOf (rd μ 8 0 (ix x2))) fun r4 =>
    if r4 = 1 then (
      M_sure_31 k4 x2 x1 1 μ)
    else (
      M_sure_31 k4 x2 x1 0 μ))
  else (
    some x1)
set_option maxHeartbeats 4000000 in
set_option maxRecDepth 100000 in
theorem M_sure_4_ok {φ : Fr} {d : Nat} (F : Fx φ ΩB cX10_sure RX10 3 (some .int)) (hd : 2 ≤ d) {k4 : Int32 → Int32 → Mem → Option Int32} (hk4 : ∀ (x1 : Int32) (x2 : Int32) (μ : Mem) (r : Int32), k4 x1 x2 μ = some r → V φ ΩB 3 d 4 [some (rf φ 0 0), some (.int x1), some (.int x2)] [] μ (some (.int r), μ)) {x1 : Int32} {x2 : Int32} {μ : Mem} {r : Int32} (h : M_sure_4 k4 x1 x2 μ = some r) : V φ ΩB 3 d 4 [some (rf φ 0 0), some (.int x1), some (.int x2)] [] μ (some (.int r), μ) := by
  unfold M_sure_4 at h
  refine V.iload_n F dX10_sure_4 rfl rfl ?_
  refine V.rload_n F dX10_sure_5 rfl rfl ?_
  refine gf_RX10_76 F dX10_sure_6 ?_
  refine V.icmp_ge (tgt := 41) F dX10_sure_9 (by decide) (fun c1 => ?_) (fun c1 => ?_)
  · have h := f_out h c1
    refine V.iload_n F dX10_sure_41 rfl rfl ?_
    obtain rfl := r1_out h
    exact V.iret F dX10_sure_42
  · have h := t_out h c1
    refine V.iload_n F dX10_sure_12 rfl rfl ?_
    refine V.rload_n F dX10_sure_13 rfl rfl ?_
    refine gf_RX10_38 F dX10_sure_14 ?_
    refine V.iload_n F dX10_sure_17 rfl rfl ?_
    obtain ⟨c2, h⟩ := chk_out h
    refine V.iald (t0 := 0) (n := 6) F mB8 rfl rfl c2 dX10_sure_18 ?_
    obtain ⟨r4, e3, h⟩ := bnd_out h
    refine V.callSi (As := [.int (rd μ 8 0 (ix x2))]) F ck_RX10_281 (M_bitsOf_ct e3) (by omega) (by decide) rfl rfl (Nat.le_of_ble_eq_true rfl) dX10_sure_19 ?_
    refine V.iconst (v := 1) F dX10_sure_22 (by decide) ?_
    refine V.icmp_ne (tgt := 30) F dX10_sure_23 (by decide) (fun c5 => ?_) (fun c5 => ?_)
    · have h := f_out h c5
      refine V.iconst (v := 0) F dX10_sure_30 (by decide) ?_
      refine V.msk (L' := [some (rf φ 0 0), none, some (.int x2)]) [true, false, true] rfl ?_
      exact M_sure_31_ok F hd hk4 h
    · have h := t_out h c5
      refine V.iconst (v := 1) F dX10_sure_26 (by decide) ?_
      refine V.goto (tgt := 31) F dX10_sure_27 (by decide) ?_
      refine V.msk (L' := [some (rf φ 0 0), none, some (.int x2)]) [true, false, true] rfl ?_
      exact M_sure_31_ok F hd hk4 h
def M_sure_4L : Nat → Int32 → Int32 → Mem → Option Int32
  | 0 => fun _ _ _ => none
  | n + 1 => M_sure_4 (M_sure_4L n)
set_option maxHeartbeats 4000000 in
set_option maxRecDepth 100000 in
theorem M_sure_4L_ok {φ : Fr} {d : Nat} (F : Fx φ ΩB cX10_sure RX10 3 (some .int)) (hd : 2 ≤ d) : ∀ (n : Nat) (x1 : Int32) (x2 : Int32) (μ : Mem) (r : Int32), M_sure_4L n x1 x2 μ = some r → V φ ΩB 3 d 4 [some (rf φ 0 0), some (.int x1), some (.int x2)] [] μ (some (.int r), μ) := by
  intro n
  induction n with
  | zero => intro x1 x2 μ r h; cases h
  | succ n ih => intro x1 x2 μ r h; exact M_sure_4_ok F hd ih h
def M_sure (μ : Mem) : Option Int32 :=
  M_sure_4L 1000 0 0 μ
set_option maxHeartbeats 4000000 in
set_option maxRecDepth 100000 in
theorem M_sure_ok {φ : Fr} {d : Nat} (F : Fx φ ΩB cX10_sure RX10 3 (some .int)) (hd : 2 ≤ d) {μ : Mem} {r : Int32} (h : M_sure μ = some r) : V φ ΩB 3 d 0 [some (rf φ 0 0), none, none] [] μ (some (.int r), μ) := by
  unfold M_sure at h
  refine V.iconst (v := 0) F dX10_sure_0 (by decide) ?_
  refine V.istore_n (L' := [some (rf φ 0 0), some (.int 0), none]) F dX10_sure_1 rfl (by decide) rfl rfl rfl ?_
  refine V.iconst (v := 0) F dX10_sure_2 (by decide) ?_
  refine V.istore_n (L' := [some (rf φ 0 0), some (.int 0), some (.int 0)]) F dX10_sure_3 rfl (by decide) rfl rfl rfl ?_
  exact M_sure_4L_ok F hd 1000 _ _ _ _ h
set_option maxHeartbeats 4000000 in
set_option maxRecDepth 100000 in
theorem M_sure_ct {l : Launch} {G : Glo} {μ : Mem} {r : Int32} (h : M_sure μ = some r) : Ct l ΩB G 2 yX10_sure cX10_sure 3 (some .int) [.ref (G.1 0 0)] μ (some (.int r), μ) := by
  refine Ct.intro (by decide) (Nat.le_of_ble_eq_true rfl) ?_
  intro φ hl hG F
  subst hl; subst hG
  exact M_sure_ok F (Nat.le_refl _) h
def M_isSheet (x0 : Int32) : Option Int32 :=
  nm (M_in (Int32.toInt64 x0) 0 3) fun r2 =>
  chk (r2 = 0 ∨ r2 = 1) <|
  some r2
set_option maxHeartbeats 4000000 in
set_option maxRecDepth 100000 in
theorem M_isSheet_ok {φ : Fr} {d : Nat} (F : Fx φ ΩB cX10_isSheet RX10 1 (some .boolean)) (hd : 2 ≤ d) {x0 : Int32} {μ : Mem} {r : Int32} (h : M_isSheet x0 = some r) : V φ ΩB 1 d 0 [some (.int x0)] [] μ (some (.int r), μ) := by
  unfold M_isSheet at h
  refine V.iload_n F dX10_isSheet_0 rfl rfl ?_
  refine V.i2l F dX10_isSheet_1 ?_
  refine V.lconst (v := 0) F dX10_isSheet_2 (by decide) ?_
  refine V.ldc2 F kl_RX10_310 dX10_isSheet_3 ?_
  obtain ⟨r2, e1, h⟩ := nm_out h
  refine V.callSi (As := [.long (Int32.toInt64 x0), .long 0, .long 3]) F ck_RX10_79 (M_in_ct e1) (by omega) (by decide) rfl rfl (Nat.le_of_ble_eq_true rfl) dX10_isSheet_6 ?_
  obtain ⟨c3, h⟩ := chk_out h
  obtain rfl := r1_out h
  exact V.zret F c3 dX10_isSheet_9
set_option maxHeartbeats 4000000 in
set_option maxRecDepth 100000 in
theorem M_isSheet_ct {l : Launch} {G : Glo} {x0 : Int32} {μ : Mem} {r : Int32} (h : M_isSheet x0 = some r) : Ct l ΩB G 2 yX10_isSheet cX10_isSheet 1 (some .boolean) [.int x0] μ (some (.int r), μ) := by
  refine Ct.intro (by decide) (Nat.le_of_ble_eq_true rfl) ?_
  intro φ hl hG F
  subst hl; subst hG
  exact M_isSheet_ok F (Nat.le_refl _) h
def M_tells_268 (k236 : Int32 → Int32 → Int32 → Int32 → Int32 → Int32 → Int32 → Mem → Option (Int32 × Mem)) (x1 : Int32) (x4 : Int32) (x5 : Int32) (x6 : Int32) (x7 : Int32) (x9 : Int32) (y0 : Int32) (y1 : Int32) (μ : Mem) : Option (Int32 × Mem) :=
  nm (y0 ||| (shl y1 x9)) fun a1 =>
  nm (x9 + 1) fun a2 =>
  k236 x1 x4 x5 x6 x7 a1 a2 μ
set_option maxHeartbeats 4000000 in
set_option maxRecDepth 100000 in
theorem M_tells_268_ok {φ : Fr} {d : Nat} (F : Fx φ ΩB cX10_tells RX10 10 (some .int)) (hd : 111 ≤ d) {k236 : Int32 → Int32 → Int32 → Int32 → Int32 → Int32 → Int32 → Mem → Option (Int32 × Mem)} (hk236 : ∀ (x1 : Int32) (x4 : Int32) (x5 : Int32) (x6 : Int32) (x7 : Int32) (x8 : Int32) (x9 : Int32) (μ : Mem) (r : Int32) (μ' : Mem), k236 x1 x4 x5 x6 x7 x8 x9 μ = some (r, μ') → V φ ΩB 10 d 236 [some (rf φ 0 0), some (.int x1), none, none, some (.int x4), some (.int x5), some (.int x6), some (.int x7), some (.int x8), some (.int x9)] [] μ (some (.int r), μ')) {x1 : Int32} {x4 : Int32} {x5 : Int32} {x6 : Int32} {x7 : Int32} {x9 : Int32} {y0 : Int32} {y1 : Int32} {μ : Mem} {r : Int32} {μ' : Mem} (h : M_tells_268 k236 x1 x4 x5 x6 x7 x9 y0 y1 μ = some (r, μ')) : V φ ΩB 10 d 268 [some (rf φ 0 0), some (.int x1), none, none, some (.int x4), some (.int x5), some (.int x6), some (.int x7), none, some (.int x9)] [.int y1, .int y0] μ (some (.int r), μ') := by
  unfold M_tells_268 at h
  refine V.iload F dX10_tells_268 rfl ?_
  refine V.ishl F dX10_tells_270 ?_
  refine V.ior F dX10_tells_271 ?_
  obtain ⟨a1, ea1, h⟩ := nm_out h
  refine V.istore (L' := [some (rf φ 0 0), some (.int x1), none, none, some (.int x4), some (.int x5), some (.int x6), some (.int x7), some (.int a1), some (.int x9)]) F dX10_tells_272 (by decide) rfl ea1 rfl ?_
  obtain ⟨a2, ea2, h⟩ := nm_out h
  refine V.iinc (z := 1) (L' := [some (rf φ 0 0), some (.int x1), none, none, some (.int x4), some (.int x5), some (.int x6), some (.int x7), some (.int a1), some (.int a2)]) F dX10_tells_274 rfl (by decide) ea2 (by decide) rfl rfl ?_
  refine V.goto (tgt := 236) F dX10_tells_277 (by decide) ?_
  exact hk236 _ _ _ _ _ _ _ _ _ _ h
def M_tells_236 (k236 : Int32 → Int32 → Int32 → Int32 → Int32 → Int32 → Int32 → Mem → Option (Int32 × Mem)) (x1 : Int32) (x4 : Int32) (x5 : Int32) (x6 : Int32) (x7 : Int32) (x8 : Int32) (x9 : Int32) (μ : Mem) : Option (Int32 × Mem) :=
  if x7 < x9 then (
    bnd (M_lays x5 x4 x6 μ) fun μ3 =>
    some (x8, μ3))
  else (
    bnd (M_lays x5 x4 x9 μ) fun μ5 =>
    bnd2 (M_unlike x1 μ5) fun r7 μ8 =>
    if r7 = 0 then (
      M_tells_268 k236 x1 x4 x5 x6 x7 x9 x8 1 μ8)
    else (
      M_tells_268 k236 x1 x4 x5 x6 x7 x9 x8 0 μ8))
set_option maxHeartbeats 4000000 in
set_option maxRecDepth 100000 in
theorem M_tells_236_ok {φ : Fr} {d : Nat} (F : Fx φ ΩB cX10_tells RX10 10 (some .int)) (hd : 111 ≤ d) {k236 : Int32 → Int32 → Int32 → Int32 → Int32 → Int32 → Int32 → Mem → Option (Int32 × Mem)} (hk236 : ∀ (x1 : Int32) (x4 : Int32) (x5 : Int32) (x6 : Int32) (x7 : Int32) (x8 : Int32) (x9 : Int32) (μ : Mem) (r : Int32) (μ' : Mem), k236 x1 x4 x5 x6 x7 x8 x9 μ = some (r, μ') → V φ ΩB 10 d 236 [some (rf φ 0 0), some (.int x1), none, none, some (.int x4), some (.int x5), some (.int x6), some (.int x7), some (.int x8), some (.int x9)] [] μ (some (.int r), μ')) {x1 : Int32} {x4 : Int32} {x5 : Int32} {x6 : Int32} {x7 : Int32} {x8 : Int32} {x9 : Int32} {μ : Mem} {r : Int32} {μ' : Mem} (h : M_tells_236 k236 x1 x4 x5 x6 x7 x8 x9 μ = some (r, μ')) : V φ ΩB 10 d 236 [some (rf φ 0 0), some (.int x1), none, none, some (.int x4), some (.int x5), some (.int x6), some (.int x7), some (.int x8), some (.int x9)] [] μ (some (.int r), μ') := by
  unfold M_tells_236 at h
  refine V.iload F dX10_tells_236 rfl ?_
  refine V.iload F dX10_tells_238 rfl ?_
  refine V.icmp_gt (tgt := 280) F dX10_tells_240 (by decide) (fun c1 => ?_) (fun c1 => ?_)
  · have h := t_out h c1
    refine V.rload_n F dX10_tells_280 rfl rfl ?_
    refine V.iload F dX10_tells_281 rfl ?_
    refine V.iload F dX10_tells_283 rfl ?_
    refine V.iload F dX10_tells_285 rfl ?_
    obtain ⟨μ3, e2, h⟩ := bnd_out h
    refine V.callVv (f := 0) (i := 0) (As := [.int x5, .int x4, .int x6]) F ck_RX10_97 (M_lays_ct e2) (by omega) (by decide) rfl mB0 rfl rfl rfl (Nat.le_of_ble_eq_true rfl) dX10_tells_287 ?_
    refine V.iload F dX10_tells_290 rfl ?_
    obtain ⟨rfl, rfl⟩ := r2_out h
    exact V.iret F dX10_tells_292
  · have h := f_out h c1
    refine V.rload_n F dX10_tells_243 rfl rfl ?_
    refine V.iload F dX10_tells_244 rfl ?_
    refine V.iload F dX10_tells_246 rfl ?_
    refine V.iload F dX10_tells_248 rfl ?_
    obtain ⟨μ5, e4, h⟩ := bnd_out h
    refine V.callVv (f := 0) (i := 0) (As := [.int x5, .int x4, .int x9]) F ck_RX10_97 (M_lays_ct e4) (by omega) (by decide) rfl mB0 rfl rfl rfl (Nat.le_of_ble_eq_true rfl) dX10_tells_250 ?_
    refine V.iload F dX10_tells_253 rfl ?_
    refine V.rload_n F dX10_tells_255 rfl rfl ?_
    refine V.iload_n F dX10_tells_256 rfl rfl ?_
    obtain ⟨r7, μ8, e6, h⟩ := bnd2_out h
    refine V.callVi (f := 0) (i := 0) (As := [.int x1]) F ck_RX10_326 (M_unlike_ct e6) (by omega) (by decide) rfl mB0 rfl rfl rfl (Nat.le_of_ble_eq_true rfl) dX10_tells_257 ?_
    refine V.if_ne (tgt := 267) F dX10_tells_260 (by decide) (fun c9 => ?_) (fun c9 => ?_)
    · have h := f_out h c9
      refine V.iconst (v := 0) F dX10_tells_267 (by decide) ?_
      refine V.msk (L' := [some (rf φ 0 0), some (.int x1), none, none, some (.int x4), some (.int x5), some (.int x6), some (.int x7), none, some (.int x9)]) [true, true, false, false, true, true, true, true, false, true] rfl ?_
      exact M_tells_268_ok F hd hk236 h
    · have h := t_out h c9
      refine V.iconst (v := 1) F dX10_tells_263 (by decide) ?_
      refine V.goto (tgt := 268) F dX10_tells_264 (by decide) ?_
      refine V.msk (L' := [some (rf φ 0 0), some (.int x1), none, none, some (.int x4), some (.int x5), some (.int x6), some (.int x7), none, some (.int x9)]) [true, true, false, false, true, true, true, true, false, true] rfl ?_
      exact M_tells_268_ok F hd hk236 h
def M_tells_236L : Nat → Int32 → Int32 → Int32 → Int32 → Int32 → Int32 → Int32 → Mem → Option (Int32 × Mem)
  | 0 => fun _ _ _ _ _ _ _ _ => none
  | n + 1 => M_tells_236 (M_tells_236L n)
set_option maxHeartbeats 4000000 in
set_option maxRecDepth 100000 in
theorem M_tells_236L_ok {φ : Fr} {d : Nat} (F : Fx φ ΩB cX10_tells RX10 10 (some .int)) (hd : 111 ≤ d) : ∀ (n : Nat) (x1 : Int32) (x4 : Int32) (x5 : Int32) (x6 : Int32) (x7 : Int32) (x8 : Int32) (x9 : Int32) (μ : Mem) (r : Int32) (μ' : Mem), M_tells_236L n x1 x4 x5 x6 x7 x8 x9 μ = some (r, μ') → V φ ΩB 10 d 236 [some (rf φ 0 0), some (.int x1), none, none, some (.int x4), some (.int x5), some (.int x6), some (.int x7), some (.int x8), some (.int x9)] [] μ (some (.int r), μ') := by
  intro n
  induction n with
  | zero => intro x1 x4 x5 x6 x7 x8 x9 μ r μ' h; cases h
  | succ n ih => intro x1 x4 x5 x6 x7 x8 x9 μ r μ' h; exact M_tells_236_ok F hd ih h
def M_tells_228 (x1 : Int32) (x4 : Int32) (x5 : Int32) (x6 : Int32) (y0 : Int32) (μ : Mem) : Option (Int32 × Mem) :=
  M_tells_236L 1000 x1 x4 x5 x6 y0 0 0 μ
set_option maxHeartbeats 4000000 in
set_option maxRecDepth 100000 in
theorem M_tells_228_ok {φ : Fr} {d : Nat} (F : Fx φ ΩB cX10_tells RX10 10 (some .int)) (hd : 111 ≤ d) {x1 : Int32} {x4 : Int32} {x5 : Int32} {x6 : Int32} {y0 : Int32} {μ : Mem} {r : Int32} {μ' : Mem} (h : M_tells_228 x1 x4 x5 x6 y0 μ = some (r, μ')) : V φ ΩB 10 d 228 [some (rf φ 0 0), some (.int x1), none, none, some (.int x4), some (.int x5), some (.int x6), none, none, none] [.int y0] μ (some (.int r), μ') := by
  unfold M_tells_228 at h
  refine V.istore (L' := [some (rf φ 0 0), some (.int x1), none, none, some (.int x4), some (.int x5), some (.int x6), some (.int y0), none, none]) F dX10_tells_228 (by decide) rfl rfl rfl ?_
  refine V.iconst (v := 0) F dX10_tells_230 (by decide) ?_
  refine V.istore (L' := [some (rf φ 0 0), some (.int x1), none, none, some (.int x4), some (.int x5), some (.int x6), some (.int y0), some (.int 0), none]) F dX10_tells_231 (by decide) rfl rfl rfl ?_
  refine V.iconst (v := 0) F dX10_tells_233 (by decide) ?_
  refine V.istore (L' := [some (rf φ 0 0), some (.int x1), none, none, some (.int x4), some (.int x5), some (.int x6), some (.int y0), some (.int 0), some (.int 0)]) F dX10_tells_234 (by decide) rfl rfl rfl ?_
  exact M_tells_236L_ok F hd 1000 _ _ _ _ _ _ _ _ _ _ h
def M_tells_195 (x1 : Int32) (x4 : Int32) (x5 : Int32) (y0 : Int32) (μ : Mem) : Option (Int32 × Mem) :=
  if x5 = 6 then (
    M_tells_228 x1 x4 x5 y0 ((rd μ 0 0 3) - 1) μ)
  else (
    if x5 = 5 then (
      M_tells_228 x1 x4 x5 y0 5 μ)
    else (
      nm (M_mostOf x5) fun r4 =>
      M_tells_228 x1 x4 x5 y0 r4 μ))
set_option maxHeartbeats 4000000 in
set_option maxRecDepth 100000 in
theorem M_tells_195_ok {φ : Fr} {d : Nat} (F : Fx φ ΩB cX10_tells RX10 10 (some .int)) (hd : 111 ≤ d) {x1 : Int32} {x4 : Int32} {x5 : Int32} {y0 : Int32} {μ : Mem} {r : Int32} {μ' : Mem} (h : M_tells_195 x1 x4 x5 y0 μ = some (r, μ')) : V φ ΩB 10 d 195 [some (rf φ 0 0), some (.int x1), none, none, some (.int x4), some (.int x5), none, none, none, none] [.int y0] μ (some (.int r), μ') := by
  unfold M_tells_195 at h
  refine V.istore (L' := [some (rf φ 0 0), some (.int x1), none, none, some (.int x4), some (.int x5), some (.int y0), none, none, none]) F dX10_tells_195 (by decide) rfl rfl rfl ?_
  refine V.iload F dX10_tells_197 rfl ?_
  refine V.bipush (v := 6) F dX10_tells_199 (by decide) ?_
  refine V.icmp_ne (tgt := 213) F dX10_tells_201 (by decide) (fun c1 => ?_) (fun c1 => ?_)
  · have h := f_out h c1
    refine V.iload F dX10_tells_213 rfl ?_
    refine V.iconst (v := 5) F dX10_tells_215 (by decide) ?_
    refine V.icmp_ne (tgt := 223) F dX10_tells_216 (by decide) (fun c2 => ?_) (fun c2 => ?_)
    · have h := f_out h c2
      refine V.iload F dX10_tells_223 rfl ?_
      obtain ⟨r4, e3, h⟩ := nm_out h
      refine V.callSi (As := [.int x5]) F ck_RX10_89 (M_mostOf_ct e3) (by omega) (by decide) rfl rfl (Nat.le_of_ble_eq_true rfl) dX10_tells_225 ?_
      exact M_tells_228_ok F hd h
    · have h := t_out h c2
      refine V.iconst (v := 5) F dX10_tells_219 (by decide) ?_
      refine V.goto (tgt := 228) F dX10_tells_220 (by decide) ?_
      exact M_tells_228_ok F hd h
  · have h := t_out h c1
    refine V.rload_n F dX10_tells_204 rfl rfl ?_
    refine gf_RX10_73 F dX10_tells_205 ?_
    refine V.iconst (v := 1) F dX10_tells_208 (by decide) ?_
    refine V.isub F dX10_tells_209 ?_
    refine V.goto (tgt := 228) F dX10_tells_210 (by decide) ?_
    exact M_tells_228_ok F hd h
def M_tells_171 (x1 : Int32) (x4 : Int32) (y0 : Int32) (μ : Mem) : Option (Int32 × Mem) :=
  if y0 = 6 then (
    M_tells_195 x1 x4 y0 (rd μ 0 0 4) μ)
  else (
    bnd2 (M_told x4 y0 μ) fun r3 μ4 =>
    M_tells_195 x1 x4 y0 r3 μ4)
set_option maxHeartbeats 4000000 in
set_option maxRecDepth 100000 in
theorem M_tells_171_ok {φ : Fr} {d : Nat} (F : Fx φ ΩB cX10_tells RX10 10 (some .int)) (hd : 111 ≤ d) {x1 : Int32} {x4 : Int32} {y0 : Int32} {μ : Mem} {r : Int32} {μ' : Mem} (h : M_tells_171 x1 x4 y0 μ = some (r, μ')) : V φ ΩB 10 d 171 [some (rf φ 0 0), some (.int x1), none, none, some (.int x4), none, none, none, none, none] [.int y0] μ (some (.int r), μ') := by
  unfold M_tells_171 at h
  refine V.istore (L' := [some (rf φ 0 0), some (.int x1), none, none, some (.int x4), some (.int y0), none, none, none, none]) F dX10_tells_171 (by decide) rfl rfl rfl ?_
  refine V.iload F dX10_tells_173 rfl ?_
  refine V.bipush (v := 6) F dX10_tells_175 (by decide) ?_
  refine V.icmp_ne (tgt := 187) F dX10_tells_177 (by decide) (fun c1 => ?_) (fun c1 => ?_)
  · have h := f_out h c1
    refine V.rload_n F dX10_tells_187 rfl rfl ?_
    refine V.iload F dX10_tells_188 rfl ?_
    refine V.iload F dX10_tells_190 rfl ?_
    obtain ⟨r3, μ4, e2, h⟩ := bnd2_out h
    refine V.callVi (f := 0) (i := 0) (As := [.int x4, .int y0]) F ck_RX10_93 (M_told_ct e2) (by omega) (by decide) rfl mB0 rfl rfl rfl (Nat.le_of_ble_eq_true rfl) dX10_tells_192 ?_
    exact M_tells_195_ok F hd h
  · have h := t_out h c1
    refine V.rload_n F dX10_tells_180 rfl rfl ?_
    refine gf_RX10_104 F dX10_tells_181 ?_
    refine V.goto (tgt := 195) F dX10_tells_184 (by decide) ?_
    exact M_tells_195_ok F hd h
def M_tells_57 (x1 : Int32) (x2 : Int32) (μ : Mem) : Option (Int32 × Mem) :=
  chk (inb x1 4) <|
  if (rd μ 13 0 (ix x1)) = 0 then (
    some ((-11), μ))
  else (
    chk (inb x1 4) <|
    if (rd μ 15 0 (ix x1)) = (rd μ 0 0 12) then (
      if x2 = 0 then (
        bnd2 (M_unlike x1 μ) fun r18 μ19 =>
        some (r18, μ19))
      else (
        if x2 < 4 then (
          bnd (M_looksAll x1 μ) fun μ12 =>
          if x2 = 1 then (
            some (rd μ12 0 0 35, μ12))
          else (
            if x2 = 2 then (
              some (rd μ12 0 0 36, μ12))
            else (
              bnd (M_sure μ12) fun r16 =>
              some (r16, μ12))))
        else (
          nm (irm x2 10) fun a7 =>
          if x2 = 4 then (
            M_tells_171 x1 a7 6 μ)
          else (
            if x2 < 20 then (
              M_tells_171 x1 a7 5 μ)
            else (
              if x2 < 30 then (
                M_tells_171 x1 a7 2 μ)
              else (
                M_tells_171 x1 a7 3 μ))))))
    else (
      some ((-2), μ)))
set_option maxHeartbeats 4000000 in
set_option maxRecDepth 100000 in
theorem M_tells_57_ok {φ : Fr} {d : Nat} (F : Fx φ ΩB cX10_tells RX10 10 (some .int)) (hd : 111 ≤ d) {x1 : Int32} {x2 : Int32} {μ : Mem} {r : Int32} {μ' : Mem} (h : M_tells_57 x1 x2 μ = some (r, μ')) : V φ ΩB 10 d 57 [some (rf φ 0 0), some (.int x1), some (.int x2), none, none, none, none, none, none, none] [] μ (some (.int r), μ') := by
  unfold M_tells_57 at h
  refine V.rload_n F dX10_tells_57 rfl rfl ?_
  refine gf_RX10_56 F dX10_tells_58 ?_
  refine V.iload_n F dX10_tells_61 rfl rfl ?_
  obtain ⟨c1, h⟩ := chk_out h
  refine V.zald (t0 := 1) (n := 4) F mB13 rfl rfl c1 dX10_tells_62 ?_
  refine V.if_ne (tgt := 69) F dX10_tells_63 (by decide) (fun c2 => ?_) (fun c2 => ?_)
  · have h := f_out h c2
    refine V.rload_n F dX10_tells_69 rfl rfl ?_
    refine gf_RX10_63 F dX10_tells_70 ?_
    refine V.iload_n F dX10_tells_73 rfl rfl ?_
    obtain ⟨c3, h⟩ := chk_out h
    refine V.iald (t0 := 0) (n := 4) F mB15 rfl rfl c3 dX10_tells_74 ?_
    refine V.rload_n F dX10_tells_75 rfl rfl ?_
    refine gf_RX10_76 F dX10_tells_76 ?_
    refine V.icmp_eq (tgt := 85) F dX10_tells_79 (by decide) (fun c4 => ?_) (fun c4 => ?_)
    · have h := t_out h c4
      refine V.iload_n F dX10_tells_85 rfl rfl ?_
      refine V.if_ne (tgt := 95) F dX10_tells_86 (by decide) (fun c5 => ?_) (fun c5 => ?_)
      · have h := f_out h c5
        refine V.iload_n F dX10_tells_95 rfl rfl ?_
        refine V.iconst (v := 4) F dX10_tells_96 (by decide) ?_
        refine V.icmp_ge (tgt := 134) F dX10_tells_97 (by decide) (fun c6 => ?_) (fun c6 => ?_)
        · have h := f_out h c6
          refine V.iload_n F dX10_tells_134 rfl rfl ?_
          refine V.bipush (v := 10) F dX10_tells_135 (by decide) ?_
          refine V.irem F dX10_tells_137 (by decide) ?_
          obtain ⟨a7, ea7, h⟩ := nm_out h
          refine V.istore (L' := [some (rf φ 0 0), some (.int x1), some (.int x2), none, some (.int a7), none, none, none, none, none]) F dX10_tells_138 (by decide) rfl ea7 rfl ?_
          refine V.iload_n F dX10_tells_140 rfl rfl ?_
          refine V.iconst (v := 4) F dX10_tells_141 (by decide) ?_
          refine V.icmp_ne (tgt := 150) F dX10_tells_142 (by decide) (fun c8 => ?_) (fun c8 => ?_)
          · have h := f_out h c8
            refine V.iload_n F dX10_tells_150 rfl rfl ?_
            refine V.bipush (v := 20) F dX10_tells_151 (by decide) ?_
            refine V.icmp_ge (tgt := 160) F dX10_tells_153 (by decide) (fun c9 => ?_) (fun c9 => ?_)
            · have h := f_out h c9
              refine V.iload_n F dX10_tells_160 rfl rfl ?_
              refine V.bipush (v := 30) F dX10_tells_161 (by decide) ?_
              refine V.icmp_ge (tgt := 170) F dX10_tells_163 (by decide) (fun c10 => ?_) (fun c10 => ?_)
              · have h := f_out h c10
                refine V.iconst (v := 3) F dX10_tells_170 (by decide) ?_
                refine V.msk (L' := [some (rf φ 0 0), some (.int x1), none, none, some (.int a7), none, none, none, none, none]) [true, true, false, false, true, false, false, false, false, false] rfl ?_
                exact M_tells_171_ok F hd h
              · have h := t_out h c10
                refine V.iconst (v := 2) F dX10_tells_166 (by decide) ?_
                refine V.goto (tgt := 171) F dX10_tells_167 (by decide) ?_
                refine V.msk (L' := [some (rf φ 0 0), some (.int x1), none, none, some (.int a7), none, none, none, none, none]) [true, true, false, false, true, false, false, false, false, false] rfl ?_
                exact M_tells_171_ok F hd h
            · have h := t_out h c9
              refine V.iconst (v := 5) F dX10_tells_156 (by decide) ?_
              refine V.goto (tgt := 171) F dX10_tells_157 (by decide) ?_
              refine V.msk (L' := [some (rf φ 0 0), some (.int x1), none, none, some (.int a7), none, none, none, none, none]) [true, true, false, false, true, false, false, false, false, false] rfl ?_
              exact M_tells_171_ok F hd h
          · have h := t_out h c8
            refine V.bipush (v := 6) F dX10_tells_145 (by decide) ?_
            refine V.goto (tgt := 171) F dX10_tells_147 (by decide) ?_
            refine V.msk (L' := [some (rf φ 0 0), some (.int x1), none, none, some (.int a7), none, none, none, none, none]) [true, true, false, false, true, false, false, false, false, false] rfl ?_
            exact M_tells_171_ok F hd h
        · have h := t_out h c6
          refine V.rload_n F dX10_tells_100 rfl rfl ?_
          refine V.iload_n F dX10_tells_101 rfl rfl ?_
          obtain ⟨μ12, e11, h⟩ := bnd_out h
          refine V.callVv (f := 0) (i := 0) (As := [.int x1]) F ck_RX10_329 (M_looksAll_ct e11) (by omega) (by decide) rfl mB0 rfl rfl rfl (Nat.le_of_ble_eq_true rfl) dX10_tells_102 ?_
          refine V.iload_n F dX10_tells_105 rfl rfl ?_
          refine V.iconst (v := 1) F dX10_tells_106 (by decide) ?_
          refine V.icmp_ne (tgt := 117) F dX10_tells_107 (by decide) (fun c13 => ?_) (fun c13 => ?_)
          · have h := f_out h c13
            refine V.iload_n F dX10_tells_117 rfl rfl ?_
            refine V.iconst (v := 2) F dX10_tells_118 (by decide) ?_
            refine V.icmp_ne (tgt := 129) F dX10_tells_119 (by decide) (fun c14 => ?_) (fun c14 => ?_)
            · have h := f_out h c14
              refine V.rload_n F dX10_tells_129 rfl rfl ?_
              obtain ⟨r16, e15, h⟩ := bnd_out h
              refine V.callVi (f := 0) (i := 0) (As := []) F ck_RX10_332 (M_sure_ct e15) (by omega) (by decide) rfl mB0 rfl rfl rfl (Nat.le_of_ble_eq_true rfl) dX10_tells_130 ?_
              obtain ⟨rfl, rfl⟩ := r2_out h
              exact V.iret F dX10_tells_133
            · have h := t_out h c14
              refine V.rload_n F dX10_tells_122 rfl rfl ?_
              refine gf_RX10_315 F dX10_tells_123 ?_
              refine V.goto (tgt := 133) F dX10_tells_126 (by decide) ?_
              obtain ⟨rfl, rfl⟩ := r2_out h
              exact V.iret F dX10_tells_133
          · have h := t_out h c13
            refine V.rload_n F dX10_tells_110 rfl rfl ?_
            refine gf_RX10_312 F dX10_tells_111 ?_
            refine V.goto (tgt := 133) F dX10_tells_114 (by decide) ?_
            obtain ⟨rfl, rfl⟩ := r2_out h
            exact V.iret F dX10_tells_133
      · have h := t_out h c5
        refine V.rload_n F dX10_tells_89 rfl rfl ?_
        refine V.iload_n F dX10_tells_90 rfl rfl ?_
        obtain ⟨r18, μ19, e17, h⟩ := bnd2_out h
        refine V.callVi (f := 0) (i := 0) (As := [.int x1]) F ck_RX10_326 (M_unlike_ct e17) (by omega) (by decide) rfl mB0 rfl rfl rfl (Nat.le_of_ble_eq_true rfl) dX10_tells_91 ?_
        obtain ⟨rfl, rfl⟩ := r2_out h
        exact V.iret F dX10_tells_94
    · have h := f_out h c4
      refine V.bipush (v := (-2)) F dX10_tells_82 (by decide) ?_
      obtain ⟨rfl, rfl⟩ := r2_out h
      exact V.iret F dX10_tells_84
  · have h := t_out h c2
    refine V.bipush (v := (-11)) F dX10_tells_66 (by decide) ?_
    obtain ⟨rfl, rfl⟩ := r2_out h
    exact V.iret F dX10_tells_68
def M_tells_30 (x1 : Int32) (x2 : Int32) (y0 : Int32) (μ : Mem) : Option (Int32 × Mem) :=
  bnd (M_isSheet x1) fun r2 =>
  if r2 = 0 then (
    some ((-2), μ))
  else (
    nm (M_in (Int32.toInt64 x2) 0 4) fun r5 =>
    if r5 = 0 then (
      if y0 = 0 then (
        some ((-2), μ))
      else (
        M_tells_57 x1 x2 μ))
    else (
      M_tells_57 x1 x2 μ))
set_option maxHeartbeats 4000000 in
set_option maxRecDepth 100000 in
theorem M_tells_30_ok {φ : Fr} {d : Nat} (F : Fx φ ΩB cX10_tells RX10 10 (some .int)) (hd : 111 ≤ d) {x1 : Int32} {x2 : Int32} {y0 : Int32} {μ : Mem} {r : Int32} {μ' : Mem} (h : M_tells_30 x1 x2 y0 μ = some (r, μ')) : V φ ΩB 10 d 30 [some (rf φ 0 0), some (.int x1), some (.int x2), none, none, none, none, none, none, none] [.int y0] μ (some (.int r), μ') := by
  unfold M_tells_30 at h
  refine V.istore_n (L' := [some (rf φ 0 0), some (.int x1), some (.int x2), some (.int y0), none, none, none, none, none, none]) F dX10_tells_30 rfl (by decide) rfl rfl rfl ?_
  refine V.iload_n F dX10_tells_31 rfl rfl ?_
  obtain ⟨r2, e1, h⟩ := bnd_out h
  refine V.callSi (As := [.int x1]) F ck_RX10_323 (M_isSheet_ct e1) (by omega) (by decide) rfl rfl (Nat.le_of_ble_eq_true rfl) dX10_tells_32 ?_
  refine V.if_eq (tgt := 54) F dX10_tells_35 (by decide) (fun c3 => ?_) (fun c3 => ?_)
  · have h := t_out h c3
    refine V.bipush (v := (-2)) F dX10_tells_54 (by decide) ?_
    obtain ⟨rfl, rfl⟩ := r2_out h
    exact V.iret F dX10_tells_56
  · have h := f_out h c3
    refine V.iload_n F dX10_tells_38 rfl rfl ?_
    refine V.i2l F dX10_tells_39 ?_
    refine V.lconst (v := 0) F dX10_tells_40 (by decide) ?_
    refine V.ldc2 F kl_RX10_83 dX10_tells_41 ?_
    obtain ⟨r5, e4, h⟩ := nm_out h
    refine V.callSi (As := [.long (Int32.toInt64 x2), .long 0, .long 4]) F ck_RX10_79 (M_in_ct e4) (by omega) (by decide) rfl rfl (Nat.le_of_ble_eq_true rfl) dX10_tells_44 ?_
    refine V.if_ne (tgt := 57) F dX10_tells_47 (by decide) (fun c6 => ?_) (fun c6 => ?_)
    · have h := f_out h c6
      refine V.msk (L' := [some (rf φ 0 0), some (.int x1), some (.int x2), none, none, none, none, none, none, none]) [true, true, true, false, false, false, false, false, false, false] rfl ?_
      exact M_tells_57_ok F hd h
    · have h := t_out h c6
      refine V.iload_n F dX10_tells_50 rfl rfl ?_
      refine V.if_ne (tgt := 57) F dX10_tells_51 (by decide) (fun c7 => ?_) (fun c7 => ?_)
      · have h := f_out h c7
        refine V.msk (L' := [some (rf φ 0 0), some (.int x1), some (.int x2), none, none, none, none, none, none, none]) [true, true, true, false, false, false, false, false, false, false] rfl ?_
        exact M_tells_57_ok F hd h
      · have h := t_out h c7
        refine V.bipush (v := (-2)) F dX10_tells_54 (by decide) ?_
        obtain ⟨rfl, rfl⟩ := r2_out h
        exact V.iret F dX10_tells_56
def M_tells (x1 : Int32) (x2 : Int32) (μ : Mem) : Option (Int32 × Mem) :=
  nm (M_in (Int32.toInt64 x2) 10 39) fun r2 =>
  if r2 = 0 then (
    M_tells_30 x1 x2 0 μ)
  else (
    bnd (M_isOne (irm x2 10) μ) fun r5 =>
    if r5 = 0 then (
      M_tells_30 x1 x2 0 μ)
    else (
      M_tells_30 x1 x2 1 μ))
set_option maxHeartbeats 4000000 in
set_option maxRecDepth 100000 in
theorem M_tells_ok {φ : Fr} {d : Nat} (F : Fx φ ΩB cX10_tells RX10 10 (some .int)) (hd : 111 ≤ d) {x1 : Int32} {x2 : Int32} {μ : Mem} {r : Int32} {μ' : Mem} (h : M_tells x1 x2 μ = some (r, μ')) : V φ ΩB 10 d 0 [some (rf φ 0 0), some (.int x1), some (.int x2), none, none, none, none, none, none, none] [] μ (some (.int r), μ') := by
  unfold M_tells at h
  refine V.iload_n F dX10_tells_0 rfl rfl ?_
  refine V.i2l F dX10_tells_1 ?_
  refine V.ldc2 F kl_RX10_117 dX10_tells_2 ?_
  refine V.ldc2 F kl_RX10_321 dX10_tells_5 ?_
  obtain ⟨r2, e1, h⟩ := nm_out h
  refine V.callSi (As := [.long (Int32.toInt64 x2), .long 10, .long 39]) F ck_RX10_79 (M_in_ct e1) (by omega) (by decide) rfl rfl (Nat.le_of_ble_eq_true rfl) dX10_tells_8 ?_
  refine V.if_eq (tgt := 29) F dX10_tells_11 (by decide) (fun c3 => ?_) (fun c3 => ?_)
  · have h := t_out h c3
    refine V.iconst (v := 0) F dX10_tells_29 (by decide) ?_
    exact M_tells_30_ok F hd h
  · have h := f_out h c3
    refine V.rload_n F dX10_tells_14 rfl rfl ?_
    refine V.iload_n F dX10_tells_15 rfl rfl ?_
    refine V.bipush (v := 10) F dX10_tells_16 (by decide) ?_
    refine V.irem F dX10_tells_18 (by decide) ?_
    obtain ⟨r5, e4, h⟩ := bnd_out h
    refine V.callVi (f := 0) (i := 0) (As := [.int (irm x2 10)]) F ck_RX10_85 (M_isOne_ct e4) (by omega) (by decide) rfl mB0 rfl rfl rfl (Nat.le_of_ble_eq_true rfl) dX10_tells_19 ?_
    refine V.if_eq (tgt := 29) F dX10_tells_22 (by decide) (fun c6 => ?_) (fun c6 => ?_)
    · have h := t_out h c6
      refine V.iconst (v := 0) F dX10_tells_29 (by decide) ?_
      exact M_tells_30_ok F hd h
    · have h := f_out h c6
      refine V.iconst (v := 1) F dX10_tells_25 (by decide) ?_
      refine V.goto (tgt := 30) F dX10_tells_26 (by decide) ?_
      exact M_tells_30_ok F hd h
set_option maxHeartbeats 4000000 in
set_option maxRecDepth 100000 in
theorem M_tells_ct {l : Launch} {G : Glo} {x1 : Int32} {x2 : Int32} {μ : Mem} {r : Int32} {μ' : Mem} (h : M_tells x1 x2 μ = some (r, μ')) : Ct l ΩB G 111 yX10_tells cX10_tells 10 (some .int) [.ref (G.1 0 0), .int x1, .int x2] μ (some (.int r), μ') := by
  refine Ct.intro (by decide) (Nat.le_of_ble_eq_true rfl) ?_
  intro φ hl hG F
  subst hl; subst hG
  exact M_tells_ok F (Nat.le_refl _) h
def M_sheet_77 (k77 : Int32 → Int32 → Int32 → Int32 → Mem → Option (Int32 × Mem)) (x1 : Int32) (x2 : Int32) (x3 : Int32) (x4 : Int32) (μ : Mem) : Option (Int32 × Mem) :=
  if x4 < x3 then (
    if x2 < 0 then (
      some (1, μ))
    else (
      chk (inb ((40 * x1) + x4) 160) <|
      nm (up μ 16 0 (ix ((40 * x1) + x4)) 0) fun μ4 =>
      nm (x4 + 1) fun a5 =>
      k77 x1 x2 x3 a5 μ4))
  else (
    some (1, μ))
set_option maxHeartbeats 4000000 in
set_option maxRecDepth 100000 in
theorem M_sheet_77_ok {φ : Fr} {d : Nat} (F : Fx φ ΩB cX10_sheet RX10 5 (some .int)) (hd : 3 ≤ d) {k77 : Int32 → Int32 → Int32 → Int32 → Mem → Option (Int32 × Mem)} (hk77 : ∀ (x1 : Int32) (x2 : Int32) (x3 : Int32) (x4 : Int32) (μ : Mem) (r : Int32) (μ' : Mem), k77 x1 x2 x3 x4 μ = some (r, μ') → V φ ΩB 5 d 77 [some (rf φ 0 0), some (.int x1), some (.int x2), some (.int x3), some (.int x4)] [] μ (some (.int r), μ')) {x1 : Int32} {x2 : Int32} {x3 : Int32} {x4 : Int32} {μ : Mem} {r : Int32} {μ' : Mem} (h : M_sheet_77 k77 x1 x2 x3 x4 μ = some (r, μ')) : V φ ΩB 5 d 77 [some (rf φ 0 0), some (.int x1), some (.int x2), some (.int x3), some (.int x4)] [] μ (some (.int r), μ') := by
  unfold M_sheet_77 at h
  refine V.iload F dX10_sheet_77 rfl ?_
  refine V.iload_n F dX10_sheet_79 rfl rfl ?_
  refine V.icmp_ge (tgt := 106) F dX10_sheet_80 (by decide) (fun c1 => ?_) (fun c1 => ?_)
  · have h := f_out h c1
    refine V.iconst (v := 1) F dX10_sheet_106 (by decide) ?_
    obtain ⟨rfl, rfl⟩ := r2_out h
    exact V.iret F dX10_sheet_107
  · have h := t_out h c1
    refine V.iload_n F dX10_sheet_83 rfl rfl ?_
    refine V.if_lt (tgt := 106) F dX10_sheet_84 (by decide) (fun c2 => ?_) (fun c2 => ?_)
    · have h := t_out h c2
      refine V.iconst (v := 1) F dX10_sheet_106 (by decide) ?_
      obtain ⟨rfl, rfl⟩ := r2_out h
      exact V.iret F dX10_sheet_107
    · have h := f_out h c2
      refine V.rload_n F dX10_sheet_87 rfl rfl ?_
      refine gf_RX10_66 F dX10_sheet_88 ?_
      refine V.bipush (v := 40) F dX10_sheet_91 (by decide) ?_
      refine V.iload_n F dX10_sheet_93 rfl rfl ?_
      refine V.imul F dX10_sheet_94 ?_
      refine V.iload F dX10_sheet_95 rfl ?_
      refine V.iadd F dX10_sheet_97 ?_
      refine V.iconst (v := 0) F dX10_sheet_98 (by decide) ?_
      obtain ⟨c3, h⟩ := chk_out h
      obtain ⟨μ4, eμ4, h⟩ := nm_out h
      refine V.iast (t0 := 0) (n := 160) F mB16 (fun _ => rfl) rfl c3 eμ4 dX10_sheet_99 ?_
      obtain ⟨a5, ea5, h⟩ := nm_out h
      refine V.iinc (z := 1) (L' := [some (rf φ 0 0), some (.int x1), some (.int x2), some (.int x3), some (.int a5)]) F dX10_sheet_100 rfl (by decide) ea5 (by decide) rfl rfl ?_
      refine V.goto (tgt := 77) F dX10_sheet_103 (by decide) ?_
      exact hk77 _ _ _ _ _ _ _ h
def M_sheet_77L : Nat → Int32 → Int32 → Int32 → Int32 → Mem → Option (Int32 × Mem)
  | 0 => fun _ _ _ _ _ => none
  | n + 1 => M_sheet_77 (M_sheet_77L n)
set_option maxHeartbeats 4000000 in
set_option maxRecDepth 100000 in
theorem M_sheet_77L_ok {φ : Fr} {d : Nat} (F : Fx φ ΩB cX10_sheet RX10 5 (some .int)) (hd : 3 ≤ d) : ∀ (n : Nat) (x1 : Int32) (x2 : Int32) (x3 : Int32) (x4 : Int32) (μ : Mem) (r : Int32) (μ' : Mem), M_sheet_77L n x1 x2 x3 x4 μ = some (r, μ') → V φ ΩB 5 d 77 [some (rf φ 0 0), some (.int x1), some (.int x2), some (.int x3), some (.int x4)] [] μ (some (.int r), μ') := by
  intro n
  induction n with
  | zero => intro x1 x2 x3 x4 μ r μ' h; cases h
  | succ n ih => intro x1 x2 x3 x4 μ r μ' h; exact M_sheet_77_ok F hd ih h
def M_sheet_59 (x1 : Int32) (x2 : Int32) (x3 : Int32) (y1 : Int32) (y2 : Int32) (μ : Mem) : Option (Int32 × Mem) :=
  chk (inb y1 4) <|
  nm (up μ 13 0 (ix y1) (vp_nar .boolean y2)) fun μ2 =>
  chk (inb x1 4) <|
  nm (up μ2 14 0 (ix x1) x2) fun μ4 =>
  chk (inb x1 4) <|
  nm (up μ4 15 0 (ix x1) x3) fun μ6 =>
  M_sheet_77L 1000 x1 x2 x3 0 μ6
set_option maxHeartbeats 4000000 in
set_option maxRecDepth 100000 in
theorem M_sheet_59_ok {φ : Fr} {d : Nat} (F : Fx φ ΩB cX10_sheet RX10 5 (some .int)) (hd : 3 ≤ d) {x1 : Int32} {x2 : Int32} {x3 : Int32} {y1 : Int32} {y2 : Int32} {μ : Mem} {r : Int32} {μ' : Mem} (h : M_sheet_59 x1 x2 x3 y1 y2 μ = some (r, μ')) : V φ ΩB 5 d 59 [some (rf φ 0 0), some (.int x1), some (.int x2), some (.int x3), none] [.int y2, .int y1, rf φ 13 0] μ (some (.int r), μ') := by
  unfold M_sheet_59 at h
  obtain ⟨c1, h⟩ := chk_out h
  obtain ⟨μ2, eμ2, h⟩ := nm_out h
  refine V.zast (t0 := 1) (n := 4) F mB13 (fun _ => rfl) rfl c1 eμ2 dX10_sheet_59 ?_
  refine V.rload_n F dX10_sheet_60 rfl rfl ?_
  refine gf_RX10_60 F dX10_sheet_61 ?_
  refine V.iload_n F dX10_sheet_64 rfl rfl ?_
  refine V.iload_n F dX10_sheet_65 rfl rfl ?_
  obtain ⟨c3, h⟩ := chk_out h
  obtain ⟨μ4, eμ4, h⟩ := nm_out h
  refine V.iast (t0 := 0) (n := 4) F mB14 (fun _ => rfl) rfl c3 eμ4 dX10_sheet_66 ?_
  refine V.rload_n F dX10_sheet_67 rfl rfl ?_
  refine gf_RX10_63 F dX10_sheet_68 ?_
  refine V.iload_n F dX10_sheet_71 rfl rfl ?_
  refine V.iload_n F dX10_sheet_72 rfl rfl ?_
  obtain ⟨c5, h⟩ := chk_out h
  obtain ⟨μ6, eμ6, h⟩ := nm_out h
  refine V.iast (t0 := 0) (n := 4) F mB15 (fun _ => rfl) rfl c5 eμ6 dX10_sheet_73 ?_
  refine V.iconst (v := 0) F dX10_sheet_74 (by decide) ?_
  refine V.istore (L' := [some (rf φ 0 0), some (.int x1), some (.int x2), some (.int x3), some (.int 0)]) F dX10_sheet_75 (by decide) rfl rfl rfl ?_
  exact M_sheet_77L_ok F hd 1000 _ _ _ _ _ _ _ h
def M_sheet_45 (x1 : Int32) (x2 : Int32) (x3 : Int32) (μ : Mem) : Option (Int32 × Mem) :=
  if x2 < 0 then (
    M_sheet_59 x1 x2 x3 x1 0 μ)
  else (
    M_sheet_59 x1 x2 x3 x1 1 μ)
set_option maxHeartbeats 4000000 in
set_option maxRecDepth 100000 in
theorem M_sheet_45_ok {φ : Fr} {d : Nat} (F : Fx φ ΩB cX10_sheet RX10 5 (some .int)) (hd : 3 ≤ d) {x1 : Int32} {x2 : Int32} {x3 : Int32} {μ : Mem} {r : Int32} {μ' : Mem} (h : M_sheet_45 x1 x2 x3 μ = some (r, μ')) : V φ ΩB 5 d 45 [some (rf φ 0 0), some (.int x1), some (.int x2), some (.int x3), none] [] μ (some (.int r), μ') := by
  unfold M_sheet_45 at h
  refine V.rload_n F dX10_sheet_45 rfl rfl ?_
  refine gf_RX10_56 F dX10_sheet_46 ?_
  refine V.iload_n F dX10_sheet_49 rfl rfl ?_
  refine V.iload_n F dX10_sheet_50 rfl rfl ?_
  refine V.if_lt (tgt := 58) F dX10_sheet_51 (by decide) (fun c1 => ?_) (fun c1 => ?_)
  · have h := t_out h c1
    refine V.iconst (v := 0) F dX10_sheet_58 (by decide) ?_
    exact M_sheet_59_ok F hd h
  · have h := f_out h c1
    refine V.iconst (v := 1) F dX10_sheet_54 (by decide) ?_
    refine V.goto (tgt := 59) F dX10_sheet_55 (by decide) ?_
    exact M_sheet_59_ok F hd h
def M_sheet_34 (x1 : Int32) (x2 : Int32) (x3 : Int32) (μ : Mem) : Option (Int32 × Mem) :=
  if x2 < 0 then (
    M_sheet_45 x1 x2 x3 μ)
  else (
    if x3 < 0 then (
      some ((-14), μ))
    else (
      M_sheet_45 x1 x2 x3 μ))
set_option maxHeartbeats 4000000 in
set_option maxRecDepth 100000 in
theorem M_sheet_34_ok {φ : Fr} {d : Nat} (F : Fx φ ΩB cX10_sheet RX10 5 (some .int)) (hd : 3 ≤ d) {x1 : Int32} {x2 : Int32} {x3 : Int32} {μ : Mem} {r : Int32} {μ' : Mem} (h : M_sheet_34 x1 x2 x3 μ = some (r, μ')) : V φ ΩB 5 d 34 [some (rf φ 0 0), some (.int x1), some (.int x2), some (.int x3), none] [] μ (some (.int r), μ') := by
  unfold M_sheet_34 at h
  refine V.iload_n F dX10_sheet_34 rfl rfl ?_
  refine V.if_lt (tgt := 45) F dX10_sheet_35 (by decide) (fun c1 => ?_) (fun c1 => ?_)
  · have h := t_out h c1
    exact M_sheet_45_ok F hd h
  · have h := f_out h c1
    refine V.iload_n F dX10_sheet_38 rfl rfl ?_
    refine V.if_ge (tgt := 45) F dX10_sheet_39 (by decide) (fun c2 => ?_) (fun c2 => ?_)
    · have h := f_out h c2
      exact M_sheet_45_ok F hd h
    · have h := t_out h c2
      refine V.bipush (v := (-14)) F dX10_sheet_42 (by decide) ?_
      obtain ⟨rfl, rfl⟩ := r2_out h
      exact V.iret F dX10_sheet_44
def M_sheet (x1 : Int32) (x2 : Int32) (x3 : Int32) (μ : Mem) : Option (Int32 × Mem) :=
  bnd (M_isSheet x1) fun r2 =>
  if r2 = 0 then (
    some ((-2), μ))
  else (
    nm (M_in (Int32.toInt64 x2) (-1) 2) fun r5 =>
    if r5 = 0 then (
      some ((-2), μ))
    else (
      if x2 < 0 then (
        M_sheet_34 x1 x2 x3 μ)
      else (
        if 40 < x3 then (
          some ((-2), μ))
        else (
          M_sheet_34 x1 x2 x3 μ))))
set_option maxHeartbeats 4000000 in
set_option maxRecDepth 100000 in
theorem M_sheet_ok {φ : Fr} {d : Nat} (F : Fx φ ΩB cX10_sheet RX10 5 (some .int)) (hd : 3 ≤ d) {x1 : Int32} {x2 : Int32} {x3 : Int32} {μ : Mem} {r : Int32} {μ' : Mem} (h : M_sheet x1 x2 x3 μ = some (r, μ')) : V φ ΩB 5 d 0 [some (rf φ 0 0), some (.int x1), some (.int x2), some (.int x3), none] [] μ (some (.int r), μ') := by
  unfold M_sheet at h
  refine V.iload_n F dX10_sheet_0 rfl rfl ?_
  obtain ⟨r2, e1, h⟩ := bnd_out h
  refine V.callSi (As := [.int x1]) F ck_RX10_323 (M_isSheet_ct e1) (by omega) (by decide) rfl rfl (Nat.le_of_ble_eq_true rfl) dX10_sheet_1 ?_
  refine V.if_eq (tgt := 31) F dX10_sheet_4 (by decide) (fun c3 => ?_) (fun c3 => ?_)
  · have h := t_out h c3
    refine V.bipush (v := (-2)) F dX10_sheet_31 (by decide) ?_
    obtain ⟨rfl, rfl⟩ := r2_out h
    exact V.iret F dX10_sheet_33
  · have h := f_out h c3
    refine V.iload_n F dX10_sheet_7 rfl rfl ?_
    refine V.i2l F dX10_sheet_8 ?_
    refine V.ldc2 F kl_RX10_361 dX10_sheet_9 ?_
    refine V.ldc2 F kl_RX10_363 dX10_sheet_12 ?_
    obtain ⟨r5, e4, h⟩ := nm_out h
    refine V.callSi (As := [.long (Int32.toInt64 x2), .long (-1), .long 2]) F ck_RX10_79 (M_in_ct e4) (by omega) (by decide) rfl rfl (Nat.le_of_ble_eq_true rfl) dX10_sheet_15 ?_
    refine V.if_eq (tgt := 31) F dX10_sheet_18 (by decide) (fun c6 => ?_) (fun c6 => ?_)
    · have h := t_out h c6
      refine V.bipush (v := (-2)) F dX10_sheet_31 (by decide) ?_
      obtain ⟨rfl, rfl⟩ := r2_out h
      exact V.iret F dX10_sheet_33
    · have h := f_out h c6
      refine V.iload_n F dX10_sheet_21 rfl rfl ?_
      refine V.if_lt (tgt := 34) F dX10_sheet_22 (by decide) (fun c7 => ?_) (fun c7 => ?_)
      · have h := t_out h c7
        exact M_sheet_34_ok F hd h
      · have h := f_out h c7
        refine V.iload_n F dX10_sheet_25 rfl rfl ?_
        refine V.bipush (v := 40) F dX10_sheet_26 (by decide) ?_
        refine V.icmp_le (tgt := 34) F dX10_sheet_28 (by decide) (fun c8 => ?_) (fun c8 => ?_)
        · have h := f_out h c8
          exact M_sheet_34_ok F hd h
        · have h := t_out h c8
          refine V.bipush (v := (-2)) F dX10_sheet_31 (by decide) ?_
          obtain ⟨rfl, rfl⟩ := r2_out h
          exact V.iret F dX10_sheet_33
set_option maxHeartbeats 4000000 in
set_option maxRecDepth 100000 in
theorem M_sheet_ct {l : Launch} {G : Glo} {x1 : Int32} {x2 : Int32} {x3 : Int32} {μ : Mem} {r : Int32} {μ' : Mem} (h : M_sheet x1 x2 x3 μ = some (r, μ')) : Ct l ΩB G 3 yX10_sheet cX10_sheet 5 (some .int) [.ref (G.1 0 0), .int x1, .int x2, .int x3] μ (some (.int r), μ') := by
  refine Ct.intro (by decide) (Nat.le_of_ble_eq_true rfl) ?_
  intro φ hl hG F
  subst hl; subst hG
  exact M_sheet_ok F (Nat.le_refl _) h
def M_film_23 (k23 : Int32 → Int32 → Mem → Option (Int32 × Mem)) (x1 : Int32) (x2 : Int32) (μ : Mem) : Option (Int32 × Mem) :=
  if x2 < (rd μ 0 0 12) then (
    chk (inb x2 6) <|
    bnd2 (M_feelsOf x2 (rd μ 6 0 (ix x2)) μ) fun r4 μ5 =>
    chk (inb ((40 * x1) + x2) 160) <|
    nm (up μ5 16 0 (ix ((40 * x1) + x2)) r4) fun μ7 =>
    nm (x2 + 1) fun a8 =>
    k23 x1 a8 μ7)
  else (
    some (rd μ 0 0 12, μ))
set_option maxHeartbeats 4000000 in
set_option maxRecDepth 100000 in
theorem M_film_23_ok {φ : Fr} {d : Nat} (F : Fx φ ΩB cX10_film RX10 3 (some .int)) (hd : 110 ≤ d) {k23 : Int32 → Int32 → Mem → Option (Int32 × Mem)} (hk23 : ∀ (x1 : Int32) (x2 : Int32) (μ : Mem) (r : Int32) (μ' : Mem), k23 x1 x2 μ = some (r, μ') → V φ ΩB 3 d 23 [some (rf φ 0 0), some (.int x1), some (.int x2)] [] μ (some (.int r), μ')) {x1 : Int32} {x2 : Int32} {μ : Mem} {r : Int32} {μ' : Mem} (h : M_film_23 k23 x1 x2 μ = some (r, μ')) : V φ ΩB 3 d 23 [some (rf φ 0 0), some (.int x1), some (.int x2)] [] μ (some (.int r), μ') := by
  unfold M_film_23 at h
  refine V.iload_n F dX10_film_23 rfl rfl ?_
  refine V.rload_n F dX10_film_24 rfl rfl ?_
  refine gf_RX10_76 F dX10_film_25 ?_
  refine V.icmp_ge (tgt := 59) F dX10_film_28 (by decide) (fun c1 => ?_) (fun c1 => ?_)
  · have h := f_out h c1
    refine V.rload_n F dX10_film_59 rfl rfl ?_
    refine gf_RX10_76 F dX10_film_60 ?_
    obtain ⟨rfl, rfl⟩ := r2_out h
    exact V.iret F dX10_film_63
  · have h := t_out h c1
    refine V.rload_n F dX10_film_31 rfl rfl ?_
    refine gf_RX10_66 F dX10_film_32 ?_
    refine V.bipush (v := 40) F dX10_film_35 (by decide) ?_
    refine V.iload_n F dX10_film_37 rfl rfl ?_
    refine V.imul F dX10_film_38 ?_
    refine V.iload_n F dX10_film_39 rfl rfl ?_
    refine V.iadd F dX10_film_40 ?_
    refine V.rload_n F dX10_film_41 rfl rfl ?_
    refine V.iload_n F dX10_film_42 rfl rfl ?_
    refine V.rload_n F dX10_film_43 rfl rfl ?_
    refine gf_RX10_32 F dX10_film_44 ?_
    refine V.iload_n F dX10_film_47 rfl rfl ?_
    obtain ⟨c2, h⟩ := chk_out h
    refine V.iald (t0 := 0) (n := 6) F mB6 rfl rfl c2 dX10_film_48 ?_
    obtain ⟨r4, μ5, e3, h⟩ := bnd2_out h
    refine V.callVi (f := 0) (i := 0) (As := [.int x2, .int (rd μ 6 0 (ix x2))]) F ck_RX10_129 (M_feelsOf_ct e3) (by omega) (by decide) rfl mB0 rfl rfl rfl (Nat.le_of_ble_eq_true rfl) dX10_film_49 ?_
    obtain ⟨c6, h⟩ := chk_out h
    obtain ⟨μ7, eμ7, h⟩ := nm_out h
    refine V.iast (t0 := 0) (n := 160) F mB16 (fun _ => rfl) rfl c6 eμ7 dX10_film_52 ?_
    obtain ⟨a8, ea8, h⟩ := nm_out h
    refine V.iinc (z := 1) (L' := [some (rf φ 0 0), some (.int x1), some (.int a8)]) F dX10_film_53 rfl (by decide) ea8 (by decide) rfl rfl ?_
    refine V.goto (tgt := 23) F dX10_film_56 (by decide) ?_
    exact hk23 _ _ _ _ _ h
def M_film_23L : Nat → Int32 → Int32 → Mem → Option (Int32 × Mem)
  | 0 => fun _ _ _ => none
  | n + 1 => M_film_23 (M_film_23L n)
set_option maxHeartbeats 4000000 in
set_option maxRecDepth 100000 in
theorem M_film_23L_ok {φ : Fr} {d : Nat} (F : Fx φ ΩB cX10_film RX10 3 (some .int)) (hd : 110 ≤ d) : ∀ (n : Nat) (x1 : Int32) (x2 : Int32) (μ : Mem) (r : Int32) (μ' : Mem), M_film_23L n x1 x2 μ = some (r, μ') → V φ ΩB 3 d 23 [some (rf φ 0 0), some (.int x1), some (.int x2)] [] μ (some (.int r), μ') := by
  intro n
  induction n with
  | zero => intro x1 x2 μ r μ' h; cases h
  | succ n ih => intro x1 x2 μ r μ' h; exact M_film_23_ok F hd ih h
def M_film (x1 : Int32) (μ : Mem) : Option (Int32 × Mem) :=
  bnd (M_isSheet x1) fun r2 =>
  if r2 = 0 then (
    some ((-2), μ))
  else (
    bnd2 (M_sheet x1 0 (rd μ 0 0 12) μ) fun r5 μ6 =>
    M_film_23L 1000 x1 0 μ6)
set_option maxHeartbeats 4000000 in
set_option maxRecDepth 100000 in
theorem M_film_ok {φ : Fr} {d : Nat} (F : Fx φ ΩB cX10_film RX10 3 (some .int)) (hd : 110 ≤ d) {x1 : Int32} {μ : Mem} {r : Int32} {μ' : Mem} (h : M_film x1 μ = some (r, μ')) : V φ ΩB 3 d 0 [some (rf φ 0 0), some (.int x1), none] [] μ (some (.int r), μ') := by
  unfold M_film at h
  refine V.iload_n F dX10_film_0 rfl rfl ?_
  obtain ⟨r2, e1, h⟩ := bnd_out h
  refine V.callSi (As := [.int x1]) F ck_RX10_323 (M_isSheet_ct e1) (by omega) (by decide) rfl rfl (Nat.le_of_ble_eq_true rfl) dX10_film_1 ?_
  refine V.if_ne (tgt := 10) F dX10_film_4 (by decide) (fun c3 => ?_) (fun c3 => ?_)
  · have h := f_out h c3
    refine V.rload_n F dX10_film_10 rfl rfl ?_
    refine V.iload_n F dX10_film_11 rfl rfl ?_
    refine V.iconst (v := 0) F dX10_film_12 (by decide) ?_
    refine V.rload_n F dX10_film_13 rfl rfl ?_
    refine gf_RX10_76 F dX10_film_14 ?_
    obtain ⟨r5, μ6, e4, h⟩ := bnd2_out h
    refine V.callVi (f := 0) (i := 0) (As := [.int x1, .int 0, .int (rd μ 0 0 12)]) F ck_RX10_335 (M_sheet_ct e4) (by omega) (by decide) rfl mB0 rfl rfl rfl (Nat.le_of_ble_eq_true rfl) dX10_film_17 ?_
    refine V.pop F dX10_film_20 rfl ?_
    refine V.iconst (v := 0) F dX10_film_21 (by decide) ?_
    refine V.istore_n (L' := [some (rf φ 0 0), some (.int x1), some (.int 0)]) F dX10_film_22 rfl (by decide) rfl rfl rfl ?_
    exact M_film_23L_ok F hd 1000 _ _ _ _ _ h
  · have h := t_out h c3
    refine V.bipush (v := (-2)) F dX10_film_7 (by decide) ?_
    obtain ⟨rfl, rfl⟩ := r2_out h
    exact V.iret F dX10_film_9
set_option maxHeartbeats 4000000 in
set_option maxRecDepth 100000 in
theorem M_film_ct {l : Launch} {G : Glo} {x1 : Int32} {μ : Mem} {r : Int32} {μ' : Mem} (h : M_film x1 μ = some (r, μ')) : Ct l ΩB G 110 yX10_film cX10_film 3 (some .int) [.ref (G.1 0 0), .int x1] μ (some (.int r), μ') := by
  refine Ct.intro (by decide) (Nat.le_of_ble_eq_true rfl) ?_
  intro φ hl hG F
  subst hl; subst hG
  exact M_film_ok F (Nat.le_refl _) h
def M_draws_4 (k4 : Int32 → Int32 → Mem → Option Mem) (x2 : Int32) (x3 : Int32) (μ : Mem) : Option Mem :=
  if x3 < (rd μ 0 0 12) then (
    bnd (M_thingOf x3 μ) fun r3 =>
    chk (inb x3 6) <|
    nm (up μ 10 0 (ix x3) r3) fun μ5 =>
    nm ((x2 * 1103515245) + 12345) fun a6 =>
    chk (inb ((3 * x3) + 1) 18) <|
    nm (up μ5 5 0 (ix ((3 * x3) + 1)) (irm (ush a6 9) 16)) fun μ8 =>
    nm (x3 + 1) fun a9 =>
    k4 a6 a9 μ8)
  else (
    some μ)
set_option maxHeartbeats 4000000 in
set_option maxRecDepth 100000 in
theorem M_draws_4_ok {φ : Fr} {d : Nat} (F : Fx φ ΩB cX10_draws RX10 4 (none)) (hd : 2 ≤ d) {k4 : Int32 → Int32 → Mem → Option Mem} (hk4 : ∀ (x2 : Int32) (x3 : Int32) (μ : Mem)  (μ' : Mem), k4 x2 x3 μ = some μ' → V φ ΩB 4 d 4 [some (rf φ 0 0), none, some (.int x2), some (.int x3)] [] μ (none, μ')) {x2 : Int32} {x3 : Int32} {μ : Mem}  {μ' : Mem} (h : M_draws_4 k4 x2 x3 μ = some μ') : V φ ΩB 4 d 4 [some (rf φ 0 0), none, some (.int x2), some (.int x3)] [] μ (none, μ') := by
  unfold M_draws_4 at h
  refine V.iload_n F dX10_draws_4 rfl rfl ?_
  refine V.rload_n F dX10_draws_5 rfl rfl ?_
  refine gf_RX10_76 F dX10_draws_6 ?_
  refine V.icmp_ge (tgt := 56) F dX10_draws_9 (by decide) (fun c1 => ?_) (fun c1 => ?_)
  · have h := f_out h c1
    obtain rfl := r1_out h
    exact V.vret F dX10_draws_56
  · have h := t_out h c1
    refine V.rload_n F dX10_draws_12 rfl rfl ?_
    refine gf_RX10_44 F dX10_draws_13 ?_
    refine V.iload_n F dX10_draws_16 rfl rfl ?_
    refine V.rload_n F dX10_draws_17 rfl rfl ?_
    refine V.iload_n F dX10_draws_18 rfl rfl ?_
    obtain ⟨r3, e2, h⟩ := bnd_out h
    refine V.callVi (f := 0) (i := 0) (As := [.int x3]) F ck_RX10_119 (M_thingOf_ct e2) (by omega) (by decide) rfl mB0 rfl rfl rfl (Nat.le_of_ble_eq_true rfl) dX10_draws_19 ?_
    obtain ⟨c4, h⟩ := chk_out h
    obtain ⟨μ5, eμ5, h⟩ := nm_out h
    refine V.iast (t0 := 0) (n := 6) F mB10 (fun _ => rfl) rfl c4 eμ5 dX10_draws_22 ?_
    refine V.iload_n F dX10_draws_23 rfl rfl ?_
    refine V.ldcw F kw_RX10_338 dX10_draws_24 ?_
    refine V.imul F dX10_draws_27 ?_
    refine V.sipush (v := 12345) F dX10_draws_28 (by decide) ?_
    refine V.iadd F dX10_draws_31 ?_
    obtain ⟨a6, ea6, h⟩ := nm_out h
    refine V.istore_n (L' := [some (rf φ 0 0), none, some (.int a6), some (.int x3)]) F dX10_draws_32 rfl (by decide) rfl ea6 rfl ?_
    refine V.rload_n F dX10_draws_33 rfl rfl ?_
    refine gf_RX10_29 F dX10_draws_34 ?_
    refine V.iconst (v := 3) F dX10_draws_37 (by decide) ?_
    refine V.iload_n F dX10_draws_38 rfl rfl ?_
    refine V.imul F dX10_draws_39 ?_
    refine V.iconst (v := 1) F dX10_draws_40 (by decide) ?_
    refine V.iadd F dX10_draws_41 ?_
    refine V.iload_n F dX10_draws_42 rfl rfl ?_
    refine V.bipush (v := 9) F dX10_draws_43 (by decide) ?_
    refine V.iushr F dX10_draws_45 ?_
    refine V.bipush (v := 16) F dX10_draws_46 (by decide) ?_
    refine V.irem F dX10_draws_48 (by decide) ?_
    obtain ⟨c7, h⟩ := chk_out h
    obtain ⟨μ8, eμ8, h⟩ := nm_out h
    refine V.iast (t0 := 0) (n := 18) F mB5 (fun _ => rfl) rfl c7 eμ8 dX10_draws_49 ?_
    obtain ⟨a9, ea9, h⟩ := nm_out h
    refine V.iinc (z := 1) (L' := [some (rf φ 0 0), none, some (.int a6), some (.int a9)]) F dX10_draws_50 rfl (by decide) ea9 (by decide) rfl rfl ?_
    refine V.goto (tgt := 4) F dX10_draws_53 (by decide) ?_
    exact hk4 _ _ _ _ h
def M_draws_4L : Nat → Int32 → Int32 → Mem → Option Mem
  | 0 => fun _ _ _ => none
  | n + 1 => M_draws_4 (M_draws_4L n)
set_option maxHeartbeats 4000000 in
set_option maxRecDepth 100000 in
theorem M_draws_4L_ok {φ : Fr} {d : Nat} (F : Fx φ ΩB cX10_draws RX10 4 (none)) (hd : 2 ≤ d) : ∀ (n : Nat) (x2 : Int32) (x3 : Int32) (μ : Mem)  (μ' : Mem), M_draws_4L n x2 x3 μ = some μ' → V φ ΩB 4 d 4 [some (rf φ 0 0), none, some (.int x2), some (.int x3)] [] μ (none, μ') := by
  intro n
  induction n with
  | zero => intro x2 x3 μ μ' h; cases h
  | succ n ih => intro x2 x3 μ μ' h; exact M_draws_4_ok F hd ih h
def M_draws (x1 : Int32) (μ : Mem) : Option Mem :=
  M_draws_4L 1000 x1 0 μ
set_option maxHeartbeats 4000000 in
set_option maxRecDepth 100000 in
theorem M_draws_ok {φ : Fr} {d : Nat} (F : Fx φ ΩB cX10_draws RX10 4 (none)) (hd : 2 ≤ d) {x1 : Int32} {μ : Mem}  {μ' : Mem} (h : M_draws x1 μ = some μ') : V φ ΩB 4 d 0 [some (rf φ 0 0), some (.int x1), none, none] [] μ (none, μ') := by
  unfold M_draws at h
  refine V.iload_n F dX10_draws_0 rfl rfl ?_
  refine V.istore_n (L' := [some (rf φ 0 0), some (.int x1), some (.int x1), none]) F dX10_draws_1 rfl (by decide) rfl rfl rfl ?_
  refine V.iconst (v := 0) F dX10_draws_2 (by decide) ?_
  refine V.istore_n (L' := [some (rf φ 0 0), some (.int x1), some (.int x1), some (.int 0)]) F dX10_draws_3 rfl (by decide) rfl rfl rfl ?_
  refine V.msk (L' := [some (rf φ 0 0), none, some (.int x1), some (.int 0)]) [true, false, true, true] rfl ?_
  exact M_draws_4L_ok F hd 1000 _ _ _ _ h
set_option maxHeartbeats 4000000 in
set_option maxRecDepth 100000 in
theorem M_draws_ct {l : Launch} {G : Glo} {x1 : Int32} {μ : Mem}  {μ' : Mem} (h : M_draws x1 μ = some μ') : Ct l ΩB G 2 yX10_draws cX10_draws 4 (none) [.ref (G.1 0 0), .int x1] μ (none, μ') := by
  refine Ct.intro (by decide) (Nat.le_of_ble_eq_true rfl) ?_
  intro φ hl hG F
  subst hl; subst hG
  exact M_draws_ok F (Nat.le_refl _) h
def M_laysBack_2 (k2 : Int32 → Mem → Option Mem) (x1 : Int32) (μ : Mem) : Option Mem :=
  if x1 < (rd μ 0 0 12) then (
    chk (inb x1 6) <|
    chk (inb ((3 * x1) + 1) 18) <|
    nm (up μ 5 0 (ix ((3 * x1) + 1)) (rd μ 10 0 (ix x1))) fun μ4 =>
    nm (x1 + 1) fun a5 =>
    k2 a5 μ4)
  else (
    some μ)
set_option maxHeartbeats 4000000 in
set_option maxRecDepth 100000 in
theorem M_laysBack_2_ok {φ : Fr} {d : Nat} (F : Fx φ ΩB cX10_laysBack RX10 2 (none)) (hd : 1 ≤ d) {k2 : Int32 → Mem → Option Mem} (hk2 : ∀ (x1 : Int32) (μ : Mem)  (μ' : Mem), k2 x1 μ = some μ' → V φ ΩB 2 d 2 [some (rf φ 0 0), some (.int x1)] [] μ (none, μ')) {x1 : Int32} {μ : Mem}  {μ' : Mem} (h : M_laysBack_2 k2 x1 μ = some μ') : V φ ΩB 2 d 2 [some (rf φ 0 0), some (.int x1)] [] μ (none, μ') := by
  unfold M_laysBack_2 at h
  refine V.iload_n F dX10_laysBack_2 rfl rfl ?_
  refine V.rload_n F dX10_laysBack_3 rfl rfl ?_
  refine gf_RX10_76 F dX10_laysBack_4 ?_
  refine V.icmp_ge (tgt := 32) F dX10_laysBack_7 (by decide) (fun c1 => ?_) (fun c1 => ?_)
  · have h := f_out h c1
    obtain rfl := r1_out h
    exact V.vret F dX10_laysBack_32
  · have h := t_out h c1
    refine V.rload_n F dX10_laysBack_10 rfl rfl ?_
    refine gf_RX10_29 F dX10_laysBack_11 ?_
    refine V.iconst (v := 3) F dX10_laysBack_14 (by decide) ?_
    refine V.iload_n F dX10_laysBack_15 rfl rfl ?_
    refine V.imul F dX10_laysBack_16 ?_
    refine V.iconst (v := 1) F dX10_laysBack_17 (by decide) ?_
    refine V.iadd F dX10_laysBack_18 ?_
    refine V.rload_n F dX10_laysBack_19 rfl rfl ?_
    refine gf_RX10_44 F dX10_laysBack_20 ?_
    refine V.iload_n F dX10_laysBack_23 rfl rfl ?_
    obtain ⟨c2, h⟩ := chk_out h
    refine V.iald (t0 := 0) (n := 6) F mB10 rfl rfl c2 dX10_laysBack_24 ?_
    obtain ⟨c3, h⟩ := chk_out h
    obtain ⟨μ4, eμ4, h⟩ := nm_out h
    refine V.iast (t0 := 0) (n := 18) F mB5 (fun _ => rfl) rfl c3 eμ4 dX10_laysBack_25 ?_
    obtain ⟨a5, ea5, h⟩ := nm_out h
    refine V.iinc (z := 1) (L' := [some (rf φ 0 0), some (.int a5)]) F dX10_laysBack_26 rfl (by decide) ea5 (by decide) rfl rfl ?_
    refine V.goto (tgt := 2) F dX10_laysBack_29 (by decide) ?_
    exact hk2 _ _ _ h
def M_laysBack_2L : Nat → Int32 → Mem → Option Mem
  | 0 => fun _ _ => none
  | n + 1 => M_laysBack_2 (M_laysBack_2L n)
set_option maxHeartbeats 4000000 in
set_option maxRecDepth 100000 in
theorem M_laysBack_2L_ok {φ : Fr} {d : Nat} (F : Fx φ ΩB cX10_laysBack RX10 2 (none)) (hd : 1 ≤ d) : ∀ (n : Nat) (x1 : Int32) (μ : Mem)  (μ' : Mem), M_laysBack_2L n x1 μ = some μ' → V φ ΩB 2 d 2 [some (rf φ 0 0), some (.int x1)] [] μ (none, μ') := by
  intro n
  induction n with
  | zero => intro x1 μ μ' h; cases h
  | succ n ih => intro x1 μ μ' h; exact M_laysBack_2_ok F hd ih h
def M_laysBack (μ : Mem) : Option Mem :=
  M_laysBack_2L 1000 0 μ
set_option maxHeartbeats 4000000 in
set_option maxRecDepth 100000 in
theorem M_laysBack_ok {φ : Fr} {d : Nat} (F : Fx φ ΩB cX10_laysBack RX10 2 (none)) (hd : 1 ≤ d) {μ : Mem}  {μ' : Mem} (h : M_laysBack μ = some μ') : V φ ΩB 2 d 0 [some (rf φ 0 0), none] [] μ (none, μ') := by
  unfold M_laysBack at h
  refine V.iconst (v := 0) F dX10_laysBack_0 (by decide) ?_
  refine V.istore_n (L' := [some (rf φ 0 0), some (.int 0)]) F dX10_laysBack_1 rfl (by decide) rfl rfl rfl ?_
  exact M_laysBack_2L_ok F hd 1000 _ _ _ h
set_option maxHeartbeats 4000000 in
set_option maxRecDepth 100000 in
theorem M_laysBack_ct {l : Launch} {G : Glo} {μ : Mem}  {μ' : Mem} (h : M_laysBack μ = some μ') : Ct l ΩB G 1 yX10_laysBack cX10_laysBack 2 (none) [.ref (G.1 0 0)] μ (none, μ') := by
  refine Ct.intro (by decide) (Nat.le_of_ble_eq_true rfl) ?_
  intro φ hl hG F
  subst hl; subst hG
  exact M_laysBack_ok F (Nat.le_refl _) h
def M_drawn (x1 : Int32) (x2 : Int32) (μ : Mem) : Option (Int32 × Mem) :=
  nm (M_in (Int32.toInt64 x2) 0 40) fun r2 =>
  if r2 = 0 then (
    some ((-2), μ))
  else (
    bnd (M_draws x1 μ) fun μ5 =>
    bnd2 (M_run x2 0 μ5) fun r7 μ8 =>
    bnd (M_laysBack μ8) fun μ10 =>
    some (r7, μ10))
set_option maxHeartbeats 4000000 in
set_option maxRecDepth 100000 in
theorem M_drawn_ok {φ : Fr} {d : Nat} (F : Fx φ ΩB cX10_drawn RX10 4 (some .int)) (hd : 112 ≤ d) {x1 : Int32} {x2 : Int32} {μ : Mem} {r : Int32} {μ' : Mem} (h : M_drawn x1 x2 μ = some (r, μ')) : V φ ΩB 4 d 0 [some (rf φ 0 0), some (.int x1), some (.int x2), none] [] μ (some (.int r), μ') := by
  unfold M_drawn at h
  refine V.iload_n F dX10_drawn_0 rfl rfl ?_
  refine V.i2l F dX10_drawn_1 ?_
  refine V.lconst (v := 0) F dX10_drawn_2 (by decide) ?_
  refine V.ldc2 F kl_RX10_270 dX10_drawn_3 ?_
  obtain ⟨r2, e1, h⟩ := nm_out h
  refine V.callSi (As := [.long (Int32.toInt64 x2), .long 0, .long 40]) F ck_RX10_79 (M_in_ct e1) (by omega) (by decide) rfl rfl (Nat.le_of_ble_eq_true rfl) dX10_drawn_6 ?_
  refine V.if_ne (tgt := 15) F dX10_drawn_9 (by decide) (fun c3 => ?_) (fun c3 => ?_)
  · have h := f_out h c3
    refine V.rload_n F dX10_drawn_15 rfl rfl ?_
    refine V.iload_n F dX10_drawn_16 rfl rfl ?_
    obtain ⟨μ5, e4, h⟩ := bnd_out h
    refine V.callVv (f := 0) (i := 0) (As := [.int x1]) F ck_RX10_339 (M_draws_ct e4) (by omega) (by decide) rfl mB0 rfl rfl rfl (Nat.le_of_ble_eq_true rfl) dX10_drawn_17 ?_
    refine V.rload_n F dX10_drawn_20 rfl rfl ?_
    refine V.iload_n F dX10_drawn_21 rfl rfl ?_
    refine V.iconst (v := 0) F dX10_drawn_22 (by decide) ?_
    obtain ⟨r7, μ8, e6, h⟩ := bnd2_out h
    refine V.callVi (f := 0) (i := 0) (As := [.int x2, .int 0]) F ck_RX10_342 (M_run_ct e6) (by omega) (by decide) rfl mB0 rfl rfl rfl (Nat.le_of_ble_eq_true rfl) dX10_drawn_23 ?_
    refine V.istore_n (L' := [some (rf φ 0 0), some (.int x1), some (.int x2), some (.int r7)]) F dX10_drawn_26 rfl (by decide) rfl rfl rfl ?_
    refine V.rload_n F dX10_drawn_27 rfl rfl ?_
    obtain ⟨μ10, e9, h⟩ := bnd_out h
    refine V.callVv (f := 0) (i := 0) (As := []) F ck_RX10_345 (M_laysBack_ct e9) (by omega) (by decide) rfl mB0 rfl rfl rfl (Nat.le_of_ble_eq_true rfl) dX10_drawn_28 ?_
    refine V.iload_n F dX10_drawn_31 rfl rfl ?_
    obtain ⟨rfl, rfl⟩ := r2_out h
    exact V.iret F dX10_drawn_32
  · have h := t_out h c3
    refine V.bipush (v := (-2)) F dX10_drawn_12 (by decide) ?_
    obtain ⟨rfl, rfl⟩ := r2_out h
    exact V.iret F dX10_drawn_14
set_option maxHeartbeats 4000000 in
set_option maxRecDepth 100000 in
theorem M_drawn_ct {l : Launch} {G : Glo} {x1 : Int32} {x2 : Int32} {μ : Mem} {r : Int32} {μ' : Mem} (h : M_drawn x1 x2 μ = some (r, μ')) : Ct l ΩB G 112 yX10_drawn cX10_drawn 4 (some .int) [.ref (G.1 0 0), .int x1, .int x2] μ (some (.int r), μ') := by
  refine Ct.intro (by decide) (Nat.le_of_ble_eq_true rfl) ?_
  intro φ hl hG F
  subst hl; subst hG
  exact M_drawn_ok F (Nat.le_refl _) h
def M_chance_131 (k131 : Int32 → Int32 → Int64 → Int64 → Int64 → Mem → Option (Int64 × Mem)) (x2 : Int32) (x3 : Int32) (w4 : Int64) (w6 : Int64) (w8 : Int64) (μ : Mem) : Option (Int64 × Mem) :=
  if (lg_cmp w8 0) = 0 then (
    if x3 = 0 then (
      chk (¬ w6 = 0) <|
      some (w4 / w6, μ))
    else (
      chk (¬ w6 = 0) <|
      some ((Int32.toInt64 x2) / w6, μ)))
  else (
    chk (¬ w8 = 0) <|
    nm (lrm w6 w8) fun l6 =>
    k131 x2 x3 w4 w8 l6 μ)
set_option maxHeartbeats 4000000 in
set_option maxRecDepth 100000 in
theorem M_chance_131_ok {φ : Fr} {d : Nat} (F : Fx φ ΩB cX10_chance RX10 12 (some .long)) (hd : 3 ≤ d) {k131 : Int32 → Int32 → Int64 → Int64 → Int64 → Mem → Option (Int64 × Mem)} (hk131 : ∀ (x2 : Int32) (x3 : Int32) (w4 : Int64) (w6 : Int64) (w8 : Int64) (μ : Mem) (r : Int64) (μ' : Mem), k131 x2 x3 w4 w6 w8 μ = some (r, μ') → V φ ΩB 12 d 131 [none, none, some (.int x2), some (.int x3), some (.long w4), none, some (.long w6), none, some (.long w8), none, none, none] [] μ (some (.long r), μ')) {x2 : Int32} {x3 : Int32} {w4 : Int64} {w6 : Int64} {w8 : Int64} {μ : Mem} {r : Int64} {μ' : Mem} (h : M_chance_131 k131 x2 x3 w4 w6 w8 μ = some (r, μ')) : V φ ΩB 12 d 131 [none, none, some (.int x2), some (.int x3), some (.long w4), none, some (.long w6), none, some (.long w8), none, none, none] [] μ (some (.long r), μ') := by
  unfold M_chance_131 at h
  refine V.lload F dX10_chance_131 rfl ?_
  refine V.lconst (v := 0) F dX10_chance_133 (by decide) ?_
  refine V.lcmp F dX10_chance_134 ?_
  refine V.if_eq (tgt := 156) F dX10_chance_135 (by decide) (fun c1 => ?_) (fun c1 => ?_)
  · have h := t_out h c1
    refine V.iload_n F dX10_chance_156 rfl rfl ?_
    refine V.if_ne (tgt := 168) F dX10_chance_157 (by decide) (fun c2 => ?_) (fun c2 => ?_)
    · have h := f_out h c2
      refine V.iload_n F dX10_chance_168 rfl rfl ?_
      refine V.i2l F dX10_chance_169 ?_
      refine V.lload F dX10_chance_170 rfl ?_
      obtain ⟨c3, h⟩ := chk_out h
      refine V.ldiv F dX10_chance_172 c3 ?_
      obtain ⟨rfl, rfl⟩ := r2_out h
      exact V.lret F dX10_chance_173
    · have h := t_out h c2
      refine V.lload F dX10_chance_160 rfl ?_
      refine V.lload F dX10_chance_162 rfl ?_
      obtain ⟨c4, h⟩ := chk_out h
      refine V.ldiv F dX10_chance_164 c4 ?_
      refine V.goto (tgt := 173) F dX10_chance_165 (by decide) ?_
      obtain ⟨rfl, rfl⟩ := r2_out h
      exact V.lret F dX10_chance_173
  · have h := f_out h c1
    refine V.lload F dX10_chance_138 rfl ?_
    refine V.lload F dX10_chance_140 rfl ?_
    obtain ⟨c5, h⟩ := chk_out h
    refine V.lrem F dX10_chance_142 c5 ?_
    obtain ⟨l6, el6, h⟩ := nm_out h
    refine V.lstore (L' := [none, none, some (.int x2), some (.int x3), some (.long w4), none, some (.long w6), none, some (.long w8), none, some (.long l6), none]) F dX10_chance_143 (by decide) rfl el6 rfl ?_
    refine V.lload F dX10_chance_145 rfl ?_
    refine V.lstore (L' := [none, none, some (.int x2), some (.int x3), some (.long w4), none, some (.long w8), none, some (.long w8), none, some (.long l6), none]) F dX10_chance_147 (by decide) rfl rfl rfl ?_
    refine V.lload F dX10_chance_149 rfl ?_
    refine V.lstore (L' := [none, none, some (.int x2), some (.int x3), some (.long w4), none, some (.long w8), none, some (.long l6), none, some (.long l6), none]) F dX10_chance_151 (by decide) rfl rfl rfl ?_
    refine V.goto (tgt := 131) F dX10_chance_153 (by decide) ?_
    refine V.msk (L' := [none, none, some (.int x2), some (.int x3), some (.long w4), none, some (.long w8), none, some (.long l6), none, none, none]) [false, false, true, true, true, false, true, false, true, false, false, false] rfl ?_
    exact hk131 _ _ _ _ _ _ _ _ h
def M_chance_131L : Nat → Int32 → Int32 → Int64 → Int64 → Int64 → Mem → Option (Int64 × Mem)
  | 0 => fun _ _ _ _ _ _ => none
  | n + 1 => M_chance_131 (M_chance_131L n)
set_option maxHeartbeats 4000000 in
set_option maxRecDepth 100000 in
theorem M_chance_131L_ok {φ : Fr} {d : Nat} (F : Fx φ ΩB cX10_chance RX10 12 (some .long)) (hd : 3 ≤ d) : ∀ (n : Nat) (x2 : Int32) (x3 : Int32) (w4 : Int64) (w6 : Int64) (w8 : Int64) (μ : Mem) (r : Int64) (μ' : Mem), M_chance_131L n x2 x3 w4 w6 w8 μ = some (r, μ') → V φ ΩB 12 d 131 [none, none, some (.int x2), some (.int x3), some (.long w4), none, some (.long w6), none, some (.long w8), none, none, none] [] μ (some (.long r), μ') := by
  intro n
  induction n with
  | zero => intro x2 x3 w4 w6 w8 μ r μ' h; cases h
  | succ n ih => intro x2 x3 w4 w6 w8 μ r μ' h; exact M_chance_131_ok F hd ih h
def M_chance_110 (k32 : Int32 → Int32 → Int32 → Int64 → Int32 → Mem → Option (Int64 × Mem)) (x1 : Int32) (x2 : Int32) (x3 : Int32) (x6 : Int32) (v0 : Int64) (v1 : Int64) (μ : Mem) : Option (Int64 × Mem) :=
  nm (v0 + v1) fun l1 =>
  bnd (M_laysBack μ) fun μ3 =>
  nm (x6 + 1) fun a4 =>
  k32 x1 x2 x3 l1 a4 μ3
set_option maxHeartbeats 4000000 in
set_option maxRecDepth 100000 in
theorem M_chance_110_ok {φ : Fr} {d : Nat} (F : Fx φ ΩB cX10_chance RX10 12 (some .long)) (hd : 3 ≤ d) {k32 : Int32 → Int32 → Int32 → Int64 → Int32 → Mem → Option (Int64 × Mem)} (hk32 : ∀ (x1 : Int32) (x2 : Int32) (x3 : Int32) (w4 : Int64) (x6 : Int32) (μ : Mem) (r : Int64) (μ' : Mem), k32 x1 x2 x3 w4 x6 μ = some (r, μ') → V φ ΩB 12 d 32 [some (rf φ 0 0), some (.int x1), some (.int x2), some (.int x3), some (.long w4), none, some (.int x6), none, none, none, none, none] [] μ (some (.long r), μ')) {x1 : Int32} {x2 : Int32} {x3 : Int32} {x6 : Int32} {v0 : Int64} {v1 : Int64} {μ : Mem} {r : Int64} {μ' : Mem} (h : M_chance_110 k32 x1 x2 x3 x6 v0 v1 μ = some (r, μ')) : V φ ΩB 12 d 110 [some (rf φ 0 0), some (.int x1), some (.int x2), some (.int x3), none, none, some (.int x6), none, none, none, none, none] [.long v1, .long v0] μ (some (.long r), μ') := by
  unfold M_chance_110 at h
  refine V.ladd F dX10_chance_110 ?_
  obtain ⟨l1, el1, h⟩ := nm_out h
  refine V.lstore (L' := [some (rf φ 0 0), some (.int x1), some (.int x2), some (.int x3), some (.long l1), none, some (.int x6), none, none, none, none, none]) F dX10_chance_111 (by decide) rfl el1 rfl ?_
  refine V.rload_n F dX10_chance_113 rfl rfl ?_
  obtain ⟨μ3, e2, h⟩ := bnd_out h
  refine V.callVv (f := 0) (i := 0) (As := []) F ck_RX10_345 (M_laysBack_ct e2) (by omega) (by decide) rfl mB0 rfl rfl rfl (Nat.le_of_ble_eq_true rfl) dX10_chance_114 ?_
  obtain ⟨a4, ea4, h⟩ := nm_out h
  refine V.iinc (z := 1) (L' := [some (rf φ 0 0), some (.int x1), some (.int x2), some (.int x3), some (.long l1), none, some (.int a4), none, none, none, none, none]) F dX10_chance_117 rfl (by decide) ea4 (by decide) rfl rfl ?_
  refine V.goto (tgt := 32) F dX10_chance_120 (by decide) ?_
  exact hk32 _ _ _ _ _ _ _ _ h
def M_chance_90 (k32 : Int32 → Int32 → Int32 → Int64 → Int32 → Mem → Option (Int64 × Mem)) (k52 : Int32 → Int32 → Int32 → Int64 → Int32 → Int32 → Int32 → Mem → Option (Int64 × Mem)) (x1 : Int32) (x2 : Int32) (x3 : Int32) (w4 : Int64) (x6 : Int32) (x8 : Int32) (y0 : Int32) (μ : Mem) : Option (Int64 × Mem) :=
  nm (x8 + 1) fun a1 =>
  k52 x1 x2 x3 w4 x6 y0 a1 μ
set_option maxHeartbeats 4000000 in
set_option maxRecDepth 100000 in
theorem M_chance_90_ok {φ : Fr} {d : Nat} (F : Fx φ ΩB cX10_chance RX10 12 (some .long)) (hd : 3 ≤ d) {k32 : Int32 → Int32 → Int32 → Int64 → Int32 → Mem → Option (Int64 × Mem)} (hk32 : ∀ (x1 : Int32) (x2 : Int32) (x3 : Int32) (w4 : Int64) (x6 : Int32) (μ : Mem) (r : Int64) (μ' : Mem), k32 x1 x2 x3 w4 x6 μ = some (r, μ') → V φ ΩB 12 d 32 [some (rf φ 0 0), some (.int x1), some (.int x2), some (.int x3), some (.long w4), none, some (.int x6), none, none, none, none, none] [] μ (some (.long r), μ')) {k52 : Int32 → Int32 → Int32 → Int64 → Int32 → Int32 → Int32 → Mem → Option (Int64 × Mem)} (hk52 : ∀ (x1 : Int32) (x2 : Int32) (x3 : Int32) (w4 : Int64) (x6 : Int32) (x7 : Int32) (x8 : Int32) (μ : Mem) (r : Int64) (μ' : Mem), k52 x1 x2 x3 w4 x6 x7 x8 μ = some (r, μ') → V φ ΩB 12 d 52 [some (rf φ 0 0), some (.int x1), some (.int x2), some (.int x3), some (.long w4), none, some (.int x6), some (.int x7), some (.int x8), none, none, none] [] μ (some (.long r), μ')) {x1 : Int32} {x2 : Int32} {x3 : Int32} {w4 : Int64} {x6 : Int32} {x8 : Int32} {y0 : Int32} {μ : Mem} {r : Int64} {μ' : Mem} (h : M_chance_90 k32 k52 x1 x2 x3 w4 x6 x8 y0 μ = some (r, μ')) : V φ ΩB 12 d 90 [some (rf φ 0 0), some (.int x1), some (.int x2), some (.int x3), some (.long w4), none, some (.int x6), none, some (.int x8), none, none, none] [.int y0] μ (some (.long r), μ') := by
  unfold M_chance_90 at h
  refine V.istore (L' := [some (rf φ 0 0), some (.int x1), some (.int x2), some (.int x3), some (.long w4), none, some (.int x6), some (.int y0), some (.int x8), none, none, none]) F dX10_chance_90 (by decide) rfl rfl rfl ?_
  obtain ⟨a1, ea1, h⟩ := nm_out h
  refine V.iinc (z := 1) (L' := [some (rf φ 0 0), some (.int x1), some (.int x2), some (.int x3), some (.long w4), none, some (.int x6), some (.int y0), some (.int a1), none, none, none]) F dX10_chance_92 rfl (by decide) ea1 (by decide) rfl rfl ?_
  refine V.goto (tgt := 52) F dX10_chance_95 (by decide) ?_
  exact hk52 _ _ _ _ _ _ _ _ _ _ h
def M_chance_52 (k32 : Int32 → Int32 → Int32 → Int64 → Int32 → Mem → Option (Int64 × Mem)) (k52 : Int32 → Int32 → Int32 → Int64 → Int32 → Int32 → Int32 → Mem → Option (Int64 × Mem)) (x1 : Int32) (x2 : Int32) (x3 : Int32) (w4 : Int64) (x6 : Int32) (x7 : Int32) (x8 : Int32) (μ : Mem) : Option (Int64 × Mem) :=
  if x8 < (rd μ 0 0 12) then (
    if x7 = 0 then (
      bnd (M_fromOf (shl 1 x8) μ) fun r5 =>
      if r5 = ((shl 1 (rd μ 0 0 12)) - 1) then (
        M_chance_90 k32 k52 x1 x2 x3 w4 x6 x8 1 μ)
      else (
        M_chance_90 k32 k52 x1 x2 x3 w4 x6 x8 0 μ))
    else (
      M_chance_90 k32 k52 x1 x2 x3 w4 x6 x8 1 μ))
  else (
    if x7 = 0 then (
      M_chance_110 k32 x1 x2 x3 x6 w4 0 μ)
    else (
      M_chance_110 k32 x1 x2 x3 x6 w4 1 μ))
set_option maxHeartbeats 4000000 in
set_option maxRecDepth 100000 in
theorem M_chance_52_ok {φ : Fr} {d : Nat} (F : Fx φ ΩB cX10_chance RX10 12 (some .long)) (hd : 3 ≤ d) {k32 : Int32 → Int32 → Int32 → Int64 → Int32 → Mem → Option (Int64 × Mem)} (hk32 : ∀ (x1 : Int32) (x2 : Int32) (x3 : Int32) (w4 : Int64) (x6 : Int32) (μ : Mem) (r : Int64) (μ' : Mem), k32 x1 x2 x3 w4 x6 μ = some (r, μ') → V φ ΩB 12 d 32 [some (rf φ 0 0), some (.int x1), some (.int x2), some (.int x3), some (.long w4), none, some (.int x6), none, none, none, none, none] [] μ (some (.long r), μ')) {k52 : Int32 → Int32 → Int32 → Int64 → Int32 → Int32 → Int32 → Mem → Option (Int64 × Mem)} (hk52 : ∀ (x1 : Int32) (x2 : Int32) (x3 : Int32) (w4 : Int64) (x6 : Int32) (x7 : Int32) (x8 : Int32) (μ : Mem) (r : Int64) (μ' : Mem), k52 x1 x2 x3 w4 x6 x7 x8 μ = some (r, μ') → V φ ΩB 12 d 52 [some (rf φ 0 0), some (.int x1), some (.int x2), some (.int x3), some (.long w4), none, some (.int x6), some (.int x7), some (.int x8), none, none, none] [] μ (some (.long r), μ')) {x1 : Int32} {x2 : Int32} {x3 : Int32} {w4 : Int64} {x6 : Int32} {x7 : Int32} {x8 : Int32} {μ : Mem} {r : Int64} {μ' : Mem} (h : M_chance_52 k32 k52 x1 x2 x3 w4 x6 x7 x8 μ = some (r, μ')) : V φ ΩB 12 d 52 [some (rf φ 0 0), some (.int x1), some (.int x2), some (.int x3), some (.long w4), none, some (.int x6), some (.int x7), some (.int x8), none, none, none] [] μ (some (.long r), μ') := by
  unfold M_chance_52 at h
  refine V.iload F dX10_chance_52 rfl ?_
  refine V.rload_n F dX10_chance_54 rfl rfl ?_
  refine gf_RX10_76 F dX10_chance_55 ?_
  refine V.icmp_ge (tgt := 98) F dX10_chance_58 (by decide) (fun c1 => ?_) (fun c1 => ?_)
  · have h := f_out h c1
    refine V.lload F dX10_chance_98 rfl ?_
    refine V.iload F dX10_chance_100 rfl ?_
    refine V.if_eq (tgt := 109) F dX10_chance_102 (by decide) (fun c2 => ?_) (fun c2 => ?_)
    · have h := t_out h c2
      refine V.lconst (v := 0) F dX10_chance_109 (by decide) ?_
      refine V.msk (L' := [some (rf φ 0 0), some (.int x1), some (.int x2), some (.int x3), none, none, some (.int x6), none, none, none, none, none]) [true, true, true, true, false, false, true, false, false, false, false, false] rfl ?_
      exact M_chance_110_ok F hd hk32 h
    · have h := f_out h c2
      refine V.lconst (v := 1) F dX10_chance_105 (by decide) ?_
      refine V.goto (tgt := 110) F dX10_chance_106 (by decide) ?_
      refine V.msk (L' := [some (rf φ 0 0), some (.int x1), some (.int x2), some (.int x3), none, none, some (.int x6), none, none, none, none, none]) [true, true, true, true, false, false, true, false, false, false, false, false] rfl ?_
      exact M_chance_110_ok F hd hk32 h
  · have h := t_out h c1
    refine V.iload F dX10_chance_61 rfl ?_
    refine V.if_ne (tgt := 85) F dX10_chance_63 (by decide) (fun c3 => ?_) (fun c3 => ?_)
    · have h := f_out h c3
      refine V.iconst (v := 1) F dX10_chance_85 (by decide) ?_
      refine V.goto (tgt := 90) F dX10_chance_86 (by decide) ?_
      refine V.msk (L' := [some (rf φ 0 0), some (.int x1), some (.int x2), some (.int x3), some (.long w4), none, some (.int x6), none, some (.int x8), none, none, none]) [true, true, true, true, true, false, true, false, true, false, false, false] rfl ?_
      exact M_chance_90_ok F hd hk32 hk52 h
    · have h := t_out h c3
      refine V.rload_n F dX10_chance_66 rfl rfl ?_
      refine V.iconst (v := 1) F dX10_chance_67 (by decide) ?_
      refine V.iload F dX10_chance_68 rfl ?_
      refine V.ishl F dX10_chance_70 ?_
      obtain ⟨r5, e4, h⟩ := bnd_out h
      refine V.callVi (f := 0) (i := 0) (As := [.int (shl 1 x8)]) F ck_RX10_307 (M_fromOf_ct e4) (by omega) (by decide) rfl mB0 rfl rfl rfl (Nat.le_of_ble_eq_true rfl) dX10_chance_71 ?_
      refine V.iconst (v := 1) F dX10_chance_74 (by decide) ?_
      refine V.rload_n F dX10_chance_75 rfl rfl ?_
      refine gf_RX10_76 F dX10_chance_76 ?_
      refine V.ishl F dX10_chance_79 ?_
      refine V.iconst (v := 1) F dX10_chance_80 (by decide) ?_
      refine V.isub F dX10_chance_81 ?_
      refine V.icmp_ne (tgt := 89) F dX10_chance_82 (by decide) (fun c6 => ?_) (fun c6 => ?_)
      · have h := f_out h c6
        refine V.iconst (v := 0) F dX10_chance_89 (by decide) ?_
        refine V.msk (L' := [some (rf φ 0 0), some (.int x1), some (.int x2), some (.int x3), some (.long w4), none, some (.int x6), none, some (.int x8), none, none, none]) [true, true, true, true, true, false, true, false, true, false, false, false] rfl ?_
        exact M_chance_90_ok F hd hk32 hk52 h
      · have h := t_out h c6
        refine V.iconst (v := 1) F dX10_chance_85 (by decide) ?_
        refine V.goto (tgt := 90) F dX10_chance_86 (by decide) ?_
        refine V.msk (L' := [some (rf φ 0 0), some (.int x1), some (.int x2), some (.int x3), some (.long w4), none, some (.int x6), none, some (.int x8), none, none, none]) [true, true, true, true, true, false, true, false, true, false, false, false] rfl ?_
        exact M_chance_90_ok F hd hk32 hk52 h
def M_chance_52L (k32 : Int32 → Int32 → Int32 → Int64 → Int32 → Mem → Option (Int64 × Mem)) : Nat → Int32 → Int32 → Int32 → Int64 → Int32 → Int32 → Int32 → Mem → Option (Int64 × Mem)
  | 0 => fun _ _ _ _ _ _ _ _ => none
  | n + 1 => M_chance_52 k32 (M_chance_52L k32 n)
set_option maxHeartbeats 4000000 in
set_option maxRecDepth 100000 in
theorem M_chance_52L_ok {φ : Fr} {d : Nat} (F : Fx φ ΩB cX10_chance RX10 12 (some .long)) (hd : 3 ≤ d) {k32 : Int32 → Int32 → Int32 → Int64 → Int32 → Mem → Option (Int64 × Mem)} (hk32 : ∀ (x1 : Int32) (x2 : Int32) (x3 : Int32) (w4 : Int64) (x6 : Int32) (μ : Mem) (r : Int64) (μ' : Mem), k32 x1 x2 x3 w4 x6 μ = some (r, μ') → V φ ΩB 12 d 32 [some (rf φ 0 0), some (.int x1), some (.int x2), some (.int x3), some (.long w4), none, some (.int x6), none, none, none, none, none] [] μ (some (.long r), μ')) : ∀ (n : Nat) (x1 : Int32) (x2 : Int32) (x3 : Int32) (w4 : Int64) (x6 : Int32) (x7 : Int32) (x8 : Int32) (μ : Mem) (r : Int64) (μ' : Mem), M_chance_52L k32 n x1 x2 x3 w4 x6 x7 x8 μ = some (r, μ') → V φ ΩB 12 d 52 [some (rf φ 0 0), some (.int x1), some (.int x2), some (.int x3), some (.long w4), none, some (.int x6), some (.int x7), some (.int x8), none, none, none] [] μ (some (.long r), μ') := by
  intro n
  induction n with
  | zero => intro x1 x2 x3 w4 x6 x7 x8 μ r μ' h; cases h
  | succ n ih => intro x1 x2 x3 w4 x6 x7 x8 μ r μ' h; exact M_chance_52_ok F hd hk32 ih h
def M_chance_32 (k32 : Int32 → Int32 → Int32 → Int64 → Int32 → Mem → Option (Int64 × Mem)) (x1 : Int32) (x2 : Int32) (x3 : Int32) (w4 : Int64) (x6 : Int32) (μ : Mem) : Option (Int64 × Mem) :=
  if x6 < x2 then (
    bnd (M_draws (x1 + x6) μ) fun μ4 =>
    M_chance_52L k32 1000 x1 x2 x3 w4 x6 0 0 μ4)
  else (
    nm (Int32.toInt64 x2) fun l2 =>
    M_chance_131L 1000 x2 x3 w4 w4 l2 μ)
set_option maxHeartbeats 4000000 in
set_option maxRecDepth 100000 in
theorem M_chance_32_ok {φ : Fr} {d : Nat} (F : Fx φ ΩB cX10_chance RX10 12 (some .long)) (hd : 3 ≤ d) {k32 : Int32 → Int32 → Int32 → Int64 → Int32 → Mem → Option (Int64 × Mem)} (hk32 : ∀ (x1 : Int32) (x2 : Int32) (x3 : Int32) (w4 : Int64) (x6 : Int32) (μ : Mem) (r : Int64) (μ' : Mem), k32 x1 x2 x3 w4 x6 μ = some (r, μ') → V φ ΩB 12 d 32 [some (rf φ 0 0), some (.int x1), some (.int x2), some (.int x3), some (.long w4), none, some (.int x6), none, none, none, none, none] [] μ (some (.long r), μ')) {x1 : Int32} {x2 : Int32} {x3 : Int32} {w4 : Int64} {x6 : Int32} {μ : Mem} {r : Int64} {μ' : Mem} (h : M_chance_32 k32 x1 x2 x3 w4 x6 μ = some (r, μ')) : V φ ΩB 12 d 32 [some (rf φ 0 0), some (.int x1), some (.int x2), some (.int x3), some (.long w4), none, some (.int x6), none, none, none, none, none] [] μ (some (.long r), μ') := by
  unfold M_chance_32 at h
  refine V.iload F dX10_chance_32 rfl ?_
  refine V.iload_n F dX10_chance_34 rfl rfl ?_
  refine V.icmp_ge (tgt := 123) F dX10_chance_35 (by decide) (fun c1 => ?_) (fun c1 => ?_)
  · have h := f_out h c1
    refine V.lload F dX10_chance_123 rfl ?_
    refine V.lstore (L' := [some (rf φ 0 0), some (.int x1), some (.int x2), some (.int x3), some (.long w4), none, some (.long w4), none, none, none, none, none]) F dX10_chance_125 (by decide) rfl rfl rfl ?_
    refine V.iload_n F dX10_chance_127 rfl rfl ?_
    refine V.i2l F dX10_chance_128 ?_
    obtain ⟨l2, el2, h⟩ := nm_out h
    refine V.lstore (L' := [some (rf φ 0 0), some (.int x1), some (.int x2), some (.int x3), some (.long w4), none, some (.long w4), none, some (.long l2), none, none, none]) F dX10_chance_129 (by decide) rfl el2 rfl ?_
    refine V.msk (L' := [none, none, some (.int x2), some (.int x3), some (.long w4), none, some (.long w4), none, some (.long l2), none, none, none]) [false, false, true, true, true, false, true, false, true, false, false, false] rfl ?_
    exact M_chance_131L_ok F hd 1000 _ _ _ _ _ _ _ _ h
  · have h := t_out h c1
    refine V.rload_n F dX10_chance_38 rfl rfl ?_
    refine V.iload_n F dX10_chance_39 rfl rfl ?_
    refine V.iload F dX10_chance_40 rfl ?_
    refine V.iadd F dX10_chance_42 ?_
    obtain ⟨μ4, e3, h⟩ := bnd_out h
    refine V.callVv (f := 0) (i := 0) (As := [.int (x1 + x6)]) F ck_RX10_339 (M_draws_ct e3) (by omega) (by decide) rfl mB0 rfl rfl rfl (Nat.le_of_ble_eq_true rfl) dX10_chance_43 ?_
    refine V.iconst (v := 0) F dX10_chance_46 (by decide) ?_
    refine V.istore (L' := [some (rf φ 0 0), some (.int x1), some (.int x2), some (.int x3), some (.long w4), none, some (.int x6), some (.int 0), none, none, none, none]) F dX10_chance_47 (by decide) rfl rfl rfl ?_
    refine V.iconst (v := 0) F dX10_chance_49 (by decide) ?_
    refine V.istore (L' := [some (rf φ 0 0), some (.int x1), some (.int x2), some (.int x3), some (.long w4), none, some (.int x6), some (.int 0), some (.int 0), none, none, none]) F dX10_chance_50 (by decide) rfl rfl rfl ?_
    exact M_chance_52L_ok F hd hk32 1000 _ _ _ _ _ _ _ _ _ _ h
def M_chance_32L : Nat → Int32 → Int32 → Int32 → Int64 → Int32 → Mem → Option (Int64 × Mem)
  | 0 => fun _ _ _ _ _ _ => none
  | n + 1 => M_chance_32 (M_chance_32L n)
set_option maxHeartbeats 4000000 in
set_option maxRecDepth 100000 in
theorem M_chance_32L_ok {φ : Fr} {d : Nat} (F : Fx φ ΩB cX10_chance RX10 12 (some .long)) (hd : 3 ≤ d) : ∀ (n : Nat) (x1 : Int32) (x2 : Int32) (x3 : Int32) (w4 : Int64) (x6 : Int32) (μ : Mem) (r : Int64) (μ' : Mem), M_chance_32L n x1 x2 x3 w4 x6 μ = some (r, μ') → V φ ΩB 12 d 32 [some (rf φ 0 0), some (.int x1), some (.int x2), some (.int x3), some (.long w4), none, some (.int x6), none, none, none, none, none] [] μ (some (.long r), μ') := by
  intro n
  induction n with
  | zero => intro x1 x2 x3 w4 x6 μ r μ' h; cases h
  | succ n ih => intro x1 x2 x3 w4 x6 μ r μ' h; exact M_chance_32_ok F hd ih h
def M_chance (x1 : Int32) (x2 : Int32) (x3 : Int32) (μ : Mem) : Option (Int64 × Mem) :=
  nm (M_in (Int32.toInt64 x2) 1 20) fun r2 =>
  if r2 = 0 then (
    some ((-4611686018427387904), μ))
  else (
    nm (M_in (Int32.toInt64 x3) 0 1) fun r5 =>
    if r5 = 0 then (
      some ((-4611686018427387904), μ))
    else (
      M_chance_32L 1000 x1 x2 x3 0 0 μ))
set_option maxHeartbeats 4000000 in
set_option maxRecDepth 100000 in
theorem M_chance_ok {φ : Fr} {d : Nat} (F : Fx φ ΩB cX10_chance RX10 12 (some .long)) (hd : 3 ≤ d) {x1 : Int32} {x2 : Int32} {x3 : Int32} {μ : Mem} {r : Int64} {μ' : Mem} (h : M_chance x1 x2 x3 μ = some (r, μ')) : V φ ΩB 12 d 0 [some (rf φ 0 0), some (.int x1), some (.int x2), some (.int x3), none, none, none, none, none, none, none, none] [] μ (some (.long r), μ') := by
  unfold M_chance at h
  refine V.iload_n F dX10_chance_0 rfl rfl ?_
  refine V.i2l F dX10_chance_1 ?_
  refine V.lconst (v := 1) F dX10_chance_2 (by decide) ?_
  refine V.ldc2 F kl_RX10_348 dX10_chance_3 ?_
  obtain ⟨r2, e1, h⟩ := nm_out h
  refine V.callSi (As := [.long (Int32.toInt64 x2), .long 1, .long 20]) F ck_RX10_79 (M_in_ct e1) (by omega) (by decide) rfl rfl (Nat.le_of_ble_eq_true rfl) dX10_chance_6 ?_
  refine V.if_eq (tgt := 22) F dX10_chance_9 (by decide) (fun c3 => ?_) (fun c3 => ?_)
  · have h := t_out h c3
    refine V.ldc2 F kl_RX10_350 dX10_chance_22 ?_
    obtain ⟨rfl, rfl⟩ := r2_out h
    exact V.lret F dX10_chance_25
  · have h := f_out h c3
    refine V.iload_n F dX10_chance_12 rfl rfl ?_
    refine V.i2l F dX10_chance_13 ?_
    refine V.lconst (v := 0) F dX10_chance_14 (by decide) ?_
    refine V.lconst (v := 1) F dX10_chance_15 (by decide) ?_
    obtain ⟨r5, e4, h⟩ := nm_out h
    refine V.callSi (As := [.long (Int32.toInt64 x3), .long 0, .long 1]) F ck_RX10_79 (M_in_ct e4) (by omega) (by decide) rfl rfl (Nat.le_of_ble_eq_true rfl) dX10_chance_16 ?_
    refine V.if_ne (tgt := 26) F dX10_chance_19 (by decide) (fun c6 => ?_) (fun c6 => ?_)
    · have h := f_out h c6
      refine V.lconst (v := 0) F dX10_chance_26 (by decide) ?_
      refine V.lstore (L' := [some (rf φ 0 0), some (.int x1), some (.int x2), some (.int x3), some (.long 0), none, none, none, none, none, none, none]) F dX10_chance_27 (by decide) rfl rfl rfl ?_
      refine V.iconst (v := 0) F dX10_chance_29 (by decide) ?_
      refine V.istore (L' := [some (rf φ 0 0), some (.int x1), some (.int x2), some (.int x3), some (.long 0), none, some (.int 0), none, none, none, none, none]) F dX10_chance_30 (by decide) rfl rfl rfl ?_
      exact M_chance_32L_ok F hd 1000 _ _ _ _ _ _ _ _ h
    · have h := t_out h c6
      refine V.ldc2 F kl_RX10_350 dX10_chance_22 ?_
      obtain ⟨rfl, rfl⟩ := r2_out h
      exact V.lret F dX10_chance_25
set_option maxHeartbeats 4000000 in
set_option maxRecDepth 100000 in
theorem M_chance_ct {l : Launch} {G : Glo} {x1 : Int32} {x2 : Int32} {x3 : Int32} {μ : Mem} {r : Int64} {μ' : Mem} (h : M_chance x1 x2 x3 μ = some (r, μ')) : Ct l ΩB G 3 yX10_chance cX10_chance 12 (some .long) [.ref (G.1 0 0), .int x1, .int x2, .int x3] μ (some (.long r), μ') := by
  refine Ct.intro (by decide) (Nat.le_of_ble_eq_true rfl) ?_
  intro φ hl hG F
  subst hl; subst hG
  exact M_chance_ok F (Nat.le_refl _) h
