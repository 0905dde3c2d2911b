def Sh_has (t0 : Nat) (x1 : Int32) (x2 : Int32) (μ : Mem) : Int32 :=
  if x2 < 0 then (
    0)
  else (
    if x1 < 0 then (
      0)
    else (
      if ((rd μ 16 t0 1) - x2) < x1 then (
        0)
      else (
        1)))
set_option maxHeartbeats 4000000 in
set_option maxRecDepth 100000 in
theorem Sh_has_ok {φ : Fr} {d : Nat} (F : Fx φ ΩA cX5_has RX5 3 (some .boolean)) (hd : 1 ≤ d) {t0 : Nat} {x1 : Int32} {x2 : Int32} (ht0 : t0 < 4) {μ : Mem} {r : Int32} (h : Sh_has t0 x1 x2 μ = r) : V φ ΩA 3 d 0 [some (rf φ 16 t0), some (.int x1), some (.int x2)] [] μ (some (.int r), μ) := by
  unfold Sh_has at h
  refine V.iload_n F dX5_has_0 rfl rfl ?_
  refine V.if_lt (tgt := 22) F dX5_has_1 (by decide) (fun c1 => ?_) (fun c1 => ?_)
  · have h := t_out h c1
    refine V.iconst (v := 0) F dX5_has_22 (by decide) ?_
    obtain rfl := h
    exact V.zret F (by decide) dX5_has_23
  · have h := f_out h c1
    refine V.iload_n F dX5_has_4 rfl rfl ?_
    refine V.if_lt (tgt := 22) F dX5_has_5 (by decide) (fun c2 => ?_) (fun c2 => ?_)
    · have h := t_out h c2
      refine V.iconst (v := 0) F dX5_has_22 (by decide) ?_
      obtain rfl := h
      exact V.zret F (by decide) dX5_has_23
    · have h := f_out h c2
      refine V.iload_n F dX5_has_8 rfl rfl ?_
      refine V.rload_n F dX5_has_9 rfl rfl ?_
      refine gf_RX5_15 ht0 F dX5_has_10 ?_
      refine V.iload_n F dX5_has_13 rfl rfl ?_
      refine V.isub F dX5_has_14 ?_
      refine V.icmp_gt (tgt := 22) F dX5_has_15 (by decide) (fun c3 => ?_) (fun c3 => ?_)
      · have h := t_out h c3
        refine V.iconst (v := 0) F dX5_has_22 (by decide) ?_
        obtain rfl := h
        exact V.zret F (by decide) dX5_has_23
      · have h := f_out h c3
        refine V.iconst (v := 1) F dX5_has_18 (by decide) ?_
        refine V.goto (tgt := 23) F dX5_has_19 (by decide) ?_
        obtain rfl := h
        exact V.zret F (by decide) dX5_has_23
set_option maxHeartbeats 4000000 in
set_option maxRecDepth 100000 in
theorem Sh_has_ct {l : Launch} {G : Glo} {t0 : Nat} {x1 : Int32} {x2 : Int32} (ht0 : t0 < 4) {μ : Mem} {r : Int32} (h : Sh_has t0 x1 x2 μ = r) : Ct l ΩA G 1 yX5_has cX5_has 3 (some .boolean) [.ref (G.1 16 t0), .int x1, .int x2] μ (some (.int r), μ) := by
  refine Ct.intro (by decide) (Nat.le_of_ble_eq_true rfl) ?_
  intro φ hl hG F
  subst hl; subst hG
  exact Sh_has_ok F (Nat.le_refl _) ht0 h
def Ta_write_16 (k16 : Nat → Int32 → Mem → Option Mem) (s1 : Nat) (x2 : Int32) (μ : Mem) : Option Mem :=
  if x2 < (rd μ 10 0 1) then (
    chk (inb x2 (lenJS.getD s1 0)) <|
    chk (inb x2 160) <|
    nm (up μ 11 0 (ix x2) (schr s1 (ix x2))) fun μ4 =>
    nm (x2 + 1) fun a5 =>
    k16 s1 a5 μ4)
  else (
    some μ)
set_option maxHeartbeats 4000000 in
set_option maxRecDepth 100000 in
theorem Ta_write_16_ok {φ : Fr} {d : Nat} (F : Fx φ ΩA cX6_write RX6 3 (none)) (hd : 6 ≤ d) {k16 : Nat → Int32 → Mem → Option Mem} (hk16 : ∀ (s1 : Nat) (x2 : Int32) (hs1 : s1 < 13) (μ : Mem)  (μ' : Mem), k16 s1 x2 μ = some μ' → V φ ΩA 3 d 16 [some (rf φ 10 0), some (.ref ((gl φ).2.2.2.1 s1)), some (.int x2)] [] μ (none, μ')) {s1 : Nat} {x2 : Int32} (hs1 : s1 < 13) {μ : Mem}  {μ' : Mem} (h : Ta_write_16 k16 s1 x2 μ = some μ') : V φ ΩA 3 d 16 [some (rf φ 10 0), some (.ref ((gl φ).2.2.2.1 s1)), some (.int x2)] [] μ (none, μ') := by
  unfold Ta_write_16 at h
  refine V.iload_n F dX6_write_16 rfl rfl ?_
  refine V.rload_n F dX6_write_17 rfl rfl ?_
  refine gf_RX6_15 F dX6_write_18 ?_
  refine V.icmp_ge (tgt := 41) F dX6_write_21 (by decide) (fun c1 => ?_) (fun c1 => ?_)
  · have h := f_out h c1
    obtain rfl := r1_out h
    exact V.vret F dX6_write_41
  · have h := t_out h c1
    refine V.rload_n F dX6_write_24 rfl rfl ?_
    refine gf_RX6_9 F dX6_write_25 ?_
    refine V.iload_n F dX6_write_28 rfl rfl ?_
    refine V.aload_n F dX6_write_29 rfl rfl ?_
    refine V.iload_n F dX6_write_30 rfl rfl ?_
    obtain ⟨c2, h⟩ := chk_out h
    refine V.schrR F ck_RX6_43 hs1 c2 (by omega) (Nat.le_of_ble_eq_true rfl) dX6_write_31 ?_
    obtain ⟨c3, h⟩ := chk_out h
    obtain ⟨μ4, eμ4, h⟩ := nm_out h
    refine V.iast (t0 := 0) (n := 160) F mA11 (fun _ => rfl) rfl c3 eμ4 dX6_write_34 ?_
    obtain ⟨a5, ea5, h⟩ := nm_out h
    refine V.iinc (z := 1) (L' := [some (rf φ 10 0), some (.ref ((gl φ).2.2.2.1 s1)), some (.int a5)]) F dX6_write_35 rfl (by decide) ea5 (by decide) rfl rfl ?_
    refine V.goto (tgt := 16) F dX6_write_38 (by decide) ?_
    exact hk16 _ _ hs1 _ _ h
def Ta_write_16L : Nat → Nat → Int32 → Mem → Option Mem
  | 0 => fun _ _ _ => none
  | n + 1 => Ta_write_16 (Ta_write_16L n)
set_option maxHeartbeats 4000000 in
set_option maxRecDepth 100000 in
theorem Ta_write_16L_ok {φ : Fr} {d : Nat} (F : Fx φ ΩA cX6_write RX6 3 (none)) (hd : 6 ≤ d) : ∀ (n : Nat) (s1 : Nat) (x2 : Int32) (hs1 : s1 < 13) (μ : Mem)  (μ' : Mem), Ta_write_16L n s1 x2 μ = some μ' → V φ ΩA 3 d 16 [some (rf φ 10 0), some (.ref ((gl φ).2.2.2.1 s1)), some (.int x2)] [] μ (none, μ') := by
  intro n
  induction n with
  | zero => intro s1 x2 hs1 μ μ' h; cases h
  | succ n ih => intro s1 x2 hs1 μ μ' h; exact Ta_write_16_ok F hd ih hs1 h
def Ta_write (s1 : Nat) (μ : Mem) : Option Mem :=
  nm (up μ 10 0 1 (imn (slen s1) 160)) fun μ1 =>
  Ta_write_16L 1000 s1 0 μ1
set_option maxHeartbeats 4000000 in
set_option maxRecDepth 100000 in
theorem Ta_write_ok {φ : Fr} {d : Nat} (F : Fx φ ΩA cX6_write RX6 3 (none)) (hd : 6 ≤ d) {s1 : Nat} (hs1 : s1 < 13) {μ : Mem}  {μ' : Mem} (h : Ta_write s1 μ = some μ') : V φ ΩA 3 d 0 [some (rf φ 10 0), some (.ref ((gl φ).2.2.2.1 s1)), none] [] μ (none, μ') := by
  unfold Ta_write at h
  refine V.rload_n F dX6_write_0 rfl rfl ?_
  refine V.aload_n F dX6_write_1 rfl rfl ?_
  refine V.slenR F ck_RX6_31 hs1 (by omega) (Nat.le_of_ble_eq_true rfl) dX6_write_2 ?_
  refine V.sipush (v := 160) F dX6_write_5 (by decide) ?_
  refine V.mmin F ml_RX6_37 sw_mmin iw_Math cw_mmin (Nat.le_of_ble_eq_true rfl) dX6_write_8 ?_
  obtain ⟨μ1, eμ1, h⟩ := nm_out h
  refine pf_RX6_15 F eμ1 dX6_write_11 ?_
  refine V.iconst (v := 0) F dX6_write_14 (by decide) ?_
  refine V.istore_n (L' := [some (rf φ 10 0), some (.ref ((gl φ).2.2.2.1 s1)), some (.int 0)]) F dX6_write_15 rfl (by decide) rfl rfl rfl ?_
  exact Ta_write_16L_ok F hd 1000 _ _ hs1 _ _ h
set_option maxHeartbeats 4000000 in
set_option maxRecDepth 100000 in
theorem Ta_write_ct {l : Launch} {G : Glo} {s1 : Nat} (hs1 : s1 < 13) {μ : Mem}  {μ' : Mem} (h : Ta_write s1 μ = some μ') : Ct l ΩA G 6 yX6_write cX6_write 3 (none) [.ref (G.1 10 0), .ref (G.2.2.2.1 s1)] μ (none, μ') := by
  refine Ct.intro (by decide) (Nat.le_of_ble_eq_true rfl) ?_
  intro φ hl hG F
  subst hl; subst hG
  exact Ta_write_ok F (Nat.le_refl _) hs1 h
def Wa_begin_12 (k12 : Int32 → Mem → Option Mem) (x2 : Int32) (μ : Mem) : Option Mem :=
  if x2 < (rd μ 20 0 0) then (
    chk (inb x2 6) <|
    nm (up μ 21 0 (ix x2) x2) fun μ3 =>
    nm (up μ3 20 0 1 ((rd μ3 20 0 1) * (x2 + 1))) fun μ4 =>
    nm (x2 + 1) fun a5 =>
    k12 a5 μ4)
  else (
    some μ)
set_option maxHeartbeats 4000000 in
set_option maxRecDepth 100000 in
theorem Wa_begin_12_ok {φ : Fr} {d : Nat} (F : Fx φ ΩA cX8_begin RX8 3 (none)) (hd : 1 ≤ d) {k12 : Int32 → Mem → Option Mem} (hk12 : ∀ (x2 : Int32) (μ : Mem)  (μ' : Mem), k12 x2 μ = some μ' → V φ ΩA 3 d 12 [some (rf φ 20 0), none, some (.int x2)] [] μ (none, μ')) {x2 : Int32} {μ : Mem}  {μ' : Mem} (h : Wa_begin_12 k12 x2 μ = some μ') : V φ ΩA 3 d 12 [some (rf φ 20 0), none, some (.int x2)] [] μ (none, μ') := by
  unfold Wa_begin_12 at h
  refine V.iload_n F dX8_begin_12 rfl rfl ?_
  refine V.rload_n F dX8_begin_13 rfl rfl ?_
  refine gf_RX8_9 F dX8_begin_14 ?_
  refine V.icmp_ge (tgt := 45) F dX8_begin_17 (by decide) (fun c1 => ?_) (fun c1 => ?_)
  · have h := f_out h c1
    obtain rfl := r1_out h
    exact V.vret F dX8_begin_45
  · have h := t_out h c1
    refine V.rload_n F dX8_begin_20 rfl rfl ?_
    refine gf_RX8_18 F dX8_begin_21 ?_
    refine V.iload_n F dX8_begin_24 rfl rfl ?_
    refine V.iload_n F dX8_begin_25 rfl rfl ?_
    obtain ⟨c2, h⟩ := chk_out h
    obtain ⟨μ3, eμ3, h⟩ := nm_out h
    refine V.iast (t0 := 0) (n := 6) F mA21 (fun _ => rfl) rfl c2 eμ3 dX8_begin_26 ?_
    refine V.rload_n F dX8_begin_27 rfl rfl ?_
    refine V.dup F dX8_begin_28 rfl ?_
    refine gf_RX8_15 F dX8_begin_29 ?_
    refine V.iload_n F dX8_begin_32 rfl rfl ?_
    refine V.iconst (v := 1) F dX8_begin_33 (by decide) ?_
    refine V.iadd F dX8_begin_34 ?_
    refine V.imul F dX8_begin_35 ?_
    obtain ⟨μ4, eμ4, h⟩ := nm_out h
    refine pf_RX8_15 F eμ4 dX8_begin_36 ?_
    obtain ⟨a5, ea5, h⟩ := nm_out h
    refine V.iinc (z := 1) (L' := [some (rf φ 20 0), none, some (.int a5)]) F dX8_begin_39 rfl (by decide) ea5 (by decide) rfl rfl ?_
    refine V.goto (tgt := 12) F dX8_begin_42 (by decide) ?_
    exact hk12 _ _ _ h
def Wa_begin_12L : Nat → Int32 → Mem → Option Mem
  | 0 => fun _ _ => none
  | n + 1 => Wa_begin_12 (Wa_begin_12L n)
set_option maxHeartbeats 4000000 in
set_option maxRecDepth 100000 in
theorem Wa_begin_12L_ok {φ : Fr} {d : Nat} (F : Fx φ ΩA cX8_begin RX8 3 (none)) (hd : 1 ≤ d) : ∀ (n : Nat) (x2 : Int32) (μ : Mem)  (μ' : Mem), Wa_begin_12L n x2 μ = some μ' → V φ ΩA 3 d 12 [some (rf φ 20 0), none, some (.int x2)] [] μ (none, μ') := by
  intro n
  induction n with
  | zero => intro x2 μ μ' h; cases h
  | succ n ih => intro x2 μ μ' h; exact Wa_begin_12_ok F hd ih h
def Wa_begin (x1 : Int32) (μ : Mem) : Option Mem :=
  nm (up μ 20 0 0 x1) fun μ1 =>
  nm (up μ1 20 0 1 1) fun μ2 =>
  Wa_begin_12L 1000 0 μ2
set_option maxHeartbeats 4000000 in
set_option maxRecDepth 100000 in
theorem Wa_begin_ok {φ : Fr} {d : Nat} (F : Fx φ ΩA cX8_begin RX8 3 (none)) (hd : 1 ≤ d) {x1 : Int32} {μ : Mem}  {μ' : Mem} (h : Wa_begin x1 μ = some μ') : V φ ΩA 3 d 0 [some (rf φ 20 0), some (.int x1), none] [] μ (none, μ') := by
  unfold Wa_begin at h
  refine V.rload_n F dX8_begin_0 rfl rfl ?_
  refine V.iload_n F dX8_begin_1 rfl rfl ?_
  obtain ⟨μ1, eμ1, h⟩ := nm_out h
  refine pf_RX8_9 F eμ1 dX8_begin_2 ?_
  refine V.rload_n F dX8_begin_5 rfl rfl ?_
  refine V.iconst (v := 1) F dX8_begin_6 (by decide) ?_
  obtain ⟨μ2, eμ2, h⟩ := nm_out h
  refine pf_RX8_15 F eμ2 dX8_begin_7 ?_
  refine V.iconst (v := 0) F dX8_begin_10 (by decide) ?_
  refine V.istore_n (L' := [some (rf φ 20 0), some (.int x1), some (.int 0)]) F dX8_begin_11 rfl (by decide) rfl rfl rfl ?_
  refine V.msk (L' := [some (rf φ 20 0), none, some (.int 0)]) [true, false, true] rfl ?_
  exact Wa_begin_12L_ok F hd 1000 _ _ _ h
set_option maxHeartbeats 4000000 in
set_option maxRecDepth 100000 in
theorem Wa_begin_ct {l : Launch} {G : Glo} {x1 : Int32} {μ : Mem}  {μ' : Mem} (h : Wa_begin x1 μ = some μ') : Ct l ΩA G 1 yX8_begin cX8_begin 3 (none) [.ref (G.1 20 0), .int x1] μ (none, μ') := by
  refine Ct.intro (by decide) (Nat.le_of_ble_eq_true rfl) ?_
  intro φ hl hG F
  subst hl; subst hG
  exact Wa_begin_ok F (Nat.le_refl _) h
def Wa_swap (x1 : Int32) (x2 : Int32) (μ : Mem) : Option Mem :=
  chk (inb x1 6) <|
  nm (rd μ 21 0 (ix x1)) fun a2 =>
  chk (inb x2 6) <|
  chk (inb x1 6) <|
  nm (up μ 21 0 (ix x1) (rd μ 21 0 (ix x2))) fun μ5 =>
  chk (inb x2 6) <|
  nm (up μ5 21 0 (ix x2) a2) fun μ7 =>
  some μ7
set_option maxHeartbeats 4000000 in
set_option maxRecDepth 100000 in
theorem Wa_swap_ok {φ : Fr} {d : Nat} (F : Fx φ ΩA cX8_swap RX8 4 (none)) (hd : 1 ≤ d) {x1 : Int32} {x2 : Int32} {μ : Mem}  {μ' : Mem} (h : Wa_swap x1 x2 μ = some μ') : V φ ΩA 4 d 0 [some (rf φ 20 0), some (.int x1), some (.int x2), none] [] μ (none, μ') := by
  unfold Wa_swap at h
  refine V.rload_n F dX8_swap_0 rfl rfl ?_
  refine gf_RX8_18 F dX8_swap_1 ?_
  refine V.iload_n F dX8_swap_4 rfl rfl ?_
  obtain ⟨c1, h⟩ := chk_out h
  refine V.iald (t0 := 0) (n := 6) F mA21 rfl rfl c1 dX8_swap_5 ?_
  obtain ⟨a2, ea2, h⟩ := nm_out h
  refine V.istore_n (L' := [some (rf φ 20 0), some (.int x1), some (.int x2), some (.int a2)]) F dX8_swap_6 rfl (by decide) rfl ea2 rfl ?_
  refine V.rload_n F dX8_swap_7 rfl rfl ?_
  refine gf_RX8_18 F dX8_swap_8 ?_
  refine V.iload_n F dX8_swap_11 rfl rfl ?_
  refine V.rload_n F dX8_swap_12 rfl rfl ?_
  refine gf_RX8_18 F dX8_swap_13 ?_
  refine V.iload_n F dX8_swap_16 rfl rfl ?_
  obtain ⟨c3, h⟩ := chk_out h
  refine V.iald (t0 := 0) (n := 6) F mA21 rfl rfl c3 dX8_swap_17 ?_
  obtain ⟨c4, h⟩ := chk_out h
  obtain ⟨μ5, eμ5, h⟩ := nm_out h
  refine V.iast (t0 := 0) (n := 6) F mA21 (fun _ => rfl) rfl c4 eμ5 dX8_swap_18 ?_
  refine V.rload_n F dX8_swap_19 rfl rfl ?_
  refine gf_RX8_18 F dX8_swap_20 ?_
  refine V.iload_n F dX8_swap_23 rfl rfl ?_
  refine V.iload_n F dX8_swap_24 rfl rfl ?_
  obtain ⟨c6, h⟩ := chk_out h
  obtain ⟨μ7, eμ7, h⟩ := nm_out h
  refine V.iast (t0 := 0) (n := 6) F mA21 (fun _ => rfl) rfl c6 eμ7 dX8_swap_25 ?_
  obtain rfl := r1_out h
  exact V.vret F dX8_swap_26
set_option maxHeartbeats 4000000 in
set_option maxRecDepth 100000 in
theorem Wa_swap_ct {l : Launch} {G : Glo} {x1 : Int32} {x2 : Int32} {μ : Mem}  {μ' : Mem} (h : Wa_swap x1 x2 μ = some μ') : Ct l ΩA G 1 yX8_swap cX8_swap 4 (none) [.ref (G.1 20 0), .int x1, .int x2] μ (none, μ') := by
  refine Ct.intro (by decide) (Nat.le_of_ble_eq_true rfl) ?_
  intro φ hl hG F
  subst hl; subst hG
  exact Wa_swap_ok F (Nat.le_refl _) h
def Wa_step_90 (k90 : Int32 → Int32 → Mem → Option Mem) (x3 : Int32) (x4 : Int32) (μ : Mem) : Option Mem :=
  if x3 < x4 then (
    bnd (Wa_swap x3 x4 μ) fun μ3 =>
    nm (x3 + 1) fun a4 =>
    nm (x4 + (-1)) fun a5 =>
    k90 a4 a5 μ3)
  else (
    some μ)
set_option maxHeartbeats 4000000 in
set_option maxRecDepth 100000 in
theorem Wa_step_90_ok {φ : Fr} {d : Nat} (F : Fx φ ΩA cX8_step RX8 5 (none)) (hd : 2 ≤ d) {k90 : Int32 → Int32 → Mem → Option Mem} (hk90 : ∀ (x3 : Int32) (x4 : Int32) (μ : Mem)  (μ' : Mem), k90 x3 x4 μ = some μ' → V φ ΩA 5 d 90 [some (rf φ 20 0), none, none, some (.int x3), some (.int x4)] [] μ (none, μ')) {x3 : Int32} {x4 : Int32} {μ : Mem}  {μ' : Mem} (h : Wa_step_90 k90 x3 x4 μ = some μ') : V φ ΩA 5 d 90 [some (rf φ 20 0), none, none, some (.int x3), some (.int x4)] [] μ (none, μ') := by
  unfold Wa_step_90 at h
  refine V.iload_n F dX8_step_90 rfl rfl ?_
  refine V.iload F dX8_step_91 rfl ?_
  refine V.icmp_ge (tgt := 112) F dX8_step_93 (by decide) (fun c1 => ?_) (fun c1 => ?_)
  · have h := f_out h c1
    obtain rfl := r1_out h
    exact V.vret F dX8_step_112
  · have h := t_out h c1
    refine V.rload_n F dX8_step_96 rfl rfl ?_
    refine V.iload_n F dX8_step_97 rfl rfl ?_
    refine V.iload F dX8_step_98 rfl ?_
    obtain ⟨μ3, e2, h⟩ := bnd_out h
    refine V.callVv (f := 20) (i := 0) (As := [.int x3, .int x4]) F ck_RX8_25 (Wa_swap_ct e2) (by omega) (by decide) rfl mA20 rfl rfl rfl (Nat.le_of_ble_eq_true rfl) dX8_step_100 ?_
    obtain ⟨a4, ea4, h⟩ := nm_out h
    refine V.iinc (z := 1) (L' := [some (rf φ 20 0), none, none, some (.int a4), some (.int x4)]) F dX8_step_103 rfl (by decide) ea4 (by decide) rfl rfl ?_
    obtain ⟨a5, ea5, h⟩ := nm_out h
    refine V.iinc (z := (-1)) (L' := [some (rf φ 20 0), none, none, some (.int a4), some (.int a5)]) F dX8_step_106 rfl (by decide) ea5 (by decide) rfl rfl ?_
    refine V.goto (tgt := 90) F dX8_step_109 (by decide) ?_
    exact hk90 _ _ _ _ h
def Wa_step_90L : Nat → Int32 → Int32 → Mem → Option Mem
  | 0 => fun _ _ _ => none
  | n + 1 => Wa_step_90 (Wa_step_90L n)
set_option maxHeartbeats 4000000 in
set_option maxRecDepth 100000 in
theorem Wa_step_90L_ok {φ : Fr} {d : Nat} (F : Fx φ ΩA cX8_step RX8 5 (none)) (hd : 2 ≤ d) : ∀ (n : Nat) (x3 : Int32) (x4 : Int32) (μ : Mem)  (μ' : Mem), Wa_step_90L n x3 x4 μ = some μ' → V φ ΩA 5 d 90 [some (rf φ 20 0), none, none, some (.int x3), some (.int x4)] [] μ (none, μ') := by
  intro n
  induction n with
  | zero => intro x3 x4 μ μ' h; cases h
  | succ n ih => intro x3 x4 μ μ' h; exact Wa_step_90_ok F hd ih h
def Wa_step_72 (x1 : Int32) (x2 : Int32) (μ : Mem) : Option Mem :=
  bnd (Wa_swap x1 x2 μ) fun μ2 =>
  nm (x1 + 1) fun a3 =>
  nm ((rd μ2 20 0 0) - 1) fun a4 =>
  Wa_step_90L 1000 a3 a4 μ2
set_option maxHeartbeats 4000000 in
set_option maxRecDepth 100000 in
theorem Wa_step_72_ok {φ : Fr} {d : Nat} (F : Fx φ ΩA cX8_step RX8 5 (none)) (hd : 2 ≤ d) {x1 : Int32} {x2 : Int32} {μ : Mem}  {μ' : Mem} (h : Wa_step_72 x1 x2 μ = some μ') : V φ ΩA 5 d 72 [some (rf φ 20 0), some (.int x1), some (.int x2), none, none] [] μ (none, μ') := by
  unfold Wa_step_72 at h
  refine V.rload_n F dX8_step_72 rfl rfl ?_
  refine V.iload_n F dX8_step_73 rfl rfl ?_
  refine V.iload_n F dX8_step_74 rfl rfl ?_
  obtain ⟨μ2, e1, h⟩ := bnd_out h
  refine V.callVv (f := 20) (i := 0) (As := [.int x1, .int x2]) F ck_RX8_25 (Wa_swap_ct e1) (by omega) (by decide) rfl mA20 rfl rfl rfl (Nat.le_of_ble_eq_true rfl) dX8_step_75 ?_
  refine V.iload_n F dX8_step_78 rfl rfl ?_
  refine V.iconst (v := 1) F dX8_step_79 (by decide) ?_
  refine V.iadd F dX8_step_80 ?_
  obtain ⟨a3, ea3, h⟩ := nm_out h
  refine V.istore_n (L' := [some (rf φ 20 0), some (.int x1), some (.int x2), some (.int a3), none]) F dX8_step_81 rfl (by decide) rfl ea3 rfl ?_
  refine V.rload_n F dX8_step_82 rfl rfl ?_
  refine gf_RX8_9 F dX8_step_83 ?_
  refine V.iconst (v := 1) F dX8_step_86 (by decide) ?_
  refine V.isub F dX8_step_87 ?_
  obtain ⟨a4, ea4, h⟩ := nm_out h
  refine V.istore (L' := [some (rf φ 20 0), some (.int x1), some (.int x2), some (.int a3), some (.int a4)]) F dX8_step_88 (by decide) rfl ea4 rfl ?_
  refine V.msk (L' := [some (rf φ 20 0), none, none, some (.int a3), some (.int a4)]) [true, false, false, true, true] rfl ?_
  exact Wa_step_90L_ok F hd 1000 _ _ _ _ h
def Wa_step_46 (k46 : Int32 → Int32 → Mem → Option Mem) (x1 : Int32) (x2 : Int32) (μ : Mem) : Option Mem :=
  if x1 < x2 then (
    chk (inb x2 6) <|
    chk (inb x1 6) <|
    if (rd μ 21 0 (ix x2)) < (rd μ 21 0 (ix x1)) then (
      nm (x2 + (-1)) fun a5 =>
      k46 x1 a5 μ)
    else (
      Wa_step_72 x1 x2 μ))
  else (
    Wa_step_72 x1 x2 μ)
set_option maxHeartbeats 4000000 in
set_option maxRecDepth 100000 in
theorem Wa_step_46_ok {φ : Fr} {d : Nat} (F : Fx φ ΩA cX8_step RX8 5 (none)) (hd : 2 ≤ d) {k46 : Int32 → Int32 → Mem → Option Mem} (hk46 : ∀ (x1 : Int32) (x2 : Int32) (μ : Mem)  (μ' : Mem), k46 x1 x2 μ = some μ' → V φ ΩA 5 d 46 [some (rf φ 20 0), some (.int x1), some (.int x2), none, none] [] μ (none, μ')) {x1 : Int32} {x2 : Int32} {μ : Mem}  {μ' : Mem} (h : Wa_step_46 k46 x1 x2 μ = some μ') : V φ ΩA 5 d 46 [some (rf φ 20 0), some (.int x1), some (.int x2), none, none] [] μ (none, μ') := by
  unfold Wa_step_46 at h
  refine V.iload_n F dX8_step_46 rfl rfl ?_
  refine V.iload_n F dX8_step_47 rfl rfl ?_
  refine V.icmp_le (tgt := 72) F dX8_step_48 (by decide) (fun c1 => ?_) (fun c1 => ?_)
  · have h := f_out h c1
    exact Wa_step_72_ok F hd h
  · have h := t_out h c1
    refine V.rload_n F dX8_step_51 rfl rfl ?_
    refine gf_RX8_18 F dX8_step_52 ?_
    refine V.iload_n F dX8_step_55 rfl rfl ?_
    obtain ⟨c2, h⟩ := chk_out h
    refine V.iald (t0 := 0) (n := 6) F mA21 rfl rfl c2 dX8_step_56 ?_
    refine V.rload_n F dX8_step_57 rfl rfl ?_
    refine gf_RX8_18 F dX8_step_58 ?_
    refine V.iload_n F dX8_step_61 rfl rfl ?_
    obtain ⟨c3, h⟩ := chk_out h
    refine V.iald (t0 := 0) (n := 6) F mA21 rfl rfl c3 dX8_step_62 ?_
    refine V.icmp_ge (tgt := 72) F dX8_step_63 (by decide) (fun c4 => ?_) (fun c4 => ?_)
    · have h := f_out h c4
      exact Wa_step_72_ok F hd h
    · have h := t_out h c4
      obtain ⟨a5, ea5, h⟩ := nm_out h
      refine V.iinc (z := (-1)) (L' := [some (rf φ 20 0), some (.int x1), some (.int a5), none, none]) F dX8_step_66 rfl (by decide) ea5 (by decide) rfl rfl ?_
      refine V.goto (tgt := 46) F dX8_step_69 (by decide) ?_
      exact hk46 _ _ _ _ h
def Wa_step_46L : Nat → Int32 → Int32 → Mem → Option Mem
  | 0 => fun _ _ _ => none
  | n + 1 => Wa_step_46 (Wa_step_46L n)
set_option maxHeartbeats 4000000 in
set_option maxRecDepth 100000 in
theorem Wa_step_46L_ok {φ : Fr} {d : Nat} (F : Fx φ ΩA cX8_step RX8 5 (none)) (hd : 2 ≤ d) : ∀ (n : Nat) (x1 : Int32) (x2 : Int32) (μ : Mem)  (μ' : Mem), Wa_step_46L n x1 x2 μ = some μ' → V φ ΩA 5 d 46 [some (rf φ 20 0), some (.int x1), some (.int x2), none, none] [] μ (none, μ') := by
  intro n
  induction n with
  | zero => intro x1 x2 μ μ' h; cases h
  | succ n ih => intro x1 x2 μ μ' h; exact Wa_step_46_ok F hd ih h
def Wa_step_34 (x1 : Int32) (μ : Mem) : Option Mem :=
  if x1 < 0 then (
    some μ)
  else (
    nm ((rd μ 20 0 0) - 1) fun a2 =>
    Wa_step_46L 1000 x1 a2 μ)
set_option maxHeartbeats 4000000 in
set_option maxRecDepth 100000 in
theorem Wa_step_34_ok {φ : Fr} {d : Nat} (F : Fx φ ΩA cX8_step RX8 5 (none)) (hd : 2 ≤ d) {x1 : Int32} {μ : Mem}  {μ' : Mem} (h : Wa_step_34 x1 μ = some μ') : V φ ΩA 5 d 34 [some (rf φ 20 0), some (.int x1), none, none, none] [] μ (none, μ') := by
  unfold Wa_step_34 at h
  refine V.iload_n F dX8_step_34 rfl rfl ?_
  refine V.if_ge (tgt := 39) F dX8_step_35 (by decide) (fun c1 => ?_) (fun c1 => ?_)
  · have h := f_out h c1
    refine V.rload_n F dX8_step_39 rfl rfl ?_
    refine gf_RX8_9 F dX8_step_40 ?_
    refine V.iconst (v := 1) F dX8_step_43 (by decide) ?_
    refine V.isub F dX8_step_44 ?_
    obtain ⟨a2, ea2, h⟩ := nm_out h
    refine V.istore_n (L' := [some (rf φ 20 0), some (.int x1), some (.int a2), none, none]) F dX8_step_45 rfl (by decide) rfl ea2 rfl ?_
    exact Wa_step_46L_ok F hd 1000 _ _ _ _ h
  · have h := t_out h c1
    obtain rfl := r1_out h
    exact V.vret F dX8_step_38
def Wa_step_7 (k7 : Int32 → Mem → Option Mem) (x1 : Int32) (μ : Mem) : Option Mem :=
  if x1 < 0 then (
    Wa_step_34 x1 μ)
  else (
    chk (inb x1 6) <|
    chk (inb (x1 + 1) 6) <|
    if (rd μ 21 0 (ix (x1 + 1))) < (rd μ 21 0 (ix x1)) then (
      nm (x1 + (-1)) fun a5 =>
      k7 a5 μ)
    else (
      Wa_step_34 x1 μ))
set_option maxHeartbeats 4000000 in
set_option maxRecDepth 100000 in
theorem Wa_step_7_ok {φ : Fr} {d : Nat} (F : Fx φ ΩA cX8_step RX8 5 (none)) (hd : 2 ≤ d) {k7 : Int32 → Mem → Option Mem} (hk7 : ∀ (x1 : Int32) (μ : Mem)  (μ' : Mem), k7 x1 μ = some μ' → V φ ΩA 5 d 7 [some (rf φ 20 0), some (.int x1), none, none, none] [] μ (none, μ')) {x1 : Int32} {μ : Mem}  {μ' : Mem} (h : Wa_step_7 k7 x1 μ = some μ') : V φ ΩA 5 d 7 [some (rf φ 20 0), some (.int x1), none, none, none] [] μ (none, μ') := by
  unfold Wa_step_7 at h
  refine V.iload_n F dX8_step_7 rfl rfl ?_
  refine V.if_lt (tgt := 34) F dX8_step_8 (by decide) (fun c1 => ?_) (fun c1 => ?_)
  · have h := t_out h c1
    exact Wa_step_34_ok F hd h
  · have h := f_out h c1
    refine V.rload_n F dX8_step_11 rfl rfl ?_
    refine gf_RX8_18 F dX8_step_12 ?_
    refine V.iload_n F dX8_step_15 rfl rfl ?_
    obtain ⟨c2, h⟩ := chk_out h
    refine V.iald (t0 := 0) (n := 6) F mA21 rfl rfl c2 dX8_step_16 ?_
    refine V.rload_n F dX8_step_17 rfl rfl ?_
    refine gf_RX8_18 F dX8_step_18 ?_
    refine V.iload_n F dX8_step_21 rfl rfl ?_
    refine V.iconst (v := 1) F dX8_step_22 (by decide) ?_
    refine V.iadd F dX8_step_23 ?_
    obtain ⟨c3, h⟩ := chk_out h
    refine V.iald (t0 := 0) (n := 6) F mA21 rfl rfl c3 dX8_step_24 ?_
    refine V.icmp_le (tgt := 34) F dX8_step_25 (by decide) (fun c4 => ?_) (fun c4 => ?_)
    · have h := f_out h c4
      exact Wa_step_34_ok F hd h
    · have h := t_out h c4
      obtain ⟨a5, ea5, h⟩ := nm_out h
      refine V.iinc (z := (-1)) (L' := [some (rf φ 20 0), some (.int a5), none, none, none]) F dX8_step_28 rfl (by decide) ea5 (by decide) rfl rfl ?_
      refine V.goto (tgt := 7) F dX8_step_31 (by decide) ?_
      exact hk7 _ _ _ h
def Wa_step_7L : Nat → Int32 → Mem → Option Mem
  | 0 => fun _ _ => none
  | n + 1 => Wa_step_7 (Wa_step_7L n)
set_option maxHeartbeats 4000000 in
set_option maxRecDepth 100000 in
theorem Wa_step_7L_ok {φ : Fr} {d : Nat} (F : Fx φ ΩA cX8_step RX8 5 (none)) (hd : 2 ≤ d) : ∀ (n : Nat) (x1 : Int32) (μ : Mem)  (μ' : Mem), Wa_step_7L n x1 μ = some μ' → V φ ΩA 5 d 7 [some (rf φ 20 0), some (.int x1), none, none, none] [] μ (none, μ') := by
  intro n
  induction n with
  | zero => intro x1 μ μ' h; cases h
  | succ n ih => intro x1 μ μ' h; exact Wa_step_7_ok F hd ih h
def Wa_step (μ : Mem) : Option Mem :=
  nm ((rd μ 20 0 0) - 2) fun a1 =>
  Wa_step_7L 1000 a1 μ
set_option maxHeartbeats 4000000 in
set_option maxRecDepth 100000 in
theorem Wa_step_ok {φ : Fr} {d : Nat} (F : Fx φ ΩA cX8_step RX8 5 (none)) (hd : 2 ≤ d) {μ : Mem}  {μ' : Mem} (h : Wa_step μ = some μ') : V φ ΩA 5 d 0 [some (rf φ 20 0), none, none, none, none] [] μ (none, μ') := by
  unfold Wa_step at h
  refine V.rload_n F dX8_step_0 rfl rfl ?_
  refine gf_RX8_9 F dX8_step_1 ?_
  refine V.iconst (v := 2) F dX8_step_4 (by decide) ?_
  refine V.isub F dX8_step_5 ?_
  obtain ⟨a1, ea1, h⟩ := nm_out h
  refine V.istore_n (L' := [some (rf φ 20 0), some (.int a1), none, none, none]) F dX8_step_6 rfl (by decide) rfl ea1 rfl ?_
  exact Wa_step_7L_ok F hd 1000 _ _ _ h
set_option maxHeartbeats 4000000 in
set_option maxRecDepth 100000 in
theorem Wa_step_ct {l : Launch} {G : Glo} {μ : Mem}  {μ' : Mem} (h : Wa_step μ = some μ') : Ct l ΩA G 2 yX8_step cX8_step 5 (none) [.ref (G.1 20 0)] μ (none, μ') := by
  refine Ct.intro (by decide) (Nat.le_of_ble_eq_true rfl) ?_
  intro φ hl hG F
  subst hl; subst hG
  exact Wa_step_ok F (Nat.le_refl _) h
def Wa_digits_4 (k4 : Int32 → Int32 → Mem → Option Int32) (x1 : Int32) (x2 : Int32) (μ : Mem) : Option Int32 :=
  if x2 < (rd μ 20 0 0) then (
    chk (inb x2 6) <|
    nm (((10 * x1) + (rd μ 21 0 (ix x2))) + 1) fun a3 =>
    nm (x2 + 1) fun a4 =>
    k4 a3 a4 μ)
  else (
    some x1)
set_option maxHeartbeats 4000000 in
set_option maxRecDepth 100000 in
theorem Wa_digits_4_ok {φ : Fr} {d : Nat} (F : Fx φ ΩA cX8_digits RX8 3 (some .int)) (hd : 1 ≤ d) {k4 : Int32 → Int32 → Mem → Option Int32} (hk4 : ∀ (x1 : Int32) (x2 : Int32) (μ : Mem) (r : Int32), k4 x1 x2 μ = some r → V φ ΩA 3 d 4 [some (rf φ 20 0), some (.int x1), some (.int x2)] [] μ (some (.int r), μ)) {x1 : Int32} {x2 : Int32} {μ : Mem} {r : Int32} (h : Wa_digits_4 k4 x1 x2 μ = some r) : V φ ΩA 3 d 4 [some (rf φ 20 0), some (.int x1), some (.int x2)] [] μ (some (.int r), μ) := by
  unfold Wa_digits_4 at h
  refine V.iload_n F dX8_digits_4 rfl rfl ?_
  refine V.rload_n F dX8_digits_5 rfl rfl ?_
  refine gf_RX8_9 F dX8_digits_6 ?_
  refine V.icmp_ge (tgt := 32) F dX8_digits_9 (by decide) (fun c1 => ?_) (fun c1 => ?_)
  · have h := f_out h c1
    refine V.iload_n F dX8_digits_32 rfl rfl ?_
    obtain rfl := r1_out h
    exact V.iret F dX8_digits_33
  · have h := t_out h c1
    refine V.bipush (v := 10) F dX8_digits_12 (by decide) ?_
    refine V.iload_n F dX8_digits_14 rfl rfl ?_
    refine V.imul F dX8_digits_15 ?_
    refine V.rload_n F dX8_digits_16 rfl rfl ?_
    refine gf_RX8_18 F dX8_digits_17 ?_
    refine V.iload_n F dX8_digits_20 rfl rfl ?_
    obtain ⟨c2, h⟩ := chk_out h
    refine V.iald (t0 := 0) (n := 6) F mA21 rfl rfl c2 dX8_digits_21 ?_
    refine V.iadd F dX8_digits_22 ?_
    refine V.iconst (v := 1) F dX8_digits_23 (by decide) ?_
    refine V.iadd F dX8_digits_24 ?_
    obtain ⟨a3, ea3, h⟩ := nm_out h
    refine V.istore_n (L' := [some (rf φ 20 0), some (.int a3), some (.int x2)]) F dX8_digits_25 rfl (by decide) rfl ea3 rfl ?_
    obtain ⟨a4, ea4, h⟩ := nm_out h
    refine V.iinc (z := 1) (L' := [some (rf φ 20 0), some (.int a3), some (.int a4)]) F dX8_digits_26 rfl (by decide) ea4 (by decide) rfl rfl ?_
    refine V.goto (tgt := 4) F dX8_digits_29 (by decide) ?_
    exact hk4 _ _ _ _ h
def Wa_digits_4L : Nat → Int32 → Int32 → Mem → Option Int32
  | 0 => fun _ _ _ => none
  | n + 1 => Wa_digits_4 (Wa_digits_4L n)
set_option maxHeartbeats 4000000 in
set_option maxRecDepth 100000 in
theorem Wa_digits_4L_ok {φ : Fr} {d : Nat} (F : Fx φ ΩA cX8_digits RX8 3 (some .int)) (hd : 1 ≤ d) : ∀ (n : Nat) (x1 : Int32) (x2 : Int32) (μ : Mem) (r : Int32), Wa_digits_4L n x1 x2 μ = some r → V φ ΩA 3 d 4 [some (rf φ 20 0), some (.int x1), some (.int x2)] [] μ (some (.int r), μ) := by
  intro n
  induction n with
  | zero => intro x1 x2 μ r h; cases h
  | succ n ih => intro x1 x2 μ r h; exact Wa_digits_4_ok F hd ih h
def Wa_digits (μ : Mem) : Option Int32 :=
  Wa_digits_4L 1000 0 0 μ
set_option maxHeartbeats 4000000 in
set_option maxRecDepth 100000 in
theorem Wa_digits_ok {φ : Fr} {d : Nat} (F : Fx φ ΩA cX8_digits RX8 3 (some .int)) (hd : 1 ≤ d) {μ : Mem} {r : Int32} (h : Wa_digits μ = some r) : V φ ΩA 3 d 0 [some (rf φ 20 0), none, none] [] μ (some (.int r), μ) := by
  unfold Wa_digits at h
  refine V.iconst (v := 0) F dX8_digits_0 (by decide) ?_
  refine V.istore_n (L' := [some (rf φ 20 0), some (.int 0), none]) F dX8_digits_1 rfl (by decide) rfl rfl rfl ?_
  refine V.iconst (v := 0) F dX8_digits_2 (by decide) ?_
  refine V.istore_n (L' := [some (rf φ 20 0), some (.int 0), some (.int 0)]) F dX8_digits_3 rfl (by decide) rfl rfl rfl ?_
  exact Wa_digits_4L_ok F hd 1000 _ _ _ _ h
set_option maxHeartbeats 4000000 in
set_option maxRecDepth 100000 in
theorem Wa_digits_ct {l : Launch} {G : Glo} {μ : Mem} {r : Int32} (h : Wa_digits μ = some r) : Ct l ΩA G 1 yX8_digits cX8_digits 3 (some .int) [.ref (G.1 20 0)] μ (some (.int r), μ) := by
  refine Ct.intro (by decide) (Nat.le_of_ble_eq_true rfl) ?_
  intro φ hl hG F
  subst hl; subst hG
  exact Wa_digits_ok F (Nat.le_refl _) h
def Wa_isAmong_2 (k2 : Int32 → Mem → Option Int32) (x2 : Int32) (μ : Mem) : Option Int32 :=
  if x2 < (rd μ 20 0 0) then (
    chk (inb x2 6) <|
    chk (inb x2 6) <|
    if ((shr (rd μ 29 0 (ix x2)) (rd μ 21 0 (ix x2))) &&& 1) = 0 then (
      some 0)
    else (
      nm (x2 + 1) fun a5 =>
      k2 a5 μ))
  else (
    some 1)
set_option maxHeartbeats 4000000 in
set_option maxRecDepth 100000 in
theorem Wa_isAmong_2_ok {φ : Fr} {d : Nat} (F : Fx φ ΩA cX8_isAmong RX8 3 (some .boolean)) (hd : 1 ≤ d) {k2 : Int32 → Mem → Option Int32} (hk2 : ∀ (x2 : Int32) (μ : Mem) (r : Int32), k2 x2 μ = some r → V φ ΩA 3 d 2 [some (rf φ 20 0), some (rf φ 29 0), some (.int x2)] [] μ (some (.int r), μ)) {x2 : Int32} {μ : Mem} {r : Int32} (h : Wa_isAmong_2 k2 x2 μ = some r) : V φ ΩA 3 d 2 [some (rf φ 20 0), some (rf φ 29 0), some (.int x2)] [] μ (some (.int r), μ) := by
  unfold Wa_isAmong_2 at h
  refine V.iload_n F dX8_isAmong_2 rfl rfl ?_
  refine V.rload_n F dX8_isAmong_3 rfl rfl ?_
  refine gf_RX8_9 F dX8_isAmong_4 ?_
  refine V.icmp_ge (tgt := 33) F dX8_isAmong_7 (by decide) (fun c1 => ?_) (fun c1 => ?_)
  · have h := f_out h c1
    refine V.iconst (v := 1) F dX8_isAmong_33 (by decide) ?_
    obtain rfl := r1_out h
    exact V.zret F (by decide) dX8_isAmong_34
  · have h := t_out h c1
    refine V.rload_n F dX8_isAmong_10 rfl rfl ?_
    refine V.iload_n F dX8_isAmong_11 rfl rfl ?_
    obtain ⟨c2, h⟩ := chk_out h
    refine V.iald (t0 := 0) (n := 6) F mA29 rfl rfl c2 dX8_isAmong_12 ?_
    refine V.rload_n F dX8_isAmong_13 rfl rfl ?_
    refine gf_RX8_18 F dX8_isAmong_14 ?_
    refine V.iload_n F dX8_isAmong_17 rfl rfl ?_
    obtain ⟨c3, h⟩ := chk_out h
    refine V.iald (t0 := 0) (n := 6) F mA21 rfl rfl c3 dX8_isAmong_18 ?_
    refine V.ishr F dX8_isAmong_19 ?_
    refine V.iconst (v := 1) F dX8_isAmong_20 (by decide) ?_
    refine V.iand F dX8_isAmong_21 ?_
    refine V.if_ne (tgt := 27) F dX8_isAmong_22 (by decide) (fun c4 => ?_) (fun c4 => ?_)
    · have h := f_out h c4
      obtain ⟨a5, ea5, h⟩ := nm_out h
      refine V.iinc (z := 1) (L' := [some (rf φ 20 0), some (rf φ 29 0), some (.int a5)]) F dX8_isAmong_27 rfl (by decide) ea5 (by decide) rfl rfl ?_
      refine V.goto (tgt := 2) F dX8_isAmong_30 (by decide) ?_
      exact hk2 _ _ _ h
    · have h := t_out h c4
      refine V.iconst (v := 0) F dX8_isAmong_25 (by decide) ?_
      obtain rfl := r1_out h
      exact V.zret F (by decide) dX8_isAmong_26
def Wa_isAmong_2L : Nat → Int32 → Mem → Option Int32
  | 0 => fun _ _ => none
  | n + 1 => Wa_isAmong_2 (Wa_isAmong_2L n)
set_option maxHeartbeats 4000000 in
set_option maxRecDepth 100000 in
theorem Wa_isAmong_2L_ok {φ : Fr} {d : Nat} (F : Fx φ ΩA cX8_isAmong RX8 3 (some .boolean)) (hd : 1 ≤ d) : ∀ (n : Nat) (x2 : Int32) (μ : Mem) (r : Int32), Wa_isAmong_2L n x2 μ = some r → V φ ΩA 3 d 2 [some (rf φ 20 0), some (rf φ 29 0), some (.int x2)] [] μ (some (.int r), μ) := by
  intro n
  induction n with
  | zero => intro x2 μ r h; cases h
  | succ n ih => intro x2 μ r h; exact Wa_isAmong_2_ok F hd ih h
def Wa_isAmong (μ : Mem) : Option Int32 :=
  Wa_isAmong_2L 1000 0 μ
set_option maxHeartbeats 4000000 in
set_option maxRecDepth 100000 in
theorem Wa_isAmong_ok {φ : Fr} {d : Nat} (F : Fx φ ΩA cX8_isAmong RX8 3 (some .boolean)) (hd : 1 ≤ d) {μ : Mem} {r : Int32} (h : Wa_isAmong μ = some r) : V φ ΩA 3 d 0 [some (rf φ 20 0), some (rf φ 29 0), none] [] μ (some (.int r), μ) := by
  unfold Wa_isAmong at h
  refine V.iconst (v := 0) F dX8_isAmong_0 (by decide) ?_
  refine V.istore_n (L' := [some (rf φ 20 0), some (rf φ 29 0), some (.int 0)]) F dX8_isAmong_1 rfl (by decide) rfl rfl rfl ?_
  exact Wa_isAmong_2L_ok F hd 1000 _ _ _ h
set_option maxHeartbeats 4000000 in
set_option maxRecDepth 100000 in
theorem Wa_isAmong_ct {l : Launch} {G : Glo} {μ : Mem} {r : Int32} (h : Wa_isAmong μ = some r) : Ct l ΩA G 1 yX8_isAmong cX8_isAmong 3 (some .boolean) [.ref (G.1 20 0), .ref (G.1 29 0)] μ (some (.int r), μ) := by
  refine Ct.intro (by decide) (Nat.le_of_ble_eq_true rfl) ?_
  intro φ hl hG F
  subst hl; subst hG
  exact Wa_isAmong_ok F (Nat.le_refl _) h
def Wa_mark_2 (k2 : Int32 → Mem → Option Mem) (x1 : Int32) (μ : Mem) : Option Mem :=
  if x1 < (rd μ 20 0 0) then (
    chk (inb x1 6) <|
    chk (inb x1 6) <|
    nm (up μ 22 0 (ix x1) (rd μ 21 0 (ix x1))) fun μ4 =>
    nm (x1 + 1) fun a5 =>
    k2 a5 μ4)
  else (
    some μ)
set_option maxHeartbeats 4000000 in
set_option maxRecDepth 100000 in
theorem Wa_mark_2_ok {φ : Fr} {d : Nat} (F : Fx φ ΩA cX8_mark RX8 2 (none)) (hd : 1 ≤ d) {k2 : Int32 → Mem → Option Mem} (hk2 : ∀ (x1 : Int32) (μ : Mem)  (μ' : Mem), k2 x1 μ = some μ' → V φ ΩA 2 d 2 [some (rf φ 20 0), some (.int x1)] [] μ (none, μ')) {x1 : Int32} {μ : Mem}  {μ' : Mem} (h : Wa_mark_2 k2 x1 μ = some μ') : V φ ΩA 2 d 2 [some (rf φ 20 0), some (.int x1)] [] μ (none, μ') := by
  unfold Wa_mark_2 at h
  refine V.iload_n F dX8_mark_2 rfl rfl ?_
  refine V.rload_n F dX8_mark_3 rfl rfl ?_
  refine gf_RX8_9 F dX8_mark_4 ?_
  refine V.icmp_ge (tgt := 28) F dX8_mark_7 (by decide) (fun c1 => ?_) (fun c1 => ?_)
  · have h := f_out h c1
    obtain rfl := r1_out h
    exact V.vret F dX8_mark_28
  · have h := t_out h c1
    refine V.rload_n F dX8_mark_10 rfl rfl ?_
    refine gf_RX8_22 F dX8_mark_11 ?_
    refine V.iload_n F dX8_mark_14 rfl rfl ?_
    refine V.rload_n F dX8_mark_15 rfl rfl ?_
    refine gf_RX8_18 F dX8_mark_16 ?_
    refine V.iload_n F dX8_mark_19 rfl rfl ?_
    obtain ⟨c2, h⟩ := chk_out h
    refine V.iald (t0 := 0) (n := 6) F mA21 rfl rfl c2 dX8_mark_20 ?_
    obtain ⟨c3, h⟩ := chk_out h
    obtain ⟨μ4, eμ4, h⟩ := nm_out h
    refine V.iast (t0 := 0) (n := 6) F mA22 (fun _ => rfl) rfl c3 eμ4 dX8_mark_21 ?_
    obtain ⟨a5, ea5, h⟩ := nm_out h
    refine V.iinc (z := 1) (L' := [some (rf φ 20 0), some (.int a5)]) F dX8_mark_22 rfl (by decide) ea5 (by decide) rfl rfl ?_
    refine V.goto (tgt := 2) F dX8_mark_25 (by decide) ?_
    exact hk2 _ _ _ h
def Wa_mark_2L : Nat → Int32 → Mem → Option Mem
  | 0 => fun _ _ => none
  | n + 1 => Wa_mark_2 (Wa_mark_2L n)
set_option maxHeartbeats 4000000 in
set_option maxRecDepth 100000 in
theorem Wa_mark_2L_ok {φ : Fr} {d : Nat} (F : Fx φ ΩA cX8_mark RX8 2 (none)) (hd : 1 ≤ d) : ∀ (n : Nat) (x1 : Int32) (μ : Mem)  (μ' : Mem), Wa_mark_2L n x1 μ = some μ' → V φ ΩA 2 d 2 [some (rf φ 20 0), some (.int x1)] [] μ (none, μ') := by
  intro n
  induction n with
  | zero => intro x1 μ μ' h; cases h
  | succ n ih => intro x1 μ μ' h; exact Wa_mark_2_ok F hd ih h
def Wa_mark (μ : Mem) : Option Mem :=
  Wa_mark_2L 1000 0 μ
set_option maxHeartbeats 4000000 in
set_option maxRecDepth 100000 in
theorem Wa_mark_ok {φ : Fr} {d : Nat} (F : Fx φ ΩA cX8_mark RX8 2 (none)) (hd : 1 ≤ d) {μ : Mem}  {μ' : Mem} (h : Wa_mark μ = some μ') : V φ ΩA 2 d 0 [some (rf φ 20 0), none] [] μ (none, μ') := by
  unfold Wa_mark at h
  refine V.iconst (v := 0) F dX8_mark_0 (by decide) ?_
  refine V.istore_n (L' := [some (rf φ 20 0), some (.int 0)]) F dX8_mark_1 rfl (by decide) rfl rfl rfl ?_
  exact Wa_mark_2L_ok F hd 1000 _ _ _ h
set_option maxHeartbeats 4000000 in
set_option maxRecDepth 100000 in
theorem Wa_mark_ct {l : Launch} {G : Glo} {μ : Mem}  {μ' : Mem} (h : Wa_mark μ = some μ') : Ct l ΩA G 1 yX8_mark cX8_mark 2 (none) [.ref (G.1 20 0)] μ (none, μ') := by
  refine Ct.intro (by decide) (Nat.le_of_ble_eq_true rfl) ?_
  intro φ hl hG F
  subst hl; subst hG
  exact Wa_mark_ok F (Nat.le_refl _) h
def Wa_asMarked_33 (k4 : Int32 → Int32 → Mem → Option Int32) (x1 : Int32) (x2 : Int32) (μ : Mem) : Option Int32 :=
  nm (x2 + 1) fun a1 =>
  k4 x1 a1 μ
set_option maxHeartbeats 4000000 in
set_option maxRecDepth 100000 in
theorem Wa_asMarked_33_ok {φ : Fr} {d : Nat} (F : Fx φ ΩA cX8_asMarked RX8 3 (some .int)) (hd : 1 ≤ d) {k4 : Int32 → Int32 → Mem → Option Int32} (hk4 : ∀ (x1 : Int32) (x2 : Int32) (μ : Mem) (r : Int32), k4 x1 x2 μ = some r → V φ ΩA 3 d 4 [some (rf φ 20 0), some (.int x1), some (.int x2)] [] μ (some (.int r), μ)) {x1 : Int32} {x2 : Int32} {μ : Mem} {r : Int32} (h : Wa_asMarked_33 k4 x1 x2 μ = some r) : V φ ΩA 3 d 33 [some (rf φ 20 0), some (.int x1), some (.int x2)] [] μ (some (.int r), μ) := by
  unfold Wa_asMarked_33 at h
  obtain ⟨a1, ea1, h⟩ := nm_out h
  refine V.iinc (z := 1) (L' := [some (rf φ 20 0), some (.int x1), some (.int a1)]) F dX8_asMarked_33 rfl (by decide) ea1 (by decide) rfl rfl ?_
  refine V.goto (tgt := 4) F dX8_asMarked_36 (by decide) ?_
  exact hk4 _ _ _ _ h
def Wa_asMarked_4 (k4 : Int32 → Int32 → Mem → Option Int32) (x1 : Int32) (x2 : Int32) (μ : Mem) : Option Int32 :=
  if x2 < (rd μ 20 0 0) then (
    chk (inb x2 6) <|
    chk (inb x2 6) <|
    if (rd μ 21 0 (ix x2)) = (rd μ 22 0 (ix x2)) then (
      nm (x1 ||| (shl 1 x2)) fun a5 =>
      Wa_asMarked_33 k4 a5 x2 μ)
    else (
      Wa_asMarked_33 k4 x1 x2 μ))
  else (
    some x1)
set_option maxHeartbeats 4000000 in
set_option maxRecDepth 100000 in
theorem Wa_asMarked_4_ok {φ : Fr} {d : Nat} (F : Fx φ ΩA cX8_asMarked RX8 3 (some .int)) (hd : 1 ≤ d) {k4 : Int32 → Int32 → Mem → Option Int32} (hk4 : ∀ (x1 : Int32) (x2 : Int32) (μ : Mem) (r : Int32), k4 x1 x2 μ = some r → V φ ΩA 3 d 4 [some (rf φ 20 0), some (.int x1), some (.int x2)] [] μ (some (.int r), μ)) {x1 : Int32} {x2 : Int32} {μ : Mem} {r : Int32} (h : Wa_asMarked_4 k4 x1 x2 μ = some r) : V φ ΩA 3 d 4 [some (rf φ 20 0), some (.int x1), some (.int x2)] [] μ (some (.int r), μ) := by
  unfold Wa_asMarked_4 at h
  refine V.iload_n F dX8_asMarked_4 rfl rfl ?_
  refine V.rload_n F dX8_asMarked_5 rfl rfl ?_
  refine gf_RX8_9 F dX8_asMarked_6 ?_
  refine V.icmp_ge (tgt := 39) F dX8_asMarked_9 (by decide) (fun c1 => ?_) (fun c1 => ?_)
  · have h := f_out h c1
    refine V.iload_n F dX8_asMarked_39 rfl rfl ?_
    obtain rfl := r1_out h
    exact V.iret F dX8_asMarked_40
  · have h := t_out h c1
    refine V.rload_n F dX8_asMarked_12 rfl rfl ?_
    refine gf_RX8_18 F dX8_asMarked_13 ?_
    refine V.iload_n F dX8_asMarked_16 rfl rfl ?_
    obtain ⟨c2, h⟩ := chk_out h
    refine V.iald (t0 := 0) (n := 6) F mA21 rfl rfl c2 dX8_asMarked_17 ?_
    refine V.rload_n F dX8_asMarked_18 rfl rfl ?_
    refine gf_RX8_22 F dX8_asMarked_19 ?_
    refine V.iload_n F dX8_asMarked_22 rfl rfl ?_
    obtain ⟨c3, h⟩ := chk_out h
    refine V.iald (t0 := 0) (n := 6) F mA22 rfl rfl c3 dX8_asMarked_23 ?_
    refine V.icmp_ne (tgt := 33) F dX8_asMarked_24 (by decide) (fun c4 => ?_) (fun c4 => ?_)
    · have h := f_out h c4
      exact Wa_asMarked_33_ok F hd hk4 h
    · have h := t_out h c4
      refine V.iload_n F dX8_asMarked_27 rfl rfl ?_
      refine V.iconst (v := 1) F dX8_asMarked_28 (by decide) ?_
      refine V.iload_n F dX8_asMarked_29 rfl rfl ?_
      refine V.ishl F dX8_asMarked_30 ?_
      refine V.ior F dX8_asMarked_31 ?_
      obtain ⟨a5, ea5, h⟩ := nm_out h
      refine V.istore_n (L' := [some (rf φ 20 0), some (.int a5), some (.int x2)]) F dX8_asMarked_32 rfl (by decide) rfl ea5 rfl ?_
      exact Wa_asMarked_33_ok F hd hk4 h
def Wa_asMarked_4L : Nat → Int32 → Int32 → Mem → Option Int32
  | 0 => fun _ _ _ => none
  | n + 1 => Wa_asMarked_4 (Wa_asMarked_4L n)
set_option maxHeartbeats 4000000 in
set_option maxRecDepth 100000 in
theorem Wa_asMarked_4L_ok {φ : Fr} {d : Nat} (F : Fx φ ΩA cX8_asMarked RX8 3 (some .int)) (hd : 1 ≤ d) : ∀ (n : Nat) (x1 : Int32) (x2 : Int32) (μ : Mem) (r : Int32), Wa_asMarked_4L n x1 x2 μ = some r → V φ ΩA 3 d 4 [some (rf φ 20 0), some (.int x1), some (.int x2)] [] μ (some (.int r), μ) := by
  intro n
  induction n with
  | zero => intro x1 x2 μ r h; cases h
  | succ n ih => intro x1 x2 μ r h; exact Wa_asMarked_4_ok F hd ih h
def Wa_asMarked (μ : Mem) : Option Int32 :=
  Wa_asMarked_4L 1000 0 0 μ
set_option maxHeartbeats 4000000 in
set_option maxRecDepth 100000 in
theorem Wa_asMarked_ok {φ : Fr} {d : Nat} (F : Fx φ ΩA cX8_asMarked RX8 3 (some .int)) (hd : 1 ≤ d) {μ : Mem} {r : Int32} (h : Wa_asMarked μ = some r) : V φ ΩA 3 d 0 [some (rf φ 20 0), none, none] [] μ (some (.int r), μ) := by
  unfold Wa_asMarked at h
  refine V.iconst (v := 0) F dX8_asMarked_0 (by decide) ?_
  refine V.istore_n (L' := [some (rf φ 20 0), some (.int 0), none]) F dX8_asMarked_1 rfl (by decide) rfl rfl rfl ?_
  refine V.iconst (v := 0) F dX8_asMarked_2 (by decide) ?_
  refine V.istore_n (L' := [some (rf φ 20 0), some (.int 0), some (.int 0)]) F dX8_asMarked_3 rfl (by decide) rfl rfl rfl ?_
  exact Wa_asMarked_4L_ok F hd 1000 _ _ _ _ h
set_option maxHeartbeats 4000000 in
set_option maxRecDepth 100000 in
theorem Wa_asMarked_ct {l : Launch} {G : Glo} {μ : Mem} {r : Int32} (h : Wa_asMarked μ = some r) : Ct l ΩA G 1 yX8_asMarked cX8_asMarked 3 (some .int) [.ref (G.1 20 0)] μ (some (.int r), μ) := by
  refine Ct.intro (by decide) (Nat.le_of_ble_eq_true rfl) ?_
  intro φ hl hG F
  subst hl; subst hG
  exact Wa_asMarked_ok F (Nat.le_refl _) h
def S_isGroom (x1 : Int32) (μ : Mem) : Int32 :=
  if x1 < 0 then (
    0)
  else (
    if x1 < (rd μ 1 0 3) then (
      1)
    else (
      0))
set_option maxHeartbeats 4000000 in
set_option maxRecDepth 100000 in
theorem S_isGroom_ok {φ : Fr} {d : Nat} (F : Fx φ ΩA cX9_isGroom RX9 2 (some .boolean)) (hd : 1 ≤ d) {x1 : Int32} {μ : Mem} {r : Int32} (h : S_isGroom x1 μ = r) : V φ ΩA 2 d 0 [some (rf φ 0 0), some (.int x1)] [] μ (some (.int r), μ) := by
  unfold S_isGroom at h
  refine V.iload_n F dX9_isGroom_0 rfl rfl ?_
  refine V.if_lt (tgt := 19) F dX9_isGroom_1 (by decide) (fun c1 => ?_) (fun c1 => ?_)
  · have h := t_out h c1
    refine V.iconst (v := 0) F dX9_isGroom_19 (by decide) ?_
    obtain rfl := h
    exact V.zret F (by decide) dX9_isGroom_20
  · have h := f_out h c1
    refine V.iload_n F dX9_isGroom_4 rfl rfl ?_
    refine V.rload_n F dX9_isGroom_5 rfl rfl ?_
    refine gf_RX9_10 F dX9_isGroom_6 ?_
    refine gf_RX9_131 (by decide) F dX9_isGroom_9 ?_
    refine V.icmp_ge (tgt := 19) F dX9_isGroom_12 (by decide) (fun c2 => ?_) (fun c2 => ?_)
    · have h := f_out h c2
      refine V.iconst (v := 0) F dX9_isGroom_19 (by decide) ?_
      obtain rfl := h
      exact V.zret F (by decide) dX9_isGroom_20
    · have h := t_out h c2
      refine V.iconst (v := 1) F dX9_isGroom_15 (by decide) ?_
      refine V.goto (tgt := 20) F dX9_isGroom_16 (by decide) ?_
      obtain rfl := h
      exact V.zret F (by decide) dX9_isGroom_20
set_option maxHeartbeats 4000000 in
set_option maxRecDepth 100000 in
theorem S_isGroom_ct {l : Launch} {G : Glo} {x1 : Int32} {μ : Mem} {r : Int32} (h : S_isGroom x1 μ = r) : Ct l ΩA G 1 yX9_isGroom cX9_isGroom 2 (some .boolean) [.ref (G.1 0 0), .int x1] μ (some (.int r), μ) := by
  refine Ct.intro (by decide) (Nat.le_of_ble_eq_true rfl) ?_
  intro φ hl hG F
  subst hl; subst hG
  exact S_isGroom_ok F (Nat.le_refl _) h
def S_isSettable (x1 : Int32) (x2 : Int32) (μ : Mem) : Int32 :=
  if x1 = 0 then (
    1)
  else (
    if x1 = 1 then (
      1)
    else (
      if x1 < 2 then (
        0)
      else (
        if 4 < x1 then (
          0)
        else (
          nm (S_isGroom x2 μ) fun r6 =>
          if r6 = 0 then (
            0)
          else (
            1)))))
set_option maxHeartbeats 4000000 in
set_option maxRecDepth 100000 in
theorem S_isSettable_ok {φ : Fr} {d : Nat} (F : Fx φ ΩA cX9_isSettable RX9 3 (some .boolean)) (hd : 2 ≤ d) {x1 : Int32} {x2 : Int32} {μ : Mem} {r : Int32} (h : S_isSettable x1 x2 μ = r) : V φ ΩA 3 d 0 [some (rf φ 0 0), some (.int x1), some (.int x2)] [] μ (some (.int r), μ) := by
  unfold S_isSettable at h
  refine V.iload_n F dX9_isSettable_0 rfl rfl ?_
  refine V.if_eq (tgt := 27) F dX9_isSettable_1 (by decide) (fun c1 => ?_) (fun c1 => ?_)
  · have h := t_out h c1
    refine V.iconst (v := 1) F dX9_isSettable_27 (by decide) ?_
    refine V.goto (tgt := 32) F dX9_isSettable_28 (by decide) ?_
    obtain rfl := h
    exact V.zret F (by decide) dX9_isSettable_32
  · have h := f_out h c1
    refine V.iload_n F dX9_isSettable_4 rfl rfl ?_
    refine V.iconst (v := 1) F dX9_isSettable_5 (by decide) ?_
    refine V.icmp_eq (tgt := 27) F dX9_isSettable_6 (by decide) (fun c2 => ?_) (fun c2 => ?_)
    · have h := t_out h c2
      refine V.iconst (v := 1) F dX9_isSettable_27 (by decide) ?_
      refine V.goto (tgt := 32) F dX9_isSettable_28 (by decide) ?_
      obtain rfl := h
      exact V.zret F (by decide) dX9_isSettable_32
    · have h := f_out h c2
      refine V.iload_n F dX9_isSettable_9 rfl rfl ?_
      refine V.iconst (v := 2) F dX9_isSettable_10 (by decide) ?_
      refine V.icmp_lt (tgt := 31) F dX9_isSettable_11 (by decide) (fun c3 => ?_) (fun c3 => ?_)
      · have h := t_out h c3
        refine V.iconst (v := 0) F dX9_isSettable_31 (by decide) ?_
        obtain rfl := h
        exact V.zret F (by decide) dX9_isSettable_32
      · have h := f_out h c3
        refine V.iload_n F dX9_isSettable_14 rfl rfl ?_
        refine V.iconst (v := 4) F dX9_isSettable_15 (by decide) ?_
        refine V.icmp_gt (tgt := 31) F dX9_isSettable_16 (by decide) (fun c4 => ?_) (fun c4 => ?_)
        · have h := t_out h c4
          refine V.iconst (v := 0) F dX9_isSettable_31 (by decide) ?_
          obtain rfl := h
          exact V.zret F (by decide) dX9_isSettable_32
        · have h := f_out h c4
          refine V.rload_n F dX9_isSettable_19 rfl rfl ?_
          refine V.iload_n F dX9_isSettable_20 rfl rfl ?_
          obtain ⟨r6, e5, h⟩ := nm_out h
          refine V.callVi (f := 0) (i := 0) (As := [.int x2]) F ck_RX9_140 (S_isGroom_ct e5) (by omega) (by decide) rfl mA0 rfl rfl rfl (Nat.le_of_ble_eq_true rfl) dX9_isSettable_21 ?_
          refine V.if_eq (tgt := 31) F dX9_isSettable_24 (by decide) (fun c7 => ?_) (fun c7 => ?_)
          · have h := t_out h c7
            refine V.iconst (v := 0) F dX9_isSettable_31 (by decide) ?_
            obtain rfl := h
            exact V.zret F (by decide) dX9_isSettable_32
          · have h := f_out h c7
            refine V.iconst (v := 1) F dX9_isSettable_27 (by decide) ?_
            refine V.goto (tgt := 32) F dX9_isSettable_28 (by decide) ?_
            obtain rfl := h
            exact V.zret F (by decide) dX9_isSettable_32
set_option maxHeartbeats 4000000 in
set_option maxRecDepth 100000 in
theorem S_isSettable_ct {l : Launch} {G : Glo} {x1 : Int32} {x2 : Int32} {μ : Mem} {r : Int32} (h : S_isSettable x1 x2 μ = r) : Ct l ΩA G 2 yX9_isSettable cX9_isSettable 3 (some .boolean) [.ref (G.1 0 0), .int x1, .int x2] μ (some (.int r), μ) := by
  refine Ct.intro (by decide) (Nat.le_of_ble_eq_true rfl) ?_
  intro φ hl hG F
  subst hl; subst hG
  exact S_isSettable_ok F (Nat.le_refl _) h
def S_lastOf (x0 : Int32) : Int32 :=
  if x0 = 0 then (
    999)
  else (
  if x0 = 2 then (
    9)
  else (
  if x0 = 3 then (
    15)
  else (
    99)))
set_option maxHeartbeats 4000000 in
set_option maxRecDepth 100000 in
theorem S_lastOf_ok {φ : Fr} {d : Nat} (F : Fx φ ΩA cX9_lastOf RX9 1 (some .int)) (hd : 1 ≤ d) {x0 : Int32} {μ : Mem} {r : Int32} (h : S_lastOf x0 = r) : V φ ΩA 1 d 0 [some (.int x0)] [] μ (some (.int r), μ) := by
  unfold S_lastOf at h
  refine V.iload_n F dX9_lastOf_0 rfl rfl ?_
  by_cases c1 : x0 = 0
  · have h := t_out h c1
    refine V.tabK (tgt := 32) (v := 0) F dX9_lastOf_1 (by rw [c1]; decide) (by decide) (by decide) rfl (by decide) ?_
    refine V.sipush (v := 999) F dX9_lastOf_32 (by decide) ?_
    obtain rfl := h
    exact V.iret F dX9_lastOf_35
  have h := f_out h c1
  by_cases c2 : x0 = 2
  · have h := t_out h c2
    refine V.tabK (tgt := 36) (v := 2) F dX9_lastOf_1 (by rw [c2]; decide) (by decide) (by decide) rfl (by decide) ?_
    refine V.bipush (v := 9) F dX9_lastOf_36 (by decide) ?_
    obtain rfl := h
    exact V.iret F dX9_lastOf_38
  have h := f_out h c2
  by_cases c3 : x0 = 3
  · have h := t_out h c3
    refine V.tabK (tgt := 39) (v := 3) F dX9_lastOf_1 (by rw [c3]; decide) (by decide) (by decide) rfl (by decide) ?_
    refine V.bipush (v := 15) F dX9_lastOf_39 (by decide) ?_
    obtain rfl := h
    exact V.iret F dX9_lastOf_41
  have h := f_out h c3
  have K4 : V φ ΩA 1 d 42 [some (.int x0)] [] μ (some (.int r), μ) := by
    refine V.bipush (v := 99) F dX9_lastOf_42 (by decide) ?_
    obtain rfl := h
    exact V.iret F dX9_lastOf_44
  by_cases c5 : x0 = 1
  · exact V.tabK (tgt := 42) (v := 1) F dX9_lastOf_1 (by rw [c5]; decide) (by decide) (by decide) rfl (by decide) K4
  exact V.tabOut (tgt := 42) F dX9_lastOf_1 (by have := lv_neT c1 (a := 0) (by decide); have := lv_neT c2 (a := 2) (by decide); have := lv_neT c3 (a := 3) (by decide); have := lv_neT c5 (a := 1) (by decide); omega) (by decide) K4
set_option maxHeartbeats 4000000 in
set_option maxRecDepth 100000 in
theorem S_lastOf_ct {l : Launch} {G : Glo} {x0 : Int32} {μ : Mem} {r : Int32} (h : S_lastOf x0 = r) : Ct l ΩA G 1 yX9_lastOf cX9_lastOf 1 (some .int) [.int x0] μ (some (.int r), μ) := by
  refine Ct.intro (by decide) (Nat.le_of_ble_eq_true rfl) ?_
  intro φ hl hG F
  subst hl; subst hG
  exact S_lastOf_ok F (Nat.le_refl _) h
def S_settable (x1 : Int32) (x2 : Int32) (μ : Mem) : Option Int32 :=
  if x1 = 0 then (
    some (rd μ 1 0 0))
  else (
  if x1 = 1 then (
    some (rd μ 1 0 1))
  else (
  if x1 = 2 then (
    chk (inb x2 6) <|
    some (rd μ 2 (ix x2) 1))
  else (
  if x1 = 3 then (
    chk (inb x2 6) <|
    some (rd μ 2 (ix x2) 2))
  else (
    chk (inb x2 6) <|
    some (rd μ 2 (ix x2) 3)))))
set_option maxHeartbeats 4000000 in
set_option maxRecDepth 100000 in
theorem S_settable_ok {φ : Fr} {d : Nat} (F : Fx φ ΩA cX9_settable RX9 3 (some .int)) (hd : 1 ≤ d) {x1 : Int32} {x2 : Int32} {μ : Mem} {r : Int32} (h : S_settable x1 x2 μ = some r) : V φ ΩA 3 d 0 [some (rf φ 0 0), some (.int x1), some (.int x2)] [] μ (some (.int r), μ) := by
  unfold S_settable at h
  refine V.iload_n F dX9_settable_0 rfl rfl ?_
  by_cases c1 : x1 = 0
  · have h := t_out h c1
    refine V.tabK (tgt := 32) (v := 0) F dX9_settable_1 (by rw [c1]; decide) (by decide) (by decide) rfl (by decide) ?_
    refine V.rload_n F dX9_settable_32 rfl rfl ?_
    refine gf_RX9_10 F dX9_settable_33 ?_
    refine gf_RX9_106 (by decide) F dX9_settable_36 ?_
    obtain rfl := r1_out h
    exact V.iret F dX9_settable_39
  have h := f_out h c1
  by_cases c2 : x1 = 1
  · have h := t_out h c2
    refine V.tabK (tgt := 40) (v := 1) F dX9_settable_1 (by rw [c2]; decide) (by decide) (by decide) rfl (by decide) ?_
    refine V.rload_n F dX9_settable_40 rfl rfl ?_
    refine gf_RX9_10 F dX9_settable_41 ?_
    refine gf_RX9_109 (by decide) F dX9_settable_44 ?_
    obtain rfl := r1_out h
    exact V.iret F dX9_settable_47
  have h := f_out h c2
  by_cases c3 : x1 = 2
  · have h := t_out h c3
    refine V.tabK (tgt := 48) (v := 2) F dX9_settable_1 (by rw [c3]; decide) (by decide) (by decide) rfl (by decide) ?_
    refine V.rload_n F dX9_settable_48 rfl rfl ?_
    refine gf_RX9_10 F dX9_settable_49 ?_
    refine gf_RX9_112 (by decide) F dX9_settable_52 ?_
    refine V.iload_n F dX9_settable_55 rfl rfl ?_
    obtain ⟨c4, h⟩ := chk_out h
    refine V.aald (t0 := 2) (n := 6) 2 (ix x2) F (mA3 (by decide)) rfl rfl c4 rfl dX9_settable_56 ?_
    refine gf_RX9_116 (Nat.lt_of_lt_of_le (inb_lt c4) (by decide)) F dX9_settable_57 ?_
    obtain rfl := r1_out h
    exact V.iret F dX9_settable_60
  have h := f_out h c3
  by_cases c5 : x1 = 3
  · have h := t_out h c5
    refine V.tabK (tgt := 61) (v := 3) F dX9_settable_1 (by rw [c5]; decide) (by decide) (by decide) rfl (by decide) ?_
    refine V.rload_n F dX9_settable_61 rfl rfl ?_
    refine gf_RX9_10 F dX9_settable_62 ?_
    refine gf_RX9_112 (by decide) F dX9_settable_65 ?_
    refine V.iload_n F dX9_settable_68 rfl rfl ?_
    obtain ⟨c6, h⟩ := chk_out h
    refine V.aald (t0 := 2) (n := 6) 2 (ix x2) F (mA3 (by decide)) rfl rfl c6 rfl dX9_settable_69 ?_
    refine gf_RX9_121 (Nat.lt_of_lt_of_le (inb_lt c6) (by decide)) F dX9_settable_70 ?_
    obtain rfl := r1_out h
    exact V.iret F dX9_settable_73
  have h := f_out h c5
  have K7 : V φ ΩA 3 d 74 [some (rf φ 0 0), some (.int x1), some (.int x2)] [] μ (some (.int r), μ) := by
    refine V.rload_n F dX9_settable_74 rfl rfl ?_
    refine gf_RX9_10 F dX9_settable_75 ?_
    refine gf_RX9_112 (by decide) F dX9_settable_78 ?_
    refine V.iload_n F dX9_settable_81 rfl rfl ?_
    obtain ⟨c8, h⟩ := chk_out h
    refine V.aald (t0 := 2) (n := 6) 2 (ix x2) F (mA3 (by decide)) rfl rfl c8 rfl dX9_settable_82 ?_
    refine gf_RX9_124 (Nat.lt_of_lt_of_le (inb_lt c8) (by decide)) F dX9_settable_83 ?_
    obtain rfl := r1_out h
    exact V.iret F dX9_settable_86
  exact V.tabOut (tgt := 74) F dX9_settable_1 (by have := lv_neT c1 (a := 0) (by decide); have := lv_neT c2 (a := 1) (by decide); have := lv_neT c3 (a := 2) (by decide); have := lv_neT c5 (a := 3) (by decide); omega) (by decide) K7
set_option maxHeartbeats 4000000 in
set_option maxRecDepth 100000 in
theorem S_settable_ct {l : Launch} {G : Glo} {x1 : Int32} {x2 : Int32} {μ : Mem} {r : Int32} (h : S_settable x1 x2 μ = some r) : Ct l ΩA G 1 yX9_settable cX9_settable 3 (some .int) [.ref (G.1 0 0), .int x1, .int x2] μ (some (.int r), μ) := by
  refine Ct.intro (by decide) (Nat.le_of_ble_eq_true rfl) ?_
  intro φ hl hG F
  subst hl; subst hG
  exact S_settable_ok F (Nat.le_refl _) h
def S_set (x1 : Int32) (x2 : Int32) (x3 : Int32) (μ : Mem) : Option (Int32 × Mem) :=
  nm (S_isSettable x1 x2 μ) fun r2 =>
  if r2 = 0 then (
    some ((-2), μ))
  else (
    if x3 < 0 then (
      some ((-2), μ))
    else (
      nm (S_lastOf x1) fun r6 =>
      if r6 < x3 then (
        some ((-2), μ))
      else (
        bnd (S_settable x1 x2 μ) fun r9 =>
        if x1 = 0 then (
          nm (up μ 1 0 0 x3) fun μ11 =>
          some (r9, μ11))
        else (
        if x1 = 1 then (
          nm (up μ 1 0 1 x3) fun μ13 =>
          some (r9, μ13))
        else (
        if x1 = 2 then (
          chk (inb x2 6) <|
          nm (up μ 2 (ix x2) 1 x3) fun μ16 =>
          some (r9, μ16))
        else (
        if x1 = 3 then (
          chk (inb x2 6) <|
          nm (up μ 2 (ix x2) 2 x3) fun μ19 =>
          some (r9, μ19))
        else (
          chk (inb x2 6) <|
          nm (up μ 2 (ix x2) 3 x3) fun μ22 =>
          some (r9, μ22))))))))
set_option maxHeartbeats 4000000 in
set_option maxRecDepth 100000 in
theorem S_set_ok {φ : Fr} {d : Nat} (F : Fx φ ΩA cX9_set RX9 5 (some .int)) (hd : 3 ≤ d) {x1 : Int32} {x2 : Int32} {x3 : Int32} {μ : Mem} {r : Int32} {μ' : Mem} (h : S_set x1 x2 x3 μ = some (r, μ')) : V φ ΩA 5 d 0 [some (rf φ 0 0), some (.int x1), some (.int x2), some (.int x3), none] [] μ (some (.int r), μ') := by
  unfold S_set at h
  refine V.rload_n F dX9_set_0 rfl rfl ?_
  refine V.iload_n F dX9_set_1 rfl rfl ?_
  refine V.iload_n F dX9_set_2 rfl rfl ?_
  obtain ⟨r2, e1, h⟩ := nm_out h
  refine V.callVi (f := 0) (i := 0) (As := [.int x1, .int x2]) F ck_RX9_94 (S_isSettable_ct e1) (by omega) (by decide) rfl mA0 rfl rfl rfl (Nat.le_of_ble_eq_true rfl) dX9_set_3 ?_
  refine V.if_eq (tgt := 21) F dX9_set_6 (by decide) (fun c3 => ?_) (fun c3 => ?_)
  · have h := t_out h c3
    refine V.bipush (v := (-2)) F dX9_set_21 (by decide) ?_
    obtain ⟨rfl, rfl⟩ := r2_out h
    exact V.iret F dX9_set_23
  · have h := f_out h c3
    refine V.iload_n F dX9_set_9 rfl rfl ?_
    refine V.if_lt (tgt := 21) F dX9_set_10 (by decide) (fun c4 => ?_) (fun c4 => ?_)
    · have h := t_out h c4
      refine V.bipush (v := (-2)) F dX9_set_21 (by decide) ?_
      obtain ⟨rfl, rfl⟩ := r2_out h
      exact V.iret F dX9_set_23
    · have h := f_out h c4
      refine V.iload_n F dX9_set_13 rfl rfl ?_
      refine V.iload_n F dX9_set_14 rfl rfl ?_
      obtain ⟨r6, e5, h⟩ := nm_out h
      refine V.callSi (As := [.int x1]) F ck_RX9_98 (S_lastOf_ct e5) (by omega) (by decide) rfl rfl (Nat.le_of_ble_eq_true rfl) dX9_set_15 ?_
      refine V.icmp_le (tgt := 24) F dX9_set_18 (by decide) (fun c7 => ?_) (fun c7 => ?_)
      · have h := f_out h c7
        refine V.rload_n F dX9_set_24 rfl rfl ?_
        refine V.iload_n F dX9_set_25 rfl rfl ?_
        refine V.iload_n F dX9_set_26 rfl rfl ?_
        obtain ⟨r9, e8, h⟩ := bnd_out h
        refine V.callVi (f := 0) (i := 0) (As := [.int x1, .int x2]) F ck_RX9_102 (S_settable_ct e8) (by omega) (by decide) rfl mA0 rfl rfl rfl (Nat.le_of_ble_eq_true rfl) dX9_set_27 ?_
        refine V.istore (L' := [some (rf φ 0 0), some (.int x1), some (.int x2), some (.int x3), some (.int r9)]) F dX9_set_30 (by decide) rfl rfl rfl ?_
        refine V.iload_n F dX9_set_32 rfl rfl ?_
        by_cases c10 : x1 = 0
        · have h := t_out h c10
          refine V.tabK (tgt := 64) (v := 0) F dX9_set_33 (by rw [c10]; decide) (by decide) (by decide) rfl (by decide) ?_
          refine V.rload_n F dX9_set_64 rfl rfl ?_
          refine gf_RX9_10 F dX9_set_65 ?_
          refine V.iload_n F dX9_set_68 rfl rfl ?_
          obtain ⟨μ11, eμ11, h⟩ := nm_out h
          refine pf_RX9_106 (by decide) F eμ11 dX9_set_69 ?_
          refine V.goto (tgt := 131) F dX9_set_72 (by decide) ?_
          refine V.iload F dX9_set_131 rfl ?_
          obtain ⟨rfl, rfl⟩ := r2_out h
          exact V.iret F dX9_set_133
        have h := f_out h c10
        by_cases c12 : x1 = 1
        · have h := t_out h c12
          refine V.tabK (tgt := 75) (v := 1) F dX9_set_33 (by rw [c12]; decide) (by decide) (by decide) rfl (by decide) ?_
          refine V.rload_n F dX9_set_75 rfl rfl ?_
          refine gf_RX9_10 F dX9_set_76 ?_
          refine V.iload_n F dX9_set_79 rfl rfl ?_
          obtain ⟨μ13, eμ13, h⟩ := nm_out h
          refine pf_RX9_109 (by decide) F eμ13 dX9_set_80 ?_
          refine V.goto (tgt := 131) F dX9_set_83 (by decide) ?_
          refine V.iload F dX9_set_131 rfl ?_
          obtain ⟨rfl, rfl⟩ := r2_out h
          exact V.iret F dX9_set_133
        have h := f_out h c12
        by_cases c14 : x1 = 2
        · have h := t_out h c14
          refine V.tabK (tgt := 86) (v := 2) F dX9_set_33 (by rw [c14]; decide) (by decide) (by decide) rfl (by decide) ?_
          refine V.rload_n F dX9_set_86 rfl rfl ?_
          refine gf_RX9_10 F dX9_set_87 ?_
          refine gf_RX9_112 (by decide) F dX9_set_90 ?_
          refine V.iload_n F dX9_set_93 rfl rfl ?_
          obtain ⟨c15, h⟩ := chk_out h
          refine V.aald (t0 := 2) (n := 6) 2 (ix x2) F (mA3 (by decide)) rfl rfl c15 rfl dX9_set_94 ?_
          refine V.iload_n F dX9_set_95 rfl rfl ?_
          obtain ⟨μ16, eμ16, h⟩ := nm_out h
          refine pf_RX9_116 (Nat.lt_of_lt_of_le (inb_lt c15) (by decide)) F eμ16 dX9_set_96 ?_
          refine V.goto (tgt := 131) F dX9_set_99 (by decide) ?_
          refine V.iload F dX9_set_131 rfl ?_
          obtain ⟨rfl, rfl⟩ := r2_out h
          exact V.iret F dX9_set_133
        have h := f_out h c14
        by_cases c17 : x1 = 3
        · have h := t_out h c17
          refine V.tabK (tgt := 102) (v := 3) F dX9_set_33 (by rw [c17]; decide) (by decide) (by decide) rfl (by decide) ?_
          refine V.rload_n F dX9_set_102 rfl rfl ?_
          refine gf_RX9_10 F dX9_set_103 ?_
          refine gf_RX9_112 (by decide) F dX9_set_106 ?_
          refine V.iload_n F dX9_set_109 rfl rfl ?_
          obtain ⟨c18, h⟩ := chk_out h
          refine V.aald (t0 := 2) (n := 6) 2 (ix x2) F (mA3 (by decide)) rfl rfl c18 rfl dX9_set_110 ?_
          refine V.iload_n F dX9_set_111 rfl rfl ?_
          obtain ⟨μ19, eμ19, h⟩ := nm_out h
          refine pf_RX9_121 (Nat.lt_of_lt_of_le (inb_lt c18) (by decide)) F eμ19 dX9_set_112 ?_
          refine V.goto (tgt := 131) F dX9_set_115 (by decide) ?_
          refine V.iload F dX9_set_131 rfl ?_
          obtain ⟨rfl, rfl⟩ := r2_out h
          exact V.iret F dX9_set_133
        have h := f_out h c17
        have K20 : V φ ΩA 5 d 118 [some (rf φ 0 0), some (.int x1), some (.int x2), some (.int x3), some (.int r9)] [] μ (some (.int r), μ') := by
          refine V.rload_n F dX9_set_118 rfl rfl ?_
          refine gf_RX9_10 F dX9_set_119 ?_
          refine gf_RX9_112 (by decide) F dX9_set_122 ?_
          refine V.iload_n F dX9_set_125 rfl rfl ?_
          obtain ⟨c21, h⟩ := chk_out h
          refine V.aald (t0 := 2) (n := 6) 2 (ix x2) F (mA3 (by decide)) rfl rfl c21 rfl dX9_set_126 ?_
          refine V.iload_n F dX9_set_127 rfl rfl ?_
          obtain ⟨μ22, eμ22, h⟩ := nm_out h
          refine pf_RX9_124 (Nat.lt_of_lt_of_le (inb_lt c21) (by decide)) F eμ22 dX9_set_128 ?_
          refine V.iload F dX9_set_131 rfl ?_
          obtain ⟨rfl, rfl⟩ := r2_out h
          exact V.iret F dX9_set_133
        exact V.tabOut (tgt := 118) F dX9_set_33 (by have := lv_neT c10 (a := 0) (by decide); have := lv_neT c12 (a := 1) (by decide); have := lv_neT c14 (a := 2) (by decide); have := lv_neT c17 (a := 3) (by decide); omega) (by decide) K20
      · have h := t_out h c7
        refine V.bipush (v := (-2)) F dX9_set_21 (by decide) ?_
        obtain ⟨rfl, rfl⟩ := r2_out h
        exact V.iret F dX9_set_23
set_option maxHeartbeats 4000000 in
set_option maxRecDepth 100000 in
theorem S_set_ct {l : Launch} {G : Glo} {x1 : Int32} {x2 : Int32} {x3 : Int32} {μ : Mem} {r : Int32} {μ' : Mem} (h : S_set x1 x2 x3 μ = some (r, μ')) : Ct l ΩA G 3 yX9_set cX9_set 5 (some .int) [.ref (G.1 0 0), .int x1, .int x2, .int x3] μ (some (.int r), μ') := by
  refine Ct.intro (by decide) (Nat.le_of_ble_eq_true rfl) ?_
  intro φ hl hG F
  subst hl; subst hG
  exact S_set_ok F (Nat.le_refl _) h
def S_isKind (x0 : Int32) : Int32 :=
  if x0 < 0 then (
    0)
  else (
    if x0 < 6 then (
      1)
    else (
      0))
set_option maxHeartbeats 4000000 in
set_option maxRecDepth 100000 in
theorem S_isKind_ok {φ : Fr} {d : Nat} (F : Fx φ ΩA cX9_isKind RX9 1 (some .boolean)) (hd : 1 ≤ d) {x0 : Int32} {μ : Mem} {r : Int32} (h : S_isKind x0 = r) : V φ ΩA 1 d 0 [some (.int x0)] [] μ (some (.int r), μ) := by
  unfold S_isKind at h
  refine V.iload_n F dX9_isKind_0 rfl rfl ?_
  refine V.if_lt (tgt := 14) F dX9_isKind_1 (by decide) (fun c1 => ?_) (fun c1 => ?_)
  · have h := t_out h c1
    refine V.iconst (v := 0) F dX9_isKind_14 (by decide) ?_
    obtain rfl := h
    exact V.zret F (by decide) dX9_isKind_15
  · have h := f_out h c1
    refine V.iload_n F dX9_isKind_4 rfl rfl ?_
    refine V.bipush (v := 6) F dX9_isKind_5 (by decide) ?_
    refine V.icmp_ge (tgt := 14) F dX9_isKind_7 (by decide) (fun c2 => ?_) (fun c2 => ?_)
    · have h := f_out h c2
      refine V.iconst (v := 0) F dX9_isKind_14 (by decide) ?_
      obtain rfl := h
      exact V.zret F (by decide) dX9_isKind_15
    · have h := t_out h c2
      refine V.iconst (v := 1) F dX9_isKind_10 (by decide) ?_
      refine V.goto (tgt := 15) F dX9_isKind_11 (by decide) ?_
      obtain rfl := h
      exact V.zret F (by decide) dX9_isKind_15
set_option maxHeartbeats 4000000 in
set_option maxRecDepth 100000 in
theorem S_isKind_ct {l : Launch} {G : Glo} {x0 : Int32} {μ : Mem} {r : Int32} (h : S_isKind x0 = r) : Ct l ΩA G 1 yX9_isKind cX9_isKind 1 (some .boolean) [.int x0] μ (some (.int r), μ) := by
  refine Ct.intro (by decide) (Nat.le_of_ble_eq_true rfl) ?_
  intro φ hl hG F
  subst hl; subst hG
  exact S_isKind_ok F (Nat.le_refl _) h
def S_groom (x1 : Int32) (x2 : Int32) (x3 : Int32) (μ : Mem) : Option (Int32 × Mem) :=
  nm (S_isKind x1) fun r2 =>
  if r2 = 0 then (
    some ((-2), μ))
  else (
    if x2 < 0 then (
      some ((-2), μ))
    else (
      if 9 < x2 then (
        some ((-2), μ))
      else (
        if x3 < 0 then (
          some ((-2), μ))
        else (
          if 15 < x3 then (
            some ((-2), μ))
          else (
            if (rd μ 1 0 3) < 6 then (
              chk (inb (rd μ 1 0 3) 6) <|
              nm (up μ 2 (ix (rd μ 1 0 3)) 0 x1) fun μ10 =>
              nm (up μ10 2 (ix (rd μ 1 0 3)) 1 x2) fun μ11 =>
              nm (up μ11 2 (ix (rd μ 1 0 3)) 2 x3) fun μ12 =>
              nm (up μ12 2 (ix (rd μ 1 0 3)) 3 20) fun μ13 =>
              nm (up μ13 2 (ix (rd μ 1 0 3)) 4 (rd μ13 1 0 3)) fun μ14 =>
              nm (up μ14 1 0 3 ((rd μ14 1 0 3) + 1)) fun μ15 =>
              some ((rd μ15 1 0 3) - 1, μ15))
            else (
              some ((-4), μ)))))))
set_option maxHeartbeats 4000000 in
set_option maxRecDepth 100000 in
theorem S_groom_ok {φ : Fr} {d : Nat} (F : Fx φ ΩA cX9_groom RX9 5 (some .int)) (hd : 2 ≤ d) {x1 : Int32} {x2 : Int32} {x3 : Int32} {μ : Mem} {r : Int32} {μ' : Mem} (h : S_groom x1 x2 x3 μ = some (r, μ')) : V φ ΩA 5 d 0 [some (rf φ 0 0), some (.int x1), some (.int x2), some (.int x3), none] [] μ (some (.int r), μ') := by
  unfold S_groom at h
  refine V.iload_n F dX9_groom_0 rfl rfl ?_
  obtain ⟨r2, e1, h⟩ := nm_out h
  refine V.callSi (As := [.int x1]) F ck_RX9_127 (S_isKind_ct e1) (by omega) (by decide) rfl rfl (Nat.le_of_ble_eq_true rfl) dX9_groom_1 ?_
  refine V.if_eq (tgt := 27) F dX9_groom_4 (by decide) (fun c3 => ?_) (fun c3 => ?_)
  · have h := t_out h c3
    refine V.bipush (v := (-2)) F dX9_groom_27 (by decide) ?_
    obtain ⟨rfl, rfl⟩ := r2_out h
    exact V.iret F dX9_groom_29
  · have h := f_out h c3
    refine V.iload_n F dX9_groom_7 rfl rfl ?_
    refine V.if_lt (tgt := 27) F dX9_groom_8 (by decide) (fun c4 => ?_) (fun c4 => ?_)
    · have h := t_out h c4
      refine V.bipush (v := (-2)) F dX9_groom_27 (by decide) ?_
      obtain ⟨rfl, rfl⟩ := r2_out h
      exact V.iret F dX9_groom_29
    · have h := f_out h c4
      refine V.iload_n F dX9_groom_11 rfl rfl ?_
      refine V.bipush (v := 9) F dX9_groom_12 (by decide) ?_
      refine V.icmp_gt (tgt := 27) F dX9_groom_14 (by decide) (fun c5 => ?_) (fun c5 => ?_)
      · have h := t_out h c5
        refine V.bipush (v := (-2)) F dX9_groom_27 (by decide) ?_
        obtain ⟨rfl, rfl⟩ := r2_out h
        exact V.iret F dX9_groom_29
      · have h := f_out h c5
        refine V.iload_n F dX9_groom_17 rfl rfl ?_
        refine V.if_lt (tgt := 27) F dX9_groom_18 (by decide) (fun c6 => ?_) (fun c6 => ?_)
        · have h := t_out h c6
          refine V.bipush (v := (-2)) F dX9_groom_27 (by decide) ?_
          obtain ⟨rfl, rfl⟩ := r2_out h
          exact V.iret F dX9_groom_29
        · have h := f_out h c6
          refine V.iload_n F dX9_groom_21 rfl rfl ?_
          refine V.bipush (v := 15) F dX9_groom_22 (by decide) ?_
          refine V.icmp_le (tgt := 30) F dX9_groom_24 (by decide) (fun c7 => ?_) (fun c7 => ?_)
          · have h := f_out h c7
            refine V.rload_n F dX9_groom_30 rfl rfl ?_
            refine gf_RX9_10 F dX9_groom_31 ?_
            refine gf_RX9_131 (by decide) F dX9_groom_34 ?_
            refine V.bipush (v := 6) F dX9_groom_37 (by decide) ?_
            refine V.icmp_lt (tgt := 45) F dX9_groom_39 (by decide) (fun c8 => ?_) (fun c8 => ?_)
            · have h := t_out h c8
              refine V.rload_n F dX9_groom_45 rfl rfl ?_
              refine gf_RX9_10 F dX9_groom_46 ?_
              refine gf_RX9_112 (by decide) F dX9_groom_49 ?_
              refine V.rload_n F dX9_groom_52 rfl rfl ?_
              refine gf_RX9_10 F dX9_groom_53 ?_
              refine gf_RX9_131 (by decide) F dX9_groom_56 ?_
              obtain ⟨c9, h⟩ := chk_out h
              refine V.aald (t0 := 2) (n := 6) 2 (ix (rd μ 1 0 3)) F (mA3 (by decide)) rfl rfl c9 rfl dX9_groom_59 ?_
              refine V.rstore (L' := [some (rf φ 0 0), some (.int x1), some (.int x2), some (.int x3), some (rf φ 2 (ix (rd μ 1 0 3)))]) F dX9_groom_60 (by decide) rfl rfl ?_
              refine V.rload F dX9_groom_62 rfl ?_
              refine V.iload_n F dX9_groom_64 rfl rfl ?_
              obtain ⟨μ10, eμ10, h⟩ := nm_out h
              refine pf_RX9_134 (Nat.lt_of_lt_of_le (inb_lt c9) (by decide)) F eμ10 dX9_groom_65 ?_
              refine V.rload F dX9_groom_68 rfl ?_
              refine V.iload_n F dX9_groom_70 rfl rfl ?_
              obtain ⟨μ11, eμ11, h⟩ := nm_out h
              refine pf_RX9_116 (Nat.lt_of_lt_of_le (inb_lt c9) (by decide)) F eμ11 dX9_groom_71 ?_
              refine V.rload F dX9_groom_74 rfl ?_
              refine V.iload_n F dX9_groom_76 rfl rfl ?_
              obtain ⟨μ12, eμ12, h⟩ := nm_out h
              refine pf_RX9_121 (Nat.lt_of_lt_of_le (inb_lt c9) (by decide)) F eμ12 dX9_groom_77 ?_
              refine V.rload F dX9_groom_80 rfl ?_
              refine V.bipush (v := 20) F dX9_groom_82 (by decide) ?_
              obtain ⟨μ13, eμ13, h⟩ := nm_out h
              refine pf_RX9_124 (Nat.lt_of_lt_of_le (inb_lt c9) (by decide)) F eμ13 dX9_groom_84 ?_
              refine V.rload F dX9_groom_87 rfl ?_
              refine V.rload_n F dX9_groom_89 rfl rfl ?_
              refine gf_RX9_10 F dX9_groom_90 ?_
              refine gf_RX9_131 (by decide) F dX9_groom_93 ?_
              obtain ⟨μ14, eμ14, h⟩ := nm_out h
              refine pf_RX9_137 (Nat.lt_of_lt_of_le (inb_lt c9) (by decide)) F eμ14 dX9_groom_96 ?_
              refine V.rload_n F dX9_groom_99 rfl rfl ?_
              refine gf_RX9_10 F dX9_groom_100 ?_
              refine V.dup F dX9_groom_103 rfl ?_
              refine gf_RX9_131 (by decide) F dX9_groom_104 ?_
              refine V.iconst (v := 1) F dX9_groom_107 (by decide) ?_
              refine V.iadd F dX9_groom_108 ?_
              obtain ⟨μ15, eμ15, h⟩ := nm_out h
              refine pf_RX9_131 (by decide) F eμ15 dX9_groom_109 ?_
              refine V.rload_n F dX9_groom_112 rfl rfl ?_
              refine gf_RX9_10 F dX9_groom_113 ?_
              refine gf_RX9_131 (by decide) F dX9_groom_116 ?_
              refine V.iconst (v := 1) F dX9_groom_119 (by decide) ?_
              refine V.isub F dX9_groom_120 ?_
              obtain ⟨rfl, rfl⟩ := r2_out h
              exact V.iret F dX9_groom_121
            · have h := f_out h c8
              refine V.bipush (v := (-4)) F dX9_groom_42 (by decide) ?_
              obtain ⟨rfl, rfl⟩ := r2_out h
              exact V.iret F dX9_groom_44
          · have h := t_out h c7
            refine V.bipush (v := (-2)) F dX9_groom_27 (by decide) ?_
            obtain ⟨rfl, rfl⟩ := r2_out h
            exact V.iret F dX9_groom_29
set_option maxHeartbeats 4000000 in
set_option maxRecDepth 100000 in
theorem S_groom_ct {l : Launch} {G : Glo} {x1 : Int32} {x2 : Int32} {x3 : Int32} {μ : Mem} {r : Int32} {μ' : Mem} (h : S_groom x1 x2 x3 μ = some (r, μ')) : Ct l ΩA G 2 yX9_groom cX9_groom 5 (some .int) [.ref (G.1 0 0), .int x1, .int x2, .int x3] μ (some (.int r), μ') := by
  refine Ct.intro (by decide) (Nat.le_of_ble_eq_true rfl) ?_
  intro φ hl hG F
  subst hl; subst hG
  exact S_groom_ok F (Nat.le_refl _) h
def S_change (x1 : Int32) (x2 : Int32) (μ : Mem) : Option (Int32 × Mem) :=
  nm (S_isGroom x1 μ) fun r2 =>
  if r2 = 0 then (
    some ((-2), μ))
  else (
    nm (S_isGroom x2 μ) fun r5 =>
    if r5 = 0 then (
      some ((-2), μ))
    else (
      if x1 = x2 then (
        some ((-2), μ))
      else (
        chk (inb x1 6) <|
        nm (rd μ 2 (ix x1) 4) fun a9 =>
        chk (inb x1 6) <|
        chk (inb x2 6) <|
        nm (up μ 2 (ix x1) 4 (rd μ 2 (ix x2) 4)) fun μ12 =>
        chk (inb x2 6) <|
        nm (up μ12 2 (ix x2) 4 a9) fun μ14 =>
        chk (inb x1 6) <|
        some (rd μ14 2 (ix x1) 4, μ14))))
set_option maxHeartbeats 4000000 in
set_option maxRecDepth 100000 in
theorem S_change_ok {φ : Fr} {d : Nat} (F : Fx φ ΩA cX9_change RX9 4 (some .int)) (hd : 2 ≤ d) {x1 : Int32} {x2 : Int32} {μ : Mem} {r : Int32} {μ' : Mem} (h : S_change x1 x2 μ = some (r, μ')) : V φ ΩA 4 d 0 [some (rf φ 0 0), some (.int x1), some (.int x2), none] [] μ (some (.int r), μ') := by
  unfold S_change at h
  refine V.rload_n F dX9_change_0 rfl rfl ?_
  refine V.iload_n F dX9_change_1 rfl rfl ?_
  obtain ⟨r2, e1, h⟩ := nm_out h
  refine V.callVi (f := 0) (i := 0) (As := [.int x1]) F ck_RX9_140 (S_isGroom_ct e1) (by omega) (by decide) rfl mA0 rfl rfl rfl (Nat.le_of_ble_eq_true rfl) dX9_change_2 ?_
  refine V.if_eq (tgt := 21) F dX9_change_5 (by decide) (fun c3 => ?_) (fun c3 => ?_)
  · have h := t_out h c3
    refine V.bipush (v := (-2)) F dX9_change_21 (by decide) ?_
    obtain ⟨rfl, rfl⟩ := r2_out h
    exact V.iret F dX9_change_23
  · have h := f_out h c3
    refine V.rload_n F dX9_change_8 rfl rfl ?_
    refine V.iload_n F dX9_change_9 rfl rfl ?_
    obtain ⟨r5, e4, h⟩ := nm_out h
    refine V.callVi (f := 0) (i := 0) (As := [.int x2]) F ck_RX9_140 (S_isGroom_ct e4) (by omega) (by decide) rfl mA0 rfl rfl rfl (Nat.le_of_ble_eq_true rfl) dX9_change_10 ?_
    refine V.if_eq (tgt := 21) F dX9_change_13 (by decide) (fun c6 => ?_) (fun c6 => ?_)
    · have h := t_out h c6
      refine V.bipush (v := (-2)) F dX9_change_21 (by decide) ?_
      obtain ⟨rfl, rfl⟩ := r2_out h
      exact V.iret F dX9_change_23
    · have h := f_out h c6
      refine V.iload_n F dX9_change_16 rfl rfl ?_
      refine V.iload_n F dX9_change_17 rfl rfl ?_
      refine V.icmp_ne (tgt := 24) F dX9_change_18 (by decide) (fun c7 => ?_) (fun c7 => ?_)
      · have h := f_out h c7
        refine V.rload_n F dX9_change_24 rfl rfl ?_
        refine gf_RX9_10 F dX9_change_25 ?_
        refine gf_RX9_112 (by decide) F dX9_change_28 ?_
        refine V.iload_n F dX9_change_31 rfl rfl ?_
        obtain ⟨c8, h⟩ := chk_out h
        refine V.aald (t0 := 2) (n := 6) 2 (ix x1) F (mA3 (by decide)) rfl rfl c8 rfl dX9_change_32 ?_
        refine gf_RX9_137 (Nat.lt_of_lt_of_le (inb_lt c8) (by decide)) F dX9_change_33 ?_
        obtain ⟨a9, ea9, h⟩ := nm_out h
        refine V.istore_n (L' := [some (rf φ 0 0), some (.int x1), some (.int x2), some (.int a9)]) F dX9_change_36 rfl (by decide) rfl ea9 rfl ?_
        refine V.rload_n F dX9_change_37 rfl rfl ?_
        refine gf_RX9_10 F dX9_change_38 ?_
        refine gf_RX9_112 (by decide) F dX9_change_41 ?_
        refine V.iload_n F dX9_change_44 rfl rfl ?_
        obtain ⟨c10, h⟩ := chk_out h
        refine V.aald (t0 := 2) (n := 6) 2 (ix x1) F (mA3 (by decide)) rfl rfl c10 rfl dX9_change_45 ?_
        refine V.rload_n F dX9_change_46 rfl rfl ?_
        refine gf_RX9_10 F dX9_change_47 ?_
        refine gf_RX9_112 (by decide) F dX9_change_50 ?_
        refine V.iload_n F dX9_change_53 rfl rfl ?_
        obtain ⟨c11, h⟩ := chk_out h
        refine V.aald (t0 := 2) (n := 6) 2 (ix x2) F (mA3 (by decide)) rfl rfl c11 rfl dX9_change_54 ?_
        refine gf_RX9_137 (Nat.lt_of_lt_of_le (inb_lt c11) (by decide)) F dX9_change_55 ?_
        obtain ⟨μ12, eμ12, h⟩ := nm_out h
        refine pf_RX9_137 (Nat.lt_of_lt_of_le (inb_lt c10) (by decide)) F eμ12 dX9_change_58 ?_
        refine V.rload_n F dX9_change_61 rfl rfl ?_
        refine gf_RX9_10 F dX9_change_62 ?_
        refine gf_RX9_112 (by decide) F dX9_change_65 ?_
        refine V.iload_n F dX9_change_68 rfl rfl ?_
        obtain ⟨c13, h⟩ := chk_out h
        refine V.aald (t0 := 2) (n := 6) 2 (ix x2) F (mA3 (by decide)) rfl rfl c13 rfl dX9_change_69 ?_
        refine V.iload_n F dX9_change_70 rfl rfl ?_
        obtain ⟨μ14, eμ14, h⟩ := nm_out h
        refine pf_RX9_137 (Nat.lt_of_lt_of_le (inb_lt c13) (by decide)) F eμ14 dX9_change_71 ?_
        refine V.rload_n F dX9_change_74 rfl rfl ?_
        refine gf_RX9_10 F dX9_change_75 ?_
        refine gf_RX9_112 (by decide) F dX9_change_78 ?_
        refine V.iload_n F dX9_change_81 rfl rfl ?_
        obtain ⟨c15, h⟩ := chk_out h
        refine V.aald (t0 := 2) (n := 6) 2 (ix x1) F (mA3 (by decide)) rfl rfl c15 rfl dX9_change_82 ?_
        refine gf_RX9_137 (Nat.lt_of_lt_of_le (inb_lt c15) (by decide)) F dX9_change_83 ?_
        obtain ⟨rfl, rfl⟩ := r2_out h
        exact V.iret F dX9_change_86
      · have h := t_out h c7
        refine V.bipush (v := (-2)) F dX9_change_21 (by decide) ?_
        obtain ⟨rfl, rfl⟩ := r2_out h
        exact V.iret F dX9_change_23
set_option maxHeartbeats 4000000 in
set_option maxRecDepth 100000 in
theorem S_change_ct {l : Launch} {G : Glo} {x1 : Int32} {x2 : Int32} {μ : Mem} {r : Int32} {μ' : Mem} (h : S_change x1 x2 μ = some (r, μ')) : Ct l ΩA G 2 yX9_change cX9_change 4 (some .int) [.ref (G.1 0 0), .int x1, .int x2] μ (some (.int r), μ') := by
  refine Ct.intro (by decide) (Nat.le_of_ble_eq_true rfl) ?_
  intro φ hl hG F
  subst hl; subst hG
  exact S_change_ok F (Nat.le_refl _) h
def S_rule (μ : Mem) : Option Nat :=
  chk (inb (rd μ 1 0 2) 6) <|
  some (ix (rd μ 1 0 2))
set_option maxHeartbeats 4000000 in
set_option maxRecDepth 100000 in
theorem S_rule_ok {φ : Fr} {d : Nat} (F : Fx φ ΩA cX9_rule RX9 1 (some (.object "SewnUp$Text"))) (hd : 1 ≤ d) {μ : Mem} {r : Nat} (h : S_rule μ = some r) : V φ ΩA 1 d 0 [some (rf φ 0 0)] [] μ (some (rf φ 5 r), μ) := by
  unfold S_rule at h
  refine V.rload_n F dX9_rule_0 rfl rfl ?_
  refine gf_RX9_25 F dX9_rule_1 ?_
  refine V.rload_n F dX9_rule_4 rfl rfl ?_
  refine gf_RX9_10 F dX9_rule_5 ?_
  refine gf_RX9_167 (by decide) F dX9_rule_8 ?_
  obtain ⟨c1, h⟩ := chk_out h
  refine V.aald (t0 := 3) (n := 6) 5 (ix (rd μ 1 0 2)) F mA4 rfl rfl c1 rfl dX9_rule_11 ?_
  obtain rfl := r1_out h
  exact V.aret F (Or.inl ⟨_, rfl⟩) dX9_rule_12
set_option maxHeartbeats 4000000 in
set_option maxRecDepth 100000 in
theorem S_rule_ct {l : Launch} {G : Glo} {μ : Mem} {r : Nat} (h : S_rule μ = some r) : Ct l ΩA G 1 yX9_rule cX9_rule 1 (some (.object "SewnUp$Text")) [.ref (G.1 0 0)] μ (some (.ref (G.1 5 r)), μ) := by
  refine Ct.intro (by decide) (Nat.le_of_ble_eq_true rfl) ?_
  intro φ hl hG F
  subst hl; subst hG
  exact S_rule_ok F (Nat.le_refl _) h
def S_see_83 (x3 : Int32) (y1 : Int32) (μ : Mem) : Option Mem :=
  nm (up μ 18 0 6 y1) fun μ1 =>
  nm (up μ1 18 0 2 x3) fun μ2 =>
  some μ2
set_option maxHeartbeats 4000000 in
set_option maxRecDepth 100000 in
theorem S_see_83_ok {φ : Fr} {d : Nat} (F : Fx φ ΩA cX9_see RX9 5 (none)) (hd : 1 ≤ d) {x3 : Int32} {y1 : Int32} {μ : Mem}  {μ' : Mem} (h : S_see_83 x3 y1 μ = some μ') : V φ ΩA 5 d 83 [some (rf φ 0 0), none, none, some (.int x3), none] [.int y1, rf φ 18 0] μ (none, μ') := by
  unfold S_see_83 at h
  obtain ⟨μ1, eμ1, h⟩ := nm_out h
  refine pf_RX9_172 F eμ1 dX9_see_83 ?_
  refine V.rload_n F dX9_see_86 rfl rfl ?_
  refine gf_RX9_49 F dX9_see_87 ?_
  refine V.iload_n F dX9_see_90 rfl rfl ?_
  obtain ⟨μ2, eμ2, h⟩ := nm_out h
  refine pf_RX9_151 F eμ2 dX9_see_91 ?_
  obtain rfl := r1_out h
  exact V.vret F dX9_see_94
def S_see (x1 : Int32) (x2 : Int32) (x3 : Int32) (μ : Mem) : Option Mem :=
  chk (inb x1 6) <|
  nm (up μ 18 0 0 (rd μ 2 (ix x1) 0)) fun μ2 =>
  nm (up μ2 18 0 1 (rd μ2 2 (ix x1) 1)) fun μ3 =>
  nm (up μ3 18 0 3 (rd μ3 2 (ix x1) 3)) fun μ4 =>
  nm (up μ4 18 0 4 (rd μ4 1 0 0)) fun μ5 =>
  nm (up μ5 18 0 5 x2) fun μ6 =>
  if x2 = x1 then (
    S_see_83 x3 1 μ6)
  else (
    S_see_83 x3 0 μ6)
set_option maxHeartbeats 4000000 in
set_option maxRecDepth 100000 in
theorem S_see_ok {φ : Fr} {d : Nat} (F : Fx φ ΩA cX9_see RX9 5 (none)) (hd : 1 ≤ d) {x1 : Int32} {x2 : Int32} {x3 : Int32} {μ : Mem}  {μ' : Mem} (h : S_see x1 x2 x3 μ = some μ') : V φ ΩA 5 d 0 [some (rf φ 0 0), some (.int x1), some (.int x2), some (.int x3), none] [] μ (none, μ') := by
  unfold S_see at h
  refine V.rload_n F dX9_see_0 rfl rfl ?_
  refine gf_RX9_10 F dX9_see_1 ?_
  refine gf_RX9_112 (by decide) F dX9_see_4 ?_
  refine V.iload_n F dX9_see_7 rfl rfl ?_
  obtain ⟨c1, h⟩ := chk_out h
  refine V.aald (t0 := 2) (n := 6) 2 (ix x1) F (mA3 (by decide)) rfl rfl c1 rfl dX9_see_8 ?_
  refine V.rstore (L' := [some (rf φ 0 0), some (.int x1), some (.int x2), some (.int x3), some (rf φ 2 (ix x1))]) F dX9_see_9 (by decide) rfl rfl ?_
  refine V.rload_n F dX9_see_11 rfl rfl ?_
  refine gf_RX9_49 F dX9_see_12 ?_
  refine V.rload F dX9_see_15 rfl ?_
  refine gf_RX9_134 (Nat.lt_of_lt_of_le (inb_lt c1) (by decide)) F dX9_see_17 ?_
  obtain ⟨μ2, eμ2, h⟩ := nm_out h
  refine pf_RX9_147 F eμ2 dX9_see_20 ?_
  refine V.rload_n F dX9_see_23 rfl rfl ?_
  refine gf_RX9_49 F dX9_see_24 ?_
  refine V.rload F dX9_see_27 rfl ?_
  refine gf_RX9_116 (Nat.lt_of_lt_of_le (inb_lt c1) (by decide)) F dX9_see_29 ?_
  obtain ⟨μ3, eμ3, h⟩ := nm_out h
  refine pf_RX9_169 F eμ3 dX9_see_32 ?_
  refine V.rload_n F dX9_see_35 rfl rfl ?_
  refine gf_RX9_49 F dX9_see_36 ?_
  refine V.rload F dX9_see_39 rfl ?_
  refine gf_RX9_124 (Nat.lt_of_lt_of_le (inb_lt c1) (by decide)) F dX9_see_41 ?_
  obtain ⟨μ4, eμ4, h⟩ := nm_out h
  refine pf_RX9_170 F eμ4 dX9_see_44 ?_
  refine V.rload_n F dX9_see_47 rfl rfl ?_
  refine gf_RX9_49 F dX9_see_48 ?_
  refine V.rload_n F dX9_see_51 rfl rfl ?_
  refine gf_RX9_10 F dX9_see_52 ?_
  refine gf_RX9_106 (by decide) F dX9_see_55 ?_
  obtain ⟨μ5, eμ5, h⟩ := nm_out h
  refine pf_RX9_171 F eμ5 dX9_see_58 ?_
  refine V.rload_n F dX9_see_61 rfl rfl ?_
  refine gf_RX9_49 F dX9_see_62 ?_
  refine V.iload_n F dX9_see_65 rfl rfl ?_
  obtain ⟨μ6, eμ6, h⟩ := nm_out h
  refine pf_RX9_148 F eμ6 dX9_see_66 ?_
  refine V.rload_n F dX9_see_69 rfl rfl ?_
  refine gf_RX9_49 F dX9_see_70 ?_
  refine V.iload_n F dX9_see_73 rfl rfl ?_
  refine V.iload_n F dX9_see_74 rfl rfl ?_
  refine V.icmp_ne (tgt := 82) F dX9_see_75 (by decide) (fun c7 => ?_) (fun c7 => ?_)
  · have h := f_out h c7
    refine V.iconst (v := 0) F dX9_see_82 (by decide) ?_
    refine V.msk (L' := [some (rf φ 0 0), none, none, some (.int x3), none]) [true, false, false, true, false] rfl ?_
    exact S_see_83_ok F hd h
  · have h := t_out h c7
    refine V.iconst (v := 1) F dX9_see_78 (by decide) ?_
    refine V.goto (tgt := 83) F dX9_see_79 (by decide) ?_
    refine V.msk (L' := [some (rf φ 0 0), none, none, some (.int x3), none]) [true, false, false, true, false] rfl ?_
    exact S_see_83_ok F hd h
set_option maxHeartbeats 4000000 in
set_option maxRecDepth 100000 in
theorem S_see_ct {l : Launch} {G : Glo} {x1 : Int32} {x2 : Int32} {x3 : Int32} {μ : Mem}  {μ' : Mem} (h : S_see x1 x2 x3 μ = some μ') : Ct l ΩA G 1 yX9_see cX9_see 5 (none) [.ref (G.1 0 0), .int x1, .int x2, .int x3] μ (none, μ') := by
  refine Ct.intro (by decide) (Nat.le_of_ble_eq_true rfl) ?_
  intro φ hl hG F
  subst hl; subst hG
  exact S_see_ok F (Nat.le_refl _) h
def S_seeIn (x1 : Int32) (x2 : Int32) (μ : Mem) : Option Mem :=
  chk (inb x2 6) <|
  bnd (S_see x1 x2 (rd μ 2 (ix x2) 2) μ) fun μ3 =>
  some μ3
set_option maxHeartbeats 4000000 in
set_option maxRecDepth 100000 in
theorem S_seeIn_ok {φ : Fr} {d : Nat} (F : Fx φ ΩA cX9_seeIn RX9 3 (none)) (hd : 2 ≤ d) {x1 : Int32} {x2 : Int32} {μ : Mem}  {μ' : Mem} (h : S_seeIn x1 x2 μ = some μ') : V φ ΩA 3 d 0 [some (rf φ 0 0), some (.int x1), some (.int x2)] [] μ (none, μ') := by
  unfold S_seeIn at h
  refine V.rload_n F dX9_seeIn_0 rfl rfl ?_
  refine V.iload_n F dX9_seeIn_1 rfl rfl ?_
  refine V.iload_n F dX9_seeIn_2 rfl rfl ?_
  refine V.rload_n F dX9_seeIn_3 rfl rfl ?_
  refine gf_RX9_10 F dX9_seeIn_4 ?_
  refine gf_RX9_112 (by decide) F dX9_seeIn_7 ?_
  refine V.iload_n F dX9_seeIn_10 rfl rfl ?_
  obtain ⟨c1, h⟩ := chk_out h
  refine V.aald (t0 := 2) (n := 6) 2 (ix x2) F (mA3 (by decide)) rfl rfl c1 rfl dX9_seeIn_11 ?_
  refine gf_RX9_121 (Nat.lt_of_lt_of_le (inb_lt c1) (by decide)) F dX9_seeIn_12 ?_
  obtain ⟨μ3, e2, h⟩ := bnd_out h
  refine V.callVv (f := 0) (i := 0) (As := [.int x1, .int x2, .int (rd μ 2 (ix x2) 2)]) F ck_RX9_175 (S_see_ct e2) (by omega) (by decide) rfl mA0 rfl rfl rfl (Nat.le_of_ble_eq_true rfl) dX9_seeIn_15 ?_
  obtain rfl := r1_out h
  exact V.vret F dX9_seeIn_18
set_option maxHeartbeats 4000000 in
set_option maxRecDepth 100000 in
theorem S_seeIn_ct {l : Launch} {G : Glo} {x1 : Int32} {x2 : Int32} {μ : Mem}  {μ' : Mem} (h : S_seeIn x1 x2 μ = some μ') : Ct l ΩA G 2 yX9_seeIn cX9_seeIn 3 (none) [.ref (G.1 0 0), .int x1, .int x2] μ (none, μ') := by
  refine Ct.intro (by decide) (Nat.le_of_ble_eq_true rfl) ?_
  intro φ hl hG F
  subst hl; subst hG
  exact S_seeIn_ok F (Nat.le_refl _) h
def S_seeAsIs (x1 : Int32) (μ : Mem) : Option Mem :=
  chk (inb x1 6) <|
  bnd (S_seeIn x1 (rd μ 2 (ix x1) 4) μ) fun μ3 =>
  some μ3
set_option maxHeartbeats 4000000 in
set_option maxRecDepth 100000 in
theorem S_seeAsIs_ok {φ : Fr} {d : Nat} (F : Fx φ ΩA cX9_seeAsIs RX9 2 (none)) (hd : 3 ≤ d) {x1 : Int32} {μ : Mem}  {μ' : Mem} (h : S_seeAsIs x1 μ = some μ') : V φ ΩA 2 d 0 [some (rf φ 0 0), some (.int x1)] [] μ (none, μ') := by
  unfold S_seeAsIs at h
  refine V.rload_n F dX9_seeAsIs_0 rfl rfl ?_
  refine V.iload_n F dX9_seeAsIs_1 rfl rfl ?_
  refine V.rload_n F dX9_seeAsIs_2 rfl rfl ?_
  refine gf_RX9_10 F dX9_seeAsIs_3 ?_
  refine gf_RX9_112 (by decide) F dX9_seeAsIs_6 ?_
  refine V.iload_n F dX9_seeAsIs_9 rfl rfl ?_
  obtain ⟨c1, h⟩ := chk_out h
  refine V.aald (t0 := 2) (n := 6) 2 (ix x1) F (mA3 (by decide)) rfl rfl c1 rfl dX9_seeAsIs_10 ?_
  refine gf_RX9_137 (Nat.lt_of_lt_of_le (inb_lt c1) (by decide)) F dX9_seeAsIs_11 ?_
  obtain ⟨μ3, e2, h⟩ := bnd_out h
  refine V.callVv (f := 0) (i := 0) (As := [.int x1, .int (rd μ 2 (ix x1) 4)]) F ck_RX9_179 (S_seeIn_ct e2) (by omega) (by decide) rfl mA0 rfl rfl rfl (Nat.le_of_ble_eq_true rfl) dX9_seeAsIs_14 ?_
  obtain rfl := r1_out h
  exact V.vret F dX9_seeAsIs_17
set_option maxHeartbeats 4000000 in
set_option maxRecDepth 100000 in
theorem S_seeAsIs_ct {l : Launch} {G : Glo} {x1 : Int32} {μ : Mem}  {μ' : Mem} (h : S_seeAsIs x1 μ = some μ') : Ct l ΩA G 3 yX9_seeAsIs cX9_seeAsIs 2 (none) [.ref (G.1 0 0), .int x1] μ (none, μ') := by
  refine Ct.intro (by decide) (Nat.le_of_ble_eq_true rfl) ?_
  intro φ hl hG F
  subst hl; subst hG
  exact S_seeAsIs_ok F (Nat.le_refl _) h
def S_told (x1 : Int32) (x2 : Int32) (μ : Mem) : Option (Int32 × Mem) :=
  nm (S_isSettable x2 x1 μ) fun r2 =>
  if r2 = 0 then (
    nm (S_isGroom x1 μ) fun r5 =>
    if r5 = 0 then (
      some ((-2), μ))
    else (
      if x2 < 5 then (
        some ((-2), μ))
      else (
        if 10 < x2 then (
          some ((-2), μ))
        else (
          bnd (S_seeAsIs x1 μ) fun μ10 =>
          if x2 = 5 then (
            some (rd μ10 18 0 0, μ10))
          else (
          if x2 = 6 then (
            some (rd μ10 18 0 5, μ10))
          else (
          if x2 = 7 then (
            some (rd μ10 18 0 2, μ10))
          else (
          if x2 = 8 then (
            bnd (S_rule μ10) fun r16 =>
            chk (r16 < 6) <|
            bnd2 (Ma_heats r16 μ10) fun r19 μ20 =>
            some (r19, μ20))
          else (
          if x2 = 9 then (
            bnd (S_rule μ10) fun r23 =>
            chk (r23 < 6) <|
            bnd2 (Ma_calms r23 μ10) fun r26 μ27 =>
            some (r26, μ27))
          else (
            bnd (S_rule μ10) fun r30 =>
            chk (r30 < 6) <|
            bnd2 (Ma_feels r30 μ10) fun r33 μ34 =>
            some (r33, μ34))))))))))
  else (
    bnd (S_settable x2 x1 μ) fun r36 =>
    some (r36, μ))
set_option maxHeartbeats 4000000 in
set_option maxRecDepth 100000 in
theorem S_told_ok {φ : Fr} {d : Nat} (F : Fx φ ΩA cX9_told RX9 3 (some .int)) (hd : 4 ≤ d) {x1 : Int32} {x2 : Int32} {μ : Mem} {r : Int32} {μ' : Mem} (h : S_told x1 x2 μ = some (r, μ')) : V φ ΩA 3 d 0 [some (rf φ 0 0), some (.int x1), some (.int x2)] [] μ (some (.int r), μ') := by
  unfold S_told at h
  refine V.rload_n F dX9_told_0 rfl rfl ?_
  refine V.iload_n F dX9_told_1 rfl rfl ?_
  refine V.iload_n F dX9_told_2 rfl rfl ?_
  obtain ⟨r2, e1, h⟩ := nm_out h
  refine V.callVi (f := 0) (i := 0) (As := [.int x2, .int x1]) F ck_RX9_94 (S_isSettable_ct e1) (by omega) (by decide) rfl mA0 rfl rfl rfl (Nat.le_of_ble_eq_true rfl) dX9_told_3 ?_
  refine V.if_eq (tgt := 16) F dX9_told_6 (by decide) (fun c3 => ?_) (fun c3 => ?_)
  · have h := t_out h c3
    refine V.rload_n F dX9_told_16 rfl rfl ?_
    refine V.iload_n F dX9_told_17 rfl rfl ?_
    obtain ⟨r5, e4, h⟩ := nm_out h
    refine V.callVi (f := 0) (i := 0) (As := [.int x1]) F ck_RX9_140 (S_isGroom_ct e4) (by omega) (by decide) rfl mA0 rfl rfl rfl (Nat.le_of_ble_eq_true rfl) dX9_told_18 ?_
    refine V.if_eq (tgt := 35) F dX9_told_21 (by decide) (fun c6 => ?_) (fun c6 => ?_)
    · have h := t_out h c6
      refine V.bipush (v := (-2)) F dX9_told_35 (by decide) ?_
      obtain ⟨rfl, rfl⟩ := r2_out h
      exact V.iret F dX9_told_37
    · have h := f_out h c6
      refine V.iload_n F dX9_told_24 rfl rfl ?_
      refine V.iconst (v := 5) F dX9_told_25 (by decide) ?_
      refine V.icmp_lt (tgt := 35) F dX9_told_26 (by decide) (fun c7 => ?_) (fun c7 => ?_)
      · have h := t_out h c7
        refine V.bipush (v := (-2)) F dX9_told_35 (by decide) ?_
        obtain ⟨rfl, rfl⟩ := r2_out h
        exact V.iret F dX9_told_37
      · have h := f_out h c7
        refine V.iload_n F dX9_told_29 rfl rfl ?_
        refine V.bipush (v := 10) F dX9_told_30 (by decide) ?_
        refine V.icmp_le (tgt := 38) F dX9_told_32 (by decide) (fun c8 => ?_) (fun c8 => ?_)
        · have h := f_out h c8
          refine V.rload_n F dX9_told_38 rfl rfl ?_
          refine V.iload_n F dX9_told_39 rfl rfl ?_
          obtain ⟨μ10, e9, h⟩ := bnd_out h
          refine V.callVv (f := 0) (i := 0) (As := [.int x1]) F ck_RX9_143 (S_seeAsIs_ct e9) (by omega) (by decide) rfl mA0 rfl rfl rfl (Nat.le_of_ble_eq_true rfl) dX9_told_40 ?_
          refine V.iload_n F dX9_told_43 rfl rfl ?_
          by_cases c11 : x2 = 5
          · have h := t_out h c11
            refine V.tabK (tgt := 80) (v := 5) F dX9_told_44 (by rw [c11]; decide) (by decide) (by decide) rfl (by decide) ?_
            refine V.rload_n F dX9_told_80 rfl rfl ?_
            refine gf_RX9_49 F dX9_told_81 ?_
            refine gf_RX9_147 F dX9_told_84 ?_
            obtain ⟨rfl, rfl⟩ := r2_out h
            exact V.iret F dX9_told_87
          have h := f_out h c11
          by_cases c12 : x2 = 6
          · have h := t_out h c12
            refine V.tabK (tgt := 88) (v := 6) F dX9_told_44 (by rw [c12]; decide) (by decide) (by decide) rfl (by decide) ?_
            refine V.rload_n F dX9_told_88 rfl rfl ?_
            refine gf_RX9_49 F dX9_told_89 ?_
            refine gf_RX9_148 F dX9_told_92 ?_
            obtain ⟨rfl, rfl⟩ := r2_out h
            exact V.iret F dX9_told_95
          have h := f_out h c12
          by_cases c13 : x2 = 7
          · have h := t_out h c13
            refine V.tabK (tgt := 96) (v := 7) F dX9_told_44 (by rw [c13]; decide) (by decide) (by decide) rfl (by decide) ?_
            refine V.rload_n F dX9_told_96 rfl rfl ?_
            refine gf_RX9_49 F dX9_told_97 ?_
            refine gf_RX9_151 F dX9_told_100 ?_
            obtain ⟨rfl, rfl⟩ := r2_out h
            exact V.iret F dX9_told_103
          have h := f_out h c13
          by_cases c14 : x2 = 8
          · have h := t_out h c14
            refine V.tabK (tgt := 104) (v := 8) F dX9_told_44 (by rw [c14]; decide) (by decide) (by decide) rfl (by decide) ?_
            refine V.rload_n F dX9_told_104 rfl rfl ?_
            refine gf_RX9_49 F dX9_told_105 ?_
            refine V.rload_n F dX9_told_108 rfl rfl ?_
            obtain ⟨r16, e15, h⟩ := bnd_out h
            refine V.callVr (f := 0) (i := 0) (As := []) 5 r16 F ck_RX9_154 (S_rule_ct e15) (by omega) (by decide) rfl mA0 rfl rfl rfl (Nat.le_of_ble_eq_true rfl) dX9_told_109 ?_
            obtain ⟨c17, h⟩ := chk_out h
            obtain ⟨r19, μ20, e18, h⟩ := bnd2_out h
            refine V.callVi (f := 18) (i := 0) (As := [rf φ 5 r16]) F ck_RX9_158 (Ma_heats_ct c17 e18) (by omega) (by decide) rfl mA18 rfl rfl rfl (Nat.le_of_ble_eq_true rfl) dX9_told_112 ?_
            obtain ⟨rfl, rfl⟩ := r2_out h
            exact V.iret F dX9_told_115
          have h := f_out h c14
          by_cases c21 : x2 = 9
          · have h := t_out h c21
            refine V.tabK (tgt := 116) (v := 9) F dX9_told_44 (by rw [c21]; decide) (by decide) (by decide) rfl (by decide) ?_
            refine V.rload_n F dX9_told_116 rfl rfl ?_
            refine gf_RX9_49 F dX9_told_117 ?_
            refine V.rload_n F dX9_told_120 rfl rfl ?_
            obtain ⟨r23, e22, h⟩ := bnd_out h
            refine V.callVr (f := 0) (i := 0) (As := []) 5 r23 F ck_RX9_154 (S_rule_ct e22) (by omega) (by decide) rfl mA0 rfl rfl rfl (Nat.le_of_ble_eq_true rfl) dX9_told_121 ?_
            obtain ⟨c24, h⟩ := chk_out h
            obtain ⟨r26, μ27, e25, h⟩ := bnd2_out h
            refine V.callVi (f := 18) (i := 0) (As := [rf φ 5 r23]) F ck_RX9_161 (Ma_calms_ct c24 e25) (by omega) (by decide) rfl mA18 rfl rfl rfl (Nat.le_of_ble_eq_true rfl) dX9_told_124 ?_
            obtain ⟨rfl, rfl⟩ := r2_out h
            exact V.iret F dX9_told_127
          have h := f_out h c21
          have K28 : V φ ΩA 3 d 128 [some (rf φ 0 0), some (.int x1), some (.int x2)] [] μ10 (some (.int r), μ') := by
            refine V.rload_n F dX9_told_128 rfl rfl ?_
            refine gf_RX9_49 F dX9_told_129 ?_
            refine V.rload_n F dX9_told_132 rfl rfl ?_
            obtain ⟨r30, e29, h⟩ := bnd_out h
            refine V.callVr (f := 0) (i := 0) (As := []) 5 r30 F ck_RX9_154 (S_rule_ct e29) (by omega) (by decide) rfl mA0 rfl rfl rfl (Nat.le_of_ble_eq_true rfl) dX9_told_133 ?_
            obtain ⟨c31, h⟩ := chk_out h
            obtain ⟨r33, μ34, e32, h⟩ := bnd2_out h
            refine V.callVi (f := 18) (i := 0) (As := [rf φ 5 r30]) F ck_RX9_164 (Ma_feels_ct c31 e32) (by omega) (by decide) rfl mA18 rfl rfl rfl (Nat.le_of_ble_eq_true rfl) dX9_told_136 ?_
            obtain ⟨rfl, rfl⟩ := r2_out h
            exact V.iret F dX9_told_139
          exact V.tabOut (tgt := 128) F dX9_told_44 (by have := lv_neT c11 (a := 5) (by decide); have := lv_neT c12 (a := 6) (by decide); have := lv_neT c13 (a := 7) (by decide); have := lv_neT c14 (a := 8) (by decide); have := lv_neT c21 (a := 9) (by decide); omega) (by decide) K28
        · have h := t_out h c8
          refine V.bipush (v := (-2)) F dX9_told_35 (by decide) ?_
          obtain ⟨rfl, rfl⟩ := r2_out h
          exact V.iret F dX9_told_37
  · have h := f_out h c3
    refine V.rload_n F dX9_told_9 rfl rfl ?_
    refine V.iload_n F dX9_told_10 rfl rfl ?_
    refine V.iload_n F dX9_told_11 rfl rfl ?_
    obtain ⟨r36, e35, h⟩ := bnd_out h
    refine V.callVi (f := 0) (i := 0) (As := [.int x2, .int x1]) F ck_RX9_102 (S_settable_ct e35) (by omega) (by decide) rfl mA0 rfl rfl rfl (Nat.le_of_ble_eq_true rfl) dX9_told_12 ?_
    obtain ⟨rfl, rfl⟩ := r2_out h
    exact V.iret F dX9_told_15
set_option maxHeartbeats 4000000 in
set_option maxRecDepth 100000 in
theorem S_told_ct {l : Launch} {G : Glo} {x1 : Int32} {x2 : Int32} {μ : Mem} {r : Int32} {μ' : Mem} (h : S_told x1 x2 μ = some (r, μ')) : Ct l ΩA G 4 yX9_told cX9_told 3 (some .int) [.ref (G.1 0 0), .int x1, .int x2] μ (some (.int r), μ') := by
  refine Ct.intro (by decide) (Nat.le_of_ble_eq_true rfl) ?_
  intro φ hl hG F
  subst hl; subst hG
  exact S_told_ok F (Nat.le_refl _) h
def S_feed (x1 : Int32) (μ : Mem) : Option (Int32 × Mem) :=
  if x1 < 0 then (
    some ((-2), μ))
  else (
    if 255 < x1 then (
      some ((-2), μ))
    else (
      if (rd μ 10 0 1) < 160 then (
        chk (inb (rd μ 10 0 1) 160) <|
        nm (up μ 11 0 (ix (rd μ 10 0 1)) x1) fun μ5 =>
        nm (up μ5 10 0 1 ((rd μ5 10 0 1) + 1)) fun μ6 =>
        some (rd μ6 10 0 1, μ6))
      else (
        some ((-4), μ))))
set_option maxHeartbeats 4000000 in
set_option maxRecDepth 100000 in
theorem S_feed_ok {φ : Fr} {d : Nat} (F : Fx φ ΩA cX9_feed RX9 3 (some .int)) (hd : 1 ≤ d) {x1 : Int32} {μ : Mem} {r : Int32} {μ' : Mem} (h : S_feed x1 μ = some (r, μ')) : V φ ΩA 3 d 0 [some (rf φ 0 0), some (.int x1), none] [] μ (some (.int r), μ') := by
  unfold S_feed at h
  refine V.iload_n F dX9_feed_0 rfl rfl ?_
  refine V.if_lt (tgt := 11) F dX9_feed_1 (by decide) (fun c1 => ?_) (fun c1 => ?_)
  · have h := t_out h c1
    refine V.bipush (v := (-2)) F dX9_feed_11 (by decide) ?_
    obtain ⟨rfl, rfl⟩ := r2_out h
    exact V.iret F dX9_feed_13
  · have h := f_out h c1
    refine V.iload_n F dX9_feed_4 rfl rfl ?_
    refine V.sipush (v := 255) F dX9_feed_5 (by decide) ?_
    refine V.icmp_le (tgt := 14) F dX9_feed_8 (by decide) (fun c2 => ?_) (fun c2 => ?_)
    · have h := f_out h c2
      refine V.rload_n F dX9_feed_14 rfl rfl ?_
      refine gf_RX9_36 F dX9_feed_15 ?_
      refine gf_RX9_78 F dX9_feed_18 ?_
      refine V.rstore_n (L' := [some (rf φ 0 0), some (.int x1), some (rf φ 10 0)]) F dX9_feed_21 rfl (by decide) rfl rfl ?_
      refine V.rload_n F dX9_feed_22 rfl rfl ?_
      refine gf_RX9_183 F dX9_feed_23 ?_
      refine V.sipush (v := 160) F dX9_feed_26 (by decide) ?_
      refine V.icmp_lt (tgt := 35) F dX9_feed_29 (by decide) (fun c3 => ?_) (fun c3 => ?_)
      · have h := t_out h c3
        refine V.rload_n F dX9_feed_35 rfl rfl ?_
        refine gf_RX9_184 F dX9_feed_36 ?_
        refine V.rload_n F dX9_feed_39 rfl rfl ?_
        refine gf_RX9_183 F dX9_feed_40 ?_
        refine V.iload_n F dX9_feed_43 rfl rfl ?_
        obtain ⟨c4, h⟩ := chk_out h
        obtain ⟨μ5, eμ5, h⟩ := nm_out h
        refine V.iast (t0 := 0) (n := 160) F mA11 (fun _ => rfl) rfl c4 eμ5 dX9_feed_44 ?_
        refine V.rload_n F dX9_feed_45 rfl rfl ?_
        refine V.dup F dX9_feed_46 rfl ?_
        refine gf_RX9_183 F dX9_feed_47 ?_
        refine V.iconst (v := 1) F dX9_feed_50 (by decide) ?_
        refine V.iadd F dX9_feed_51 ?_
        obtain ⟨μ6, eμ6, h⟩ := nm_out h
        refine pf_RX9_183 F eμ6 dX9_feed_52 ?_
        refine V.rload_n F dX9_feed_55 rfl rfl ?_
        refine gf_RX9_183 F dX9_feed_56 ?_
        obtain ⟨rfl, rfl⟩ := r2_out h
        exact V.iret F dX9_feed_59
      · have h := f_out h c3
        refine V.bipush (v := (-4)) F dX9_feed_32 (by decide) ?_
        obtain ⟨rfl, rfl⟩ := r2_out h
        exact V.iret F dX9_feed_34
    · have h := t_out h c2
      refine V.bipush (v := (-2)) F dX9_feed_11 (by decide) ?_
      obtain ⟨rfl, rfl⟩ := r2_out h
      exact V.iret F dX9_feed_13
set_option maxHeartbeats 4000000 in
set_option maxRecDepth 100000 in
theorem S_feed_ct {l : Launch} {G : Glo} {x1 : Int32} {μ : Mem} {r : Int32} {μ' : Mem} (h : S_feed x1 μ = some (r, μ')) : Ct l ΩA G 1 yX9_feed cX9_feed 3 (some .int) [.ref (G.1 0 0), .int x1] μ (some (.int r), μ') := by
  refine Ct.intro (by decide) (Nat.le_of_ble_eq_true rfl) ?_
  intro φ hl hG F
  subst hl; subst hG
  exact S_feed_ok F (Nat.le_refl _) h
def S_text (μ : Mem) : Option (Int32 × Mem) :=
  if (rd μ 0 0 4) < 6 then (
    chk (inb (rd μ 0 0 4) 6) <|
    bnd2 (Re_read (ix (rd μ 0 0 4)) μ) fun r4 μ5 =>
    if r4 = (-1) then (
      nm (up μ5 0 0 4 ((rd μ5 0 0 4) + 1)) fun μ7 =>
      some ((rd μ7 0 0 4) - 1, μ7))
    else (
      some ((-100) - r4, μ5)))
  else (
    some ((-4), μ))
set_option maxHeartbeats 4000000 in
set_option maxRecDepth 100000 in
theorem S_text_ok {φ : Fr} {d : Nat} (F : Fx φ ΩA cX9_text RX9 2 (some .int)) (hd : 106 ≤ d) {μ : Mem} {r : Int32} {μ' : Mem} (h : S_text μ = some (r, μ')) : V φ ΩA 2 d 0 [some (rf φ 0 0), none] [] μ (some (.int r), μ') := by
  unfold S_text at h
  refine V.rload_n F dX9_text_0 rfl rfl ?_
  refine gf_RX9_29 F dX9_text_1 ?_
  refine V.bipush (v := 6) F dX9_text_4 (by decide) ?_
  refine V.icmp_lt (tgt := 12) F dX9_text_6 (by decide) (fun c1 => ?_) (fun c1 => ?_)
  · have h := t_out h c1
    refine V.rload_n F dX9_text_12 rfl rfl ?_
    refine gf_RX9_36 F dX9_text_13 ?_
    refine V.rload_n F dX9_text_16 rfl rfl ?_
    refine gf_RX9_25 F dX9_text_17 ?_
    refine V.rload_n F dX9_text_20 rfl rfl ?_
    refine gf_RX9_29 F dX9_text_21 ?_
    obtain ⟨c2, h⟩ := chk_out h
    refine V.aald (t0 := 3) (n := 6) 5 (ix (rd μ 0 0 4)) F mA4 rfl rfl c2 rfl dX9_text_24 ?_
    obtain ⟨r4, μ5, e3, h⟩ := bnd2_out h
    refine V.callVi (f := 9) (i := 0) (As := [rf φ 5 (ix (rd μ 0 0 4))]) F ck_RX9_90 (Re_read_ct (inb_lt c2) e3) (by omega) (by decide) rfl mA9 rfl rfl rfl (Nat.le_of_ble_eq_true rfl) dX9_text_25 ?_
    refine V.istore_n (L' := [some (rf φ 0 0), some (.int r4)]) F dX9_text_28 rfl (by decide) rfl rfl rfl ?_
    refine V.iload_n F dX9_text_29 rfl rfl ?_
    refine V.iconst (v := (-1)) F dX9_text_30 (by decide) ?_
    refine V.icmp_eq (tgt := 39) F dX9_text_31 (by decide) (fun c6 => ?_) (fun c6 => ?_)
    · have h := t_out h c6
      refine V.rload_n F dX9_text_39 rfl rfl ?_
      refine V.dup F dX9_text_40 rfl ?_
      refine gf_RX9_29 F dX9_text_41 ?_
      refine V.iconst (v := 1) F dX9_text_44 (by decide) ?_
      refine V.iadd F dX9_text_45 ?_
      obtain ⟨μ7, eμ7, h⟩ := nm_out h
      refine pf_RX9_29 F eμ7 dX9_text_46 ?_
      refine V.rload_n F dX9_text_49 rfl rfl ?_
      refine gf_RX9_29 F dX9_text_50 ?_
      refine V.iconst (v := 1) F dX9_text_53 (by decide) ?_
      refine V.isub F dX9_text_54 ?_
      obtain ⟨rfl, rfl⟩ := r2_out h
      exact V.iret F dX9_text_55
    · have h := f_out h c6
      refine V.bipush (v := (-100)) F dX9_text_34 (by decide) ?_
      refine V.iload_n F dX9_text_36 rfl rfl ?_
      refine V.isub F dX9_text_37 ?_
      obtain ⟨rfl, rfl⟩ := r2_out h
      exact V.iret F dX9_text_38
  · have h := f_out h c1
    refine V.bipush (v := (-4)) F dX9_text_9 (by decide) ?_
    obtain ⟨rfl, rfl⟩ := r2_out h
    exact V.iret F dX9_text_11
set_option maxHeartbeats 4000000 in
set_option maxRecDepth 100000 in
theorem S_text_ct {l : Launch} {G : Glo} {μ : Mem} {r : Int32} {μ' : Mem} (h : S_text μ = some (r, μ')) : Ct l ΩA G 106 yX9_text cX9_text 2 (some .int) [.ref (G.1 0 0)] μ (some (.int r), μ') := by
  refine Ct.intro (by decide) (Nat.le_of_ble_eq_true rfl) ?_
  intro φ hl hG F
  subst hl; subst hG
  exact S_text_ok F (Nat.le_refl _) h
def S_force (x1 : Int32) (μ : Mem) : (Int32 × Mem) :=
  if x1 < 0 then (
    ((-2), μ))
  else (
    if x1 < (rd μ 0 0 4) then (
      nm (rd μ 1 0 2) fun a3 =>
      nm (up μ 1 0 2 x1) fun μ4 =>
      (a3, μ4))
    else (
      ((-2), μ)))
set_option maxHeartbeats 4000000 in
set_option maxRecDepth 100000 in
theorem S_force_ok {φ : Fr} {d : Nat} (F : Fx φ ΩA cX9_force RX9 3 (some .int)) (hd : 1 ≤ d) {x1 : Int32} {μ : Mem} {r : Int32} {μ' : Mem} (h : S_force x1 μ = (r, μ')) : V φ ΩA 3 d 0 [some (rf φ 0 0), some (.int x1), none] [] μ (some (.int r), μ') := by
  unfold S_force at h
  refine V.iload_n F dX9_force_0 rfl rfl ?_
  refine V.if_lt (tgt := 12) F dX9_force_1 (by decide) (fun c1 => ?_) (fun c1 => ?_)
  · have h := t_out h c1
    refine V.bipush (v := (-2)) F dX9_force_12 (by decide) ?_
    obtain ⟨rfl, rfl⟩ := p2_out h
    exact V.iret F dX9_force_14
  · have h := f_out h c1
    refine V.iload_n F dX9_force_4 rfl rfl ?_
    refine V.rload_n F dX9_force_5 rfl rfl ?_
    refine gf_RX9_29 F dX9_force_6 ?_
    refine V.icmp_lt (tgt := 15) F dX9_force_9 (by decide) (fun c2 => ?_) (fun c2 => ?_)
    · have h := t_out h c2
      refine V.rload_n F dX9_force_15 rfl rfl ?_
      refine gf_RX9_10 F dX9_force_16 ?_
      refine gf_RX9_167 (by decide) F dX9_force_19 ?_
      obtain ⟨a3, ea3, h⟩ := nm_out h
      refine V.istore_n (L' := [some (rf φ 0 0), some (.int x1), some (.int a3)]) F dX9_force_22 rfl (by decide) rfl ea3 rfl ?_
      refine V.rload_n F dX9_force_23 rfl rfl ?_
      refine gf_RX9_10 F dX9_force_24 ?_
      refine V.iload_n F dX9_force_27 rfl rfl ?_
      obtain ⟨μ4, eμ4, h⟩ := nm_out h
      refine pf_RX9_167 (by decide) F eμ4 dX9_force_28 ?_
      refine V.iload_n F dX9_force_31 rfl rfl ?_
      obtain ⟨rfl, rfl⟩ := p2_out h
      exact V.iret F dX9_force_32
    · have h := f_out h c2
      refine V.bipush (v := (-2)) F dX9_force_12 (by decide) ?_
      obtain ⟨rfl, rfl⟩ := p2_out h
      exact V.iret F dX9_force_14
set_option maxHeartbeats 4000000 in
set_option maxRecDepth 100000 in
theorem S_force_ct {l : Launch} {G : Glo} {x1 : Int32} {μ : Mem} {r : Int32} {μ' : Mem} (h : S_force x1 μ = (r, μ')) : Ct l ΩA G 1 yX9_force cX9_force 3 (some .int) [.ref (G.1 0 0), .int x1] μ (some (.int r), μ') := by
  refine Ct.intro (by decide) (Nat.le_of_ble_eq_true rfl) ?_
  intro φ hl hG F
  subst hl; subst hG
  exact S_force_ok F (Nat.le_refl _) h
def S_day_60 (k20 : Int32 → Int32 → Mem → Option (Int32 × Mem)) (x1 : Int32) (x2 : Int32) (μ : Mem) : Option (Int32 × Mem) :=
  chk (inb x2 6) <|
  nm (up μ 2 (ix x2) 3 (rd μ 18 0 3)) fun μ2 =>
  nm (x2 + 1) fun a3 =>
  k20 x1 a3 μ2
set_option maxHeartbeats 4000000 in
set_option maxRecDepth 100000 in
theorem S_day_60_ok {φ : Fr} {d : Nat} (F : Fx φ ΩA cX9_day RX9 3 (some .int)) (hd : 5 ≤ d) {k20 : Int32 → Int32 → Mem → Option (Int32 × Mem)} (hk20 : ∀ (x1 : Int32) (x2 : Int32) (μ : Mem) (r : Int32) (μ' : Mem), k20 x1 x2 μ = some (r, μ') → V φ ΩA 3 d 20 [some (rf φ 0 0), some (.int x1), some (.int x2)] [] μ (some (.int r), μ')) {x1 : Int32} {x2 : Int32} {μ : Mem} {r : Int32} {μ' : Mem} (h : S_day_60 k20 x1 x2 μ = some (r, μ')) : V φ ΩA 3 d 60 [some (rf φ 0 0), some (.int x1), some (.int x2)] [] μ (some (.int r), μ') := by
  unfold S_day_60 at h
  refine V.rload_n F dX9_day_60 rfl rfl ?_
  refine gf_RX9_10 F dX9_day_61 ?_
  refine gf_RX9_112 (by decide) F dX9_day_64 ?_
  refine V.iload_n F dX9_day_67 rfl rfl ?_
  obtain ⟨c1, h⟩ := chk_out h
  refine V.aald (t0 := 2) (n := 6) 2 (ix x2) F (mA3 (by decide)) rfl rfl c1 rfl dX9_day_68 ?_
  refine V.rload_n F dX9_day_69 rfl rfl ?_
  refine gf_RX9_49 F dX9_day_70 ?_
  refine gf_RX9_170 F dX9_day_73 ?_
  obtain ⟨μ2, eμ2, h⟩ := nm_out h
  refine pf_RX9_124 (Nat.lt_of_lt_of_le (inb_lt c1) (by decide)) F eμ2 dX9_day_76 ?_
  obtain ⟨a3, ea3, h⟩ := nm_out h
  refine V.iinc (z := 1) (L' := [some (rf φ 0 0), some (.int x1), some (.int a3)]) F dX9_day_79 rfl (by decide) ea3 (by decide) rfl rfl ?_
  refine V.goto (tgt := 20) F dX9_day_82 (by decide) ?_
  exact hk20 _ _ _ _ _ h
def S_day_20 (k20 : Int32 → Int32 → Mem → Option (Int32 × Mem)) (x1 : Int32) (x2 : Int32) (μ : Mem) : Option (Int32 × Mem) :=
  if x2 < (rd μ 1 0 3) then (
    bnd (S_seeAsIs x2 μ) fun μ4 =>
    bnd (S_rule μ4) fun r6 =>
    chk (r6 < 6) <|
    bnd2 (Ma_boilsInADay r6 (rd μ4 1 0 1) μ4) fun r9 μ10 =>
    if r9 = 0 then (
      S_day_60 k20 x1 x2 μ10)
    else (
      nm (x1 + 1) fun a12 =>
      S_day_60 k20 a12 x2 μ10))
  else (
    nm (up μ 1 0 0 ((rd μ 1 0 0) + 1)) fun μ2 =>
    some (x1, μ2))
set_option maxHeartbeats 4000000 in
set_option maxRecDepth 100000 in
theorem S_day_20_ok {φ : Fr} {d : Nat} (F : Fx φ ΩA cX9_day RX9 3 (some .int)) (hd : 5 ≤ d) {k20 : Int32 → Int32 → Mem → Option (Int32 × Mem)} (hk20 : ∀ (x1 : Int32) (x2 : Int32) (μ : Mem) (r : Int32) (μ' : Mem), k20 x1 x2 μ = some (r, μ') → V φ ΩA 3 d 20 [some (rf φ 0 0), some (.int x1), some (.int x2)] [] μ (some (.int r), μ')) {x1 : Int32} {x2 : Int32} {μ : Mem} {r : Int32} {μ' : Mem} (h : S_day_20 k20 x1 x2 μ = some (r, μ')) : V φ ΩA 3 d 20 [some (rf φ 0 0), some (.int x1), some (.int x2)] [] μ (some (.int r), μ') := by
  unfold S_day_20 at h
  refine V.iload_n F dX9_day_20 rfl rfl ?_
  refine V.rload_n F dX9_day_21 rfl rfl ?_
  refine gf_RX9_10 F dX9_day_22 ?_
  refine gf_RX9_131 (by decide) F dX9_day_25 ?_
  refine V.icmp_ge (tgt := 85) F dX9_day_28 (by decide) (fun c1 => ?_) (fun c1 => ?_)
  · have h := f_out h c1
    refine V.rload_n F dX9_day_85 rfl rfl ?_
    refine gf_RX9_10 F dX9_day_86 ?_
    refine V.dup F dX9_day_89 rfl ?_
    refine gf_RX9_106 (by decide) F dX9_day_90 ?_
    refine V.iconst (v := 1) F dX9_day_93 (by decide) ?_
    refine V.iadd F dX9_day_94 ?_
    obtain ⟨μ2, eμ2, h⟩ := nm_out h
    refine pf_RX9_106 (by decide) F eμ2 dX9_day_95 ?_
    refine V.iload_n F dX9_day_98 rfl rfl ?_
    obtain ⟨rfl, rfl⟩ := r2_out h
    exact V.iret F dX9_day_99
  · have h := t_out h c1
    refine V.rload_n F dX9_day_31 rfl rfl ?_
    refine V.iload_n F dX9_day_32 rfl rfl ?_
    obtain ⟨μ4, e3, h⟩ := bnd_out h
    refine V.callVv (f := 0) (i := 0) (As := [.int x2]) F ck_RX9_143 (S_seeAsIs_ct e3) (by omega) (by decide) rfl mA0 rfl rfl rfl (Nat.le_of_ble_eq_true rfl) dX9_day_33 ?_
    refine V.rload_n F dX9_day_36 rfl rfl ?_
    refine gf_RX9_49 F dX9_day_37 ?_
    refine V.rload_n F dX9_day_40 rfl rfl ?_
    obtain ⟨r6, e5, h⟩ := bnd_out h
    refine V.callVr (f := 0) (i := 0) (As := []) 5 r6 F ck_RX9_154 (S_rule_ct e5) (by omega) (by decide) rfl mA0 rfl rfl rfl (Nat.le_of_ble_eq_true rfl) dX9_day_41 ?_
    obtain ⟨c7, h⟩ := chk_out h
    refine V.rload_n F dX9_day_44 rfl rfl ?_
    refine gf_RX9_10 F dX9_day_45 ?_
    refine gf_RX9_109 (by decide) F dX9_day_48 ?_
    obtain ⟨r9, μ10, e8, h⟩ := bnd2_out h
    refine V.callVi (f := 18) (i := 0) (As := [rf φ 5 r6, .int (rd μ4 1 0 1)]) F ck_RX9_187 (Ma_boilsInADay_ct c7 e8) (by omega) (by decide) rfl mA18 rfl rfl rfl (Nat.le_of_ble_eq_true rfl) dX9_day_51 ?_
    refine V.if_eq (tgt := 60) F dX9_day_54 (by decide) (fun c11 => ?_) (fun c11 => ?_)
    · have h := t_out h c11
      exact S_day_60_ok F hd hk20 h
    · have h := f_out h c11
      obtain ⟨a12, ea12, h⟩ := nm_out h
      refine V.iinc (z := 1) (L' := [some (rf φ 0 0), some (.int a12), some (.int x2)]) F dX9_day_57 rfl (by decide) ea12 (by decide) rfl rfl ?_
      exact S_day_60_ok F hd hk20 h
def S_day_20L : Nat → Int32 → Int32 → Mem → Option (Int32 × Mem)
  | 0 => fun _ _ _ => none
  | n + 1 => S_day_20 (S_day_20L n)
set_option maxHeartbeats 4000000 in
set_option maxRecDepth 100000 in
theorem S_day_20L_ok {φ : Fr} {d : Nat} (F : Fx φ ΩA cX9_day RX9 3 (some .int)) (hd : 5 ≤ d) : ∀ (n : Nat) (x1 : Int32) (x2 : Int32) (μ : Mem) (r : Int32) (μ' : Mem), S_day_20L n x1 x2 μ = some (r, μ') → V φ ΩA 3 d 20 [some (rf φ 0 0), some (.int x1), some (.int x2)] [] μ (some (.int r), μ') := by
  intro n
  induction n with
  | zero => intro x1 x2 μ r μ' h; cases h
  | succ n ih => intro x1 x2 μ r μ' h; exact S_day_20_ok F hd ih h
def S_day (μ : Mem) : Option (Int32 × Mem) :=
  if (rd μ 1 0 0) < 999 then (
    S_day_20L 1000 0 0 μ)
  else (
    some ((-3), μ))
set_option maxHeartbeats 4000000 in
set_option maxRecDepth 100000 in
theorem S_day_ok {φ : Fr} {d : Nat} (F : Fx φ ΩA cX9_day RX9 3 (some .int)) (hd : 5 ≤ d) {μ : Mem} {r : Int32} {μ' : Mem} (h : S_day μ = some (r, μ')) : V φ ΩA 3 d 0 [some (rf φ 0 0), none, none] [] μ (some (.int r), μ') := by
  unfold S_day at h
  refine V.rload_n F dX9_day_0 rfl rfl ?_
  refine gf_RX9_10 F dX9_day_1 ?_
  refine gf_RX9_106 (by decide) F dX9_day_4 ?_
  refine V.sipush (v := 999) F dX9_day_7 (by decide) ?_
  refine V.icmp_lt (tgt := 16) F dX9_day_10 (by decide) (fun c1 => ?_) (fun c1 => ?_)
  · have h := t_out h c1
    refine V.iconst (v := 0) F dX9_day_16 (by decide) ?_
    refine V.istore_n (L' := [some (rf φ 0 0), some (.int 0), none]) F dX9_day_17 rfl (by decide) rfl rfl rfl ?_
    refine V.iconst (v := 0) F dX9_day_18 (by decide) ?_
    refine V.istore_n (L' := [some (rf φ 0 0), some (.int 0), some (.int 0)]) F dX9_day_19 rfl (by decide) rfl rfl rfl ?_
    exact S_day_20L_ok F hd 1000 _ _ _ _ _ h
  · have h := f_out h c1
    refine V.bipush (v := (-3)) F dX9_day_13 (by decide) ?_
    obtain ⟨rfl, rfl⟩ := r2_out h
    exact V.iret F dX9_day_15
set_option maxHeartbeats 4000000 in
set_option maxRecDepth 100000 in
theorem S_day_ct {l : Launch} {G : Glo} {μ : Mem} {r : Int32} {μ' : Mem} (h : S_day μ = some (r, μ')) : Ct l ΩA G 5 yX9_day cX9_day 3 (some .int) [.ref (G.1 0 0)] μ (some (.int r), μ') := by
  refine Ct.intro (by decide) (Nat.le_of_ble_eq_true rfl) ?_
  intro φ hl hG F
  subst hl; subst hG
  exact S_day_ok F (Nat.le_refl _) h
def S_isDays (x0 : Int32) (x1 : Int32) : Int32 :=
  if x0 < 0 then (
    0)
  else (
    if x1 < x0 then (
      0)
    else (
      1))
set_option maxHeartbeats 4000000 in
set_option maxRecDepth 100000 in
theorem S_isDays_ok {φ : Fr} {d : Nat} (F : Fx φ ΩA cX9_isDays RX9 2 (some .boolean)) (hd : 1 ≤ d) {x0 : Int32} {x1 : Int32} {μ : Mem} {r : Int32} (h : S_isDays x0 x1 = r) : V φ ΩA 2 d 0 [some (.int x0), some (.int x1)] [] μ (some (.int r), μ) := by
  unfold S_isDays at h
  refine V.iload_n F dX9_isDays_0 rfl rfl ?_
  refine V.if_lt (tgt := 13) F dX9_isDays_1 (by decide) (fun c1 => ?_) (fun c1 => ?_)
  · have h := t_out h c1
    refine V.iconst (v := 0) F dX9_isDays_13 (by decide) ?_
    obtain rfl := h
    exact V.zret F (by decide) dX9_isDays_14
  · have h := f_out h c1
    refine V.iload_n F dX9_isDays_4 rfl rfl ?_
    refine V.iload_n F dX9_isDays_5 rfl rfl ?_
    refine V.icmp_gt (tgt := 13) F dX9_isDays_6 (by decide) (fun c2 => ?_) (fun c2 => ?_)
    · have h := t_out h c2
      refine V.iconst (v := 0) F dX9_isDays_13 (by decide) ?_
      obtain rfl := h
      exact V.zret F (by decide) dX9_isDays_14
    · have h := f_out h c2
      refine V.iconst (v := 1) F dX9_isDays_9 (by decide) ?_
      refine V.goto (tgt := 14) F dX9_isDays_10 (by decide) ?_
      obtain rfl := h
      exact V.zret F (by decide) dX9_isDays_14
set_option maxHeartbeats 4000000 in
set_option maxRecDepth 100000 in
theorem S_isDays_ct {l : Launch} {G : Glo} {x0 : Int32} {x1 : Int32} {μ : Mem} {r : Int32} (h : S_isDays x0 x1 = r) : Ct l ΩA G 1 yX9_isDays cX9_isDays 2 (some .boolean) [.int x0, .int x1] μ (some (.int r), μ) := by
  refine Ct.intro (by decide) (Nat.le_of_ble_eq_true rfl) ?_
  intro φ hl hG F
  subst hl; subst hG
  exact S_isDays_ok F (Nat.le_refl _) h
def S_run_118 (k118 : Int32 → Int32 → Int32 → Int32 → Int32 → Mem → Option (Int32 × Mem)) (x1 : Int32) (x2 : Int32) (x4 : Int32) (x5 : Int32) (x6 : Int32) (μ : Mem) : Option (Int32 × Mem) :=
  if x6 < (rd μ 1 0 3) then (
    bnd (S_seeAsIs x6 μ) fun μ4 =>
    bnd (S_rule μ4) fun r6 =>
    chk (r6 < 6) <|
    bnd (Ma_lives r6 (rd μ4 1 0 1) x1 μ4) fun μ9 =>
    nm (x4 + (rd μ9 18 0 3)) fun a10 =>
    nm (x5 + (rd μ9 18 0 7)) fun a11 =>
    nm (x6 + 1) fun a12 =>
    k118 x1 x2 a10 a11 a12 μ9)
  else (
    if x2 = 0 then (
      some (x4, μ))
    else (
      some (x5, μ)))
set_option maxHeartbeats 4000000 in
set_option maxRecDepth 100000 in
theorem S_run_118_ok {φ : Fr} {d : Nat} (F : Fx φ ΩA cX9_run RX9 7 (some .int)) (hd : 6 ≤ d) {k118 : Int32 → Int32 → Int32 → Int32 → Int32 → Mem → Option (Int32 × Mem)} (hk118 : ∀ (x1 : Int32) (x2 : Int32) (x4 : Int32) (x5 : Int32) (x6 : Int32) (μ : Mem) (r : Int32) (μ' : Mem), k118 x1 x2 x4 x5 x6 μ = some (r, μ') → V φ ΩA 7 d 118 [some (rf φ 0 0), some (.int x1), some (.int x2), none, some (.int x4), some (.int x5), some (.int x6)] [] μ (some (.int r), μ')) {x1 : Int32} {x2 : Int32} {x4 : Int32} {x5 : Int32} {x6 : Int32} {μ : Mem} {r : Int32} {μ' : Mem} (h : S_run_118 k118 x1 x2 x4 x5 x6 μ = some (r, μ')) : V φ ΩA 7 d 118 [some (rf φ 0 0), some (.int x1), some (.int x2), none, some (.int x4), some (.int x5), some (.int x6)] [] μ (some (.int r), μ') := by
  unfold S_run_118 at h
  refine V.iload F dX9_run_118 rfl ?_
  refine V.rload_n F dX9_run_120 rfl rfl ?_
  refine gf_RX9_10 F dX9_run_121 ?_
  refine gf_RX9_131 (by decide) F dX9_run_124 ?_
  refine V.icmp_ge (tgt := 185) F dX9_run_127 (by decide) (fun c1 => ?_) (fun c1 => ?_)
  · have h := f_out h c1
    refine V.iload_n F dX9_run_185 rfl rfl ?_
    refine V.if_ne (tgt := 194) F dX9_run_186 (by decide) (fun c2 => ?_) (fun c2 => ?_)
    · have h := f_out h c2
      refine V.iload F dX9_run_194 rfl ?_
      obtain ⟨rfl, rfl⟩ := r2_out h
      exact V.iret F dX9_run_196
    · have h := t_out h c2
      refine V.iload F dX9_run_189 rfl ?_
      refine V.goto (tgt := 196) F dX9_run_191 (by decide) ?_
      obtain ⟨rfl, rfl⟩ := r2_out h
      exact V.iret F dX9_run_196
  · have h := t_out h c1
    refine V.rload_n F dX9_run_130 rfl rfl ?_
    refine V.iload F dX9_run_131 rfl ?_
    obtain ⟨μ4, e3, h⟩ := bnd_out h
    refine V.callVv (f := 0) (i := 0) (As := [.int x6]) F ck_RX9_143 (S_seeAsIs_ct e3) (by omega) (by decide) rfl mA0 rfl rfl rfl (Nat.le_of_ble_eq_true rfl) dX9_run_133 ?_
    refine V.rload_n F dX9_run_136 rfl rfl ?_
    refine gf_RX9_49 F dX9_run_137 ?_
    refine V.rload_n F dX9_run_140 rfl rfl ?_
    obtain ⟨r6, e5, h⟩ := bnd_out h
    refine V.callVr (f := 0) (i := 0) (As := []) 5 r6 F ck_RX9_154 (S_rule_ct e5) (by omega) (by decide) rfl mA0 rfl rfl rfl (Nat.le_of_ble_eq_true rfl) dX9_run_141 ?_
    obtain ⟨c7, h⟩ := chk_out h
    refine V.rload_n F dX9_run_144 rfl rfl ?_
    refine gf_RX9_10 F dX9_run_145 ?_
    refine gf_RX9_109 (by decide) F dX9_run_148 ?_
    refine V.iload_n F dX9_run_151 rfl rfl ?_
    obtain ⟨μ9, e8, h⟩ := bnd_out h
    refine V.callVv (f := 18) (i := 0) (As := [rf φ 5 r6, .int (rd μ4 1 0 1), .int x1]) F ck_RX9_194 (Ma_lives_ct c7 e8) (by omega) (by decide) rfl mA18 rfl rfl rfl (Nat.le_of_ble_eq_true rfl) dX9_run_152 ?_
    refine V.iload F dX9_run_155 rfl ?_
    refine V.rload_n F dX9_run_157 rfl rfl ?_
    refine gf_RX9_49 F dX9_run_158 ?_
    refine gf_RX9_170 F dX9_run_161 ?_
    refine V.iadd F dX9_run_164 ?_
    obtain ⟨a10, ea10, h⟩ := nm_out h
    refine V.istore (L' := [some (rf φ 0 0), some (.int x1), some (.int x2), none, some (.int a10), some (.int x5), some (.int x6)]) F dX9_run_165 (by decide) rfl ea10 rfl ?_
    refine V.iload F dX9_run_167 rfl ?_
    refine V.rload_n F dX9_run_169 rfl rfl ?_
    refine gf_RX9_49 F dX9_run_170 ?_
    refine gf_RX9_201 F dX9_run_173 ?_
    refine V.iadd F dX9_run_176 ?_
    obtain ⟨a11, ea11, h⟩ := nm_out h
    refine V.istore (L' := [some (rf φ 0 0), some (.int x1), some (.int x2), none, some (.int a10), some (.int a11), some (.int x6)]) F dX9_run_177 (by decide) rfl ea11 rfl ?_
    obtain ⟨a12, ea12, h⟩ := nm_out h
    refine V.iinc (z := 1) (L' := [some (rf φ 0 0), some (.int x1), some (.int x2), none, some (.int a10), some (.int a11), some (.int a12)]) F dX9_run_179 rfl (by decide) ea12 (by decide) rfl rfl ?_
    refine V.goto (tgt := 118) F dX9_run_182 (by decide) ?_
    exact hk118 _ _ _ _ _ _ _ _ h
def S_run_118L : Nat → Int32 → Int32 → Int32 → Int32 → Int32 → Mem → Option (Int32 × Mem)
  | 0 => fun _ _ _ _ _ _ => none
  | n + 1 => S_run_118 (S_run_118L n)
set_option maxHeartbeats 4000000 in
set_option maxRecDepth 100000 in
theorem S_run_118L_ok {φ : Fr} {d : Nat} (F : Fx φ ΩA cX9_run RX9 7 (some .int)) (hd : 6 ≤ d) : ∀ (n : Nat) (x1 : Int32) (x2 : Int32) (x4 : Int32) (x5 : Int32) (x6 : Int32) (μ : Mem) (r : Int32) (μ' : Mem), S_run_118L n x1 x2 x4 x5 x6 μ = some (r, μ') → V φ ΩA 7 d 118 [some (rf φ 0 0), some (.int x1), some (.int x2), none, some (.int x4), some (.int x5), some (.int x6)] [] μ (some (.int r), μ') := by
  intro n
  induction n with
  | zero => intro x1 x2 x4 x5 x6 μ r μ' h; cases h
  | succ n ih => intro x1 x2 x4 x5 x6 μ r μ' h; exact S_run_118_ok F hd ih h
def S_run_54 (x1 : Int32) (x2 : Int32) (x3 : Int32) (μ : Mem) : Option (Int32 × Mem) :=
  if x3 = 0 then (
    S_run_118L 1000 x1 x2 0 0 0 μ)
  else (
    bnd (S_seeAsIs (irm x2 10) μ) fun μ3 =>
    bnd (S_rule μ3) fun r5 =>
    chk (r5 < 6) <|
    bnd (Ma_lives r5 (rd μ3 1 0 1) x1 μ3) fun μ8 =>
    if x2 < 20 then (
      some (rd μ8 18 0 3, μ8))
    else (
      some (rd μ8 18 0 8, μ8)))
set_option maxHeartbeats 4000000 in
set_option maxRecDepth 100000 in
theorem S_run_54_ok {φ : Fr} {d : Nat} (F : Fx φ ΩA cX9_run RX9 7 (some .int)) (hd : 6 ≤ d) {x1 : Int32} {x2 : Int32} {x3 : Int32} {μ : Mem} {r : Int32} {μ' : Mem} (h : S_run_54 x1 x2 x3 μ = some (r, μ')) : V φ ΩA 7 d 54 [some (rf φ 0 0), some (.int x1), some (.int x2), some (.int x3), none, none, none] [] μ (some (.int r), μ') := by
  unfold S_run_54 at h
  refine V.iload_n F dX9_run_54 rfl rfl ?_
  refine V.if_eq (tgt := 109) F dX9_run_55 (by decide) (fun c1 => ?_) (fun c1 => ?_)
  · have h := t_out h c1
    refine V.iconst (v := 0) F dX9_run_109 (by decide) ?_
    refine V.istore (L' := [some (rf φ 0 0), some (.int x1), some (.int x2), some (.int x3), some (.int 0), none, none]) F dX9_run_110 (by decide) rfl rfl rfl ?_
    refine V.iconst (v := 0) F dX9_run_112 (by decide) ?_
    refine V.istore (L' := [some (rf φ 0 0), some (.int x1), some (.int x2), some (.int x3), some (.int 0), some (.int 0), none]) F dX9_run_113 (by decide) rfl rfl rfl ?_
    refine V.iconst (v := 0) F dX9_run_115 (by decide) ?_
    refine V.istore (L' := [some (rf φ 0 0), some (.int x1), some (.int x2), some (.int x3), some (.int 0), some (.int 0), some (.int 0)]) F dX9_run_116 (by decide) rfl rfl rfl ?_
    refine V.msk (L' := [some (rf φ 0 0), some (.int x1), some (.int x2), none, some (.int 0), some (.int 0), some (.int 0)]) [true, true, true, false, true, true, true] rfl ?_
    exact S_run_118L_ok F hd 1000 _ _ _ _ _ _ _ _ h
  · have h := f_out h c1
    refine V.rload_n F dX9_run_58 rfl rfl ?_
    refine V.iload_n F dX9_run_59 rfl rfl ?_
    refine V.bipush (v := 10) F dX9_run_60 (by decide) ?_
    refine V.irem F dX9_run_62 (by decide) ?_
    obtain ⟨μ3, e2, h⟩ := bnd_out h
    refine V.callVv (f := 0) (i := 0) (As := [.int (irm x2 10)]) F ck_RX9_143 (S_seeAsIs_ct e2) (by omega) (by decide) rfl mA0 rfl rfl rfl (Nat.le_of_ble_eq_true rfl) dX9_run_63 ?_
    refine V.rload_n F dX9_run_66 rfl rfl ?_
    refine gf_RX9_49 F dX9_run_67 ?_
    refine V.rload_n F dX9_run_70 rfl rfl ?_
    obtain ⟨r5, e4, h⟩ := bnd_out h
    refine V.callVr (f := 0) (i := 0) (As := []) 5 r5 F ck_RX9_154 (S_rule_ct e4) (by omega) (by decide) rfl mA0 rfl rfl rfl (Nat.le_of_ble_eq_true rfl) dX9_run_71 ?_
    obtain ⟨c6, h⟩ := chk_out h
    refine V.rload_n F dX9_run_74 rfl rfl ?_
    refine gf_RX9_10 F dX9_run_75 ?_
    refine gf_RX9_109 (by decide) F dX9_run_78 ?_
    refine V.iload_n F dX9_run_81 rfl rfl ?_
    obtain ⟨μ8, e7, h⟩ := bnd_out h
    refine V.callVv (f := 18) (i := 0) (As := [rf φ 5 r5, .int (rd μ3 1 0 1), .int x1]) F ck_RX9_194 (Ma_lives_ct c6 e7) (by omega) (by decide) rfl mA18 rfl rfl rfl (Nat.le_of_ble_eq_true rfl) dX9_run_82 ?_
    refine V.iload_n F dX9_run_85 rfl rfl ?_
    refine V.bipush (v := 20) F dX9_run_86 (by decide) ?_
    refine V.icmp_ge (tgt := 101) F dX9_run_88 (by decide) (fun c9 => ?_) (fun c9 => ?_)
    · have h := f_out h c9
      refine V.rload_n F dX9_run_101 rfl rfl ?_
      refine gf_RX9_49 F dX9_run_102 ?_
      refine gf_RX9_198 F dX9_run_105 ?_
      obtain ⟨rfl, rfl⟩ := r2_out h
      exact V.iret F dX9_run_108
    · have h := t_out h c9
      refine V.rload_n F dX9_run_91 rfl rfl ?_
      refine gf_RX9_49 F dX9_run_92 ?_
      refine gf_RX9_170 F dX9_run_95 ?_
      refine V.goto (tgt := 108) F dX9_run_98 (by decide) ?_
      obtain ⟨rfl, rfl⟩ := r2_out h
      exact V.iret F dX9_run_108
def S_run_28 (x1 : Int32) (x2 : Int32) (y0 : Int32) (μ : Mem) : Option (Int32 × Mem) :=
  nm (S_isDays x1 40) fun r2 =>
  if r2 = 0 then (
    some ((-2), μ))
  else (
    if x2 = 0 then (
      S_run_54 x1 x2 y0 μ)
    else (
      if x2 = 1 then (
        S_run_54 x1 x2 y0 μ)
      else (
        if y0 = 0 then (
          some ((-2), μ))
        else (
          S_run_54 x1 x2 y0 μ))))
set_option maxHeartbeats 4000000 in
set_option maxRecDepth 100000 in
theorem S_run_28_ok {φ : Fr} {d : Nat} (F : Fx φ ΩA cX9_run RX9 7 (some .int)) (hd : 6 ≤ d) {x1 : Int32} {x2 : Int32} {y0 : Int32} {μ : Mem} {r : Int32} {μ' : Mem} (h : S_run_28 x1 x2 y0 μ = some (r, μ')) : V φ ΩA 7 d 28 [some (rf φ 0 0), some (.int x1), some (.int x2), none, none, none, none] [.int y0] μ (some (.int r), μ') := by
  unfold S_run_28 at h
  refine V.istore_n (L' := [some (rf φ 0 0), some (.int x1), some (.int x2), some (.int y0), none, none, none]) F dX9_run_28 rfl (by decide) rfl rfl rfl ?_
  refine V.iload_n F dX9_run_29 rfl rfl ?_
  refine V.bipush (v := 40) F dX9_run_30 (by decide) ?_
  obtain ⟨r2, e1, h⟩ := nm_out h
  refine V.callSi (As := [.int x1, .int 40]) F ck_RX9_191 (S_isDays_ct e1) (by omega) (by decide) rfl rfl (Nat.le_of_ble_eq_true rfl) dX9_run_32 ?_
  refine V.if_eq (tgt := 51) F dX9_run_35 (by decide) (fun c3 => ?_) (fun c3 => ?_)
  · have h := t_out h c3
    refine V.bipush (v := (-2)) F dX9_run_51 (by decide) ?_
    obtain ⟨rfl, rfl⟩ := r2_out h
    exact V.iret F dX9_run_53
  · have h := f_out h c3
    refine V.iload_n F dX9_run_38 rfl rfl ?_
    refine V.if_eq (tgt := 54) F dX9_run_39 (by decide) (fun c4 => ?_) (fun c4 => ?_)
    · have h := t_out h c4
      exact S_run_54_ok F hd h
    · have h := f_out h c4
      refine V.iload_n F dX9_run_42 rfl rfl ?_
      refine V.iconst (v := 1) F dX9_run_43 (by decide) ?_
      refine V.icmp_eq (tgt := 54) F dX9_run_44 (by decide) (fun c5 => ?_) (fun c5 => ?_)
      · have h := t_out h c5
        exact S_run_54_ok F hd h
      · have h := f_out h c5
        refine V.iload_n F dX9_run_47 rfl rfl ?_
        refine V.if_ne (tgt := 54) F dX9_run_48 (by decide) (fun c6 => ?_) (fun c6 => ?_)
        · have h := f_out h c6
          exact S_run_54_ok F hd h
        · have h := t_out h c6
          refine V.bipush (v := (-2)) F dX9_run_51 (by decide) ?_
          obtain ⟨rfl, rfl⟩ := r2_out h
          exact V.iret F dX9_run_53
def S_run (x1 : Int32) (x2 : Int32) (μ : Mem) : Option (Int32 × Mem) :=
  if x2 < 10 then (
    S_run_28 x1 x2 0 μ)
  else (
    if x2 < 30 then (
      nm (S_isGroom (irm x2 10) μ) fun r4 =>
      if r4 = 0 then (
        S_run_28 x1 x2 0 μ)
      else (
        S_run_28 x1 x2 1 μ))
    else (
      S_run_28 x1 x2 0 μ))
set_option maxHeartbeats 4000000 in
set_option maxRecDepth 100000 in
theorem S_run_ok {φ : Fr} {d : Nat} (F : Fx φ ΩA cX9_run RX9 7 (some .int)) (hd : 6 ≤ d) {x1 : Int32} {x2 : Int32} {μ : Mem} {r : Int32} {μ' : Mem} (h : S_run x1 x2 μ = some (r, μ')) : V φ ΩA 7 d 0 [some (rf φ 0 0), some (.int x1), some (.int x2), none, none, none, none] [] μ (some (.int r), μ') := by
  unfold S_run at h
  refine V.iload_n F dX9_run_0 rfl rfl ?_
  refine V.bipush (v := 10) F dX9_run_1 (by decide) ?_
  refine V.icmp_lt (tgt := 27) F dX9_run_3 (by decide) (fun c1 => ?_) (fun c1 => ?_)
  · have h := t_out h c1
    refine V.iconst (v := 0) F dX9_run_27 (by decide) ?_
    exact S_run_28_ok F hd h
  · have h := f_out h c1
    refine V.iload_n F dX9_run_6 rfl rfl ?_
    refine V.bipush (v := 30) F dX9_run_7 (by decide) ?_
    refine V.icmp_ge (tgt := 27) F dX9_run_9 (by decide) (fun c2 => ?_) (fun c2 => ?_)
    · have h := f_out h c2
      refine V.iconst (v := 0) F dX9_run_27 (by decide) ?_
      exact S_run_28_ok F hd h
    · have h := t_out h c2
      refine V.rload_n F dX9_run_12 rfl rfl ?_
      refine V.iload_n F dX9_run_13 rfl rfl ?_
      refine V.bipush (v := 10) F dX9_run_14 (by decide) ?_
      refine V.irem F dX9_run_16 (by decide) ?_
      obtain ⟨r4, e3, h⟩ := nm_out h
      refine V.callVi (f := 0) (i := 0) (As := [.int (irm x2 10)]) F ck_RX9_140 (S_isGroom_ct e3) (by omega) (by decide) rfl mA0 rfl rfl rfl (Nat.le_of_ble_eq_true rfl) dX9_run_17 ?_
      refine V.if_eq (tgt := 27) F dX9_run_20 (by decide) (fun c5 => ?_) (fun c5 => ?_)
      · have h := t_out h c5
        refine V.iconst (v := 0) F dX9_run_27 (by decide) ?_
        exact S_run_28_ok F hd h
      · have h := f_out h c5
        refine V.iconst (v := 1) F dX9_run_23 (by decide) ?_
        refine V.goto (tgt := 28) F dX9_run_24 (by decide) ?_
        exact S_run_28_ok F hd h
set_option maxHeartbeats 4000000 in
set_option maxRecDepth 100000 in
theorem S_run_ct {l : Launch} {G : Glo} {x1 : Int32} {x2 : Int32} {μ : Mem} {r : Int32} {μ' : Mem} (h : S_run x1 x2 μ = some (r, μ')) : Ct l ΩA G 6 yX9_run cX9_run 7 (some .int) [.ref (G.1 0 0), .int x1, .int x2] μ (some (.int r), μ') := by
  refine Ct.intro (by decide) (Nat.le_of_ble_eq_true rfl) ?_
  intro φ hl hG F
  subst hl; subst hG
  exact S_run_ok F (Nat.le_refl _) h
def S_ringOf_7 (k7 : Int32 → Int32 → Int32 → Mem → Option Int32) (x2 : Int32) (x3 : Int32) (x4 : Int32) (μ : Mem) : Option Int32 :=
  if x4 < (rd μ 1 0 3) then (
    nm (x2 ||| (shl 1 x3)) fun a2 =>
    chk (inb x3 6) <|
    nm (rd μ 2 (ix x3) 4) fun a4 =>
    nm (x4 + 1) fun a5 =>
    k7 a2 a4 a5 μ)
  else (
    some x2)
set_option maxHeartbeats 4000000 in
set_option maxRecDepth 100000 in
theorem S_ringOf_7_ok {φ : Fr} {d : Nat} (F : Fx φ ΩA cX9_ringOf RX9 5 (some .int)) (hd : 1 ≤ d) {k7 : Int32 → Int32 → Int32 → Mem → Option Int32} (hk7 : ∀ (x2 : Int32) (x3 : Int32) (x4 : Int32) (μ : Mem) (r : Int32), k7 x2 x3 x4 μ = some r → V φ ΩA 5 d 7 [some (rf φ 0 0), none, some (.int x2), some (.int x3), some (.int x4)] [] μ (some (.int r), μ)) {x2 : Int32} {x3 : Int32} {x4 : Int32} {μ : Mem} {r : Int32} (h : S_ringOf_7 k7 x2 x3 x4 μ = some r) : V φ ΩA 5 d 7 [some (rf φ 0 0), none, some (.int x2), some (.int x3), some (.int x4)] [] μ (some (.int r), μ) := by
  unfold S_ringOf_7 at h
  refine V.iload F dX9_ringOf_7 rfl ?_
  refine V.rload_n F dX9_ringOf_9 rfl rfl ?_
  refine gf_RX9_10 F dX9_ringOf_10 ?_
  refine gf_RX9_131 (by decide) F dX9_ringOf_13 ?_
  refine V.icmp_ge (tgt := 44) F dX9_ringOf_16 (by decide) (fun c1 => ?_) (fun c1 => ?_)
  · have h := f_out h c1
    refine V.iload_n F dX9_ringOf_44 rfl rfl ?_
    obtain rfl := r1_out h
    exact V.iret F dX9_ringOf_45
  · have h := t_out h c1
    refine V.iload_n F dX9_ringOf_19 rfl rfl ?_
    refine V.iconst (v := 1) F dX9_ringOf_20 (by decide) ?_
    refine V.iload_n F dX9_ringOf_21 rfl rfl ?_
    refine V.ishl F dX9_ringOf_22 ?_
    refine V.ior F dX9_ringOf_23 ?_
    obtain ⟨a2, ea2, h⟩ := nm_out h
    refine V.istore_n (L' := [some (rf φ 0 0), none, some (.int a2), some (.int x3), some (.int x4)]) F dX9_ringOf_24 rfl (by decide) rfl ea2 rfl ?_
    refine V.rload_n F dX9_ringOf_25 rfl rfl ?_
    refine gf_RX9_10 F dX9_ringOf_26 ?_
    refine gf_RX9_112 (by decide) F dX9_ringOf_29 ?_
    refine V.iload_n F dX9_ringOf_32 rfl rfl ?_
    obtain ⟨c3, h⟩ := chk_out h
    refine V.aald (t0 := 2) (n := 6) 2 (ix x3) F (mA3 (by decide)) rfl rfl c3 rfl dX9_ringOf_33 ?_
    refine gf_RX9_137 (Nat.lt_of_lt_of_le (inb_lt c3) (by decide)) F dX9_ringOf_34 ?_
    obtain ⟨a4, ea4, h⟩ := nm_out h
    refine V.istore_n (L' := [some (rf φ 0 0), none, some (.int a2), some (.int a4), some (.int x4)]) F dX9_ringOf_37 rfl (by decide) rfl ea4 rfl ?_
    obtain ⟨a5, ea5, h⟩ := nm_out h
    refine V.iinc (z := 1) (L' := [some (rf φ 0 0), none, some (.int a2), some (.int a4), some (.int a5)]) F dX9_ringOf_38 rfl (by decide) ea5 (by decide) rfl rfl ?_
    refine V.goto (tgt := 7) F dX9_ringOf_41 (by decide) ?_
    exact hk7 _ _ _ _ _ h
def S_ringOf_7L : Nat → Int32 → Int32 → Int32 → Mem → Option Int32
  | 0 => fun _ _ _ _ => none
  | n + 1 => S_ringOf_7 (S_ringOf_7L n)
set_option maxHeartbeats 4000000 in
set_option maxRecDepth 100000 in
theorem S_ringOf_7L_ok {φ : Fr} {d : Nat} (F : Fx φ ΩA cX9_ringOf RX9 5 (some .int)) (hd : 1 ≤ d) : ∀ (n : Nat) (x2 : Int32) (x3 : Int32) (x4 : Int32) (μ : Mem) (r : Int32), S_ringOf_7L n x2 x3 x4 μ = some r → V φ ΩA 5 d 7 [some (rf φ 0 0), none, some (.int x2), some (.int x3), some (.int x4)] [] μ (some (.int r), μ) := by
  intro n
  induction n with
  | zero => intro x2 x3 x4 μ r h; cases h
  | succ n ih => intro x2 x3 x4 μ r h; exact S_ringOf_7_ok F hd ih h
def S_ringOf (x1 : Int32) (μ : Mem) : Option Int32 :=
  S_ringOf_7L 1000 0 x1 0 μ
set_option maxHeartbeats 4000000 in
set_option maxRecDepth 100000 in
theorem S_ringOf_ok {φ : Fr} {d : Nat} (F : Fx φ ΩA cX9_ringOf RX9 5 (some .int)) (hd : 1 ≤ d) {x1 : Int32} {μ : Mem} {r : Int32} (h : S_ringOf x1 μ = some r) : V φ ΩA 5 d 0 [some (rf φ 0 0), some (.int x1), none, none, none] [] μ (some (.int r), μ) := by
  unfold S_ringOf at h
  refine V.iconst (v := 0) F dX9_ringOf_0 (by decide) ?_
  refine V.istore_n (L' := [some (rf φ 0 0), some (.int x1), some (.int 0), none, none]) F dX9_ringOf_1 rfl (by decide) rfl rfl rfl ?_
  refine V.iload_n F dX9_ringOf_2 rfl rfl ?_
  refine V.istore_n (L' := [some (rf φ 0 0), some (.int x1), some (.int 0), some (.int x1), none]) F dX9_ringOf_3 rfl (by decide) rfl rfl rfl ?_
  refine V.iconst (v := 0) F dX9_ringOf_4 (by decide) ?_
  refine V.istore (L' := [some (rf φ 0 0), some (.int x1), some (.int 0), some (.int x1), some (.int 0)]) F dX9_ringOf_5 (by decide) rfl rfl rfl ?_
  refine V.msk (L' := [some (rf φ 0 0), none, some (.int 0), some (.int x1), some (.int 0)]) [true, false, true, true, true] rfl ?_
  exact S_ringOf_7L_ok F hd 1000 _ _ _ _ _ h
set_option maxHeartbeats 4000000 in
set_option maxRecDepth 100000 in
theorem S_ringOf_ct {l : Launch} {G : Glo} {x1 : Int32} {μ : Mem} {r : Int32} (h : S_ringOf x1 μ = some r) : Ct l ΩA G 1 yX9_ringOf cX9_ringOf 5 (some .int) [.ref (G.1 0 0), .int x1] μ (some (.int r), μ) := by
  refine Ct.intro (by decide) (Nat.le_of_ble_eq_true rfl) ?_
  intro φ hl hG F
  subst hl; subst hG
  exact S_ringOf_ok F (Nat.le_refl _) h
def S_firstChange_23 (k2 : Int32 → Mem → Option Int32) (k23 : Int32 → Int32 → Int32 → Mem → Option Int32) (x1 : Int32) (x2 : Int32) (x3 : Int32) (μ : Mem) : Option Int32 :=
  if x3 < (rd μ 1 0 3) then (
    if ((shr x2 x3) &&& 1) = 1 then (
      some ((10 * x1) + x3))
    else (
      nm (x3 + 1) fun a4 =>
      k23 x1 x2 a4 μ))
  else (
    nm (x1 + 1) fun a2 =>
    k2 a2 μ)
set_option maxHeartbeats 4000000 in
set_option maxRecDepth 100000 in
theorem S_firstChange_23_ok {φ : Fr} {d : Nat} (F : Fx φ ΩA cX9_firstChange RX9 4 (some .int)) (hd : 2 ≤ d) {k2 : Int32 → Mem → Option Int32} (hk2 : ∀ (x1 : Int32) (μ : Mem) (r : Int32), k2 x1 μ = some r → V φ ΩA 4 d 2 [some (rf φ 0 0), some (.int x1), none, none] [] μ (some (.int r), μ)) {k23 : Int32 → Int32 → Int32 → Mem → Option Int32} (hk23 : ∀ (x1 : Int32) (x2 : Int32) (x3 : Int32) (μ : Mem) (r : Int32), k23 x1 x2 x3 μ = some r → V φ ΩA 4 d 23 [some (rf φ 0 0), some (.int x1), some (.int x2), some (.int x3)] [] μ (some (.int r), μ)) {x1 : Int32} {x2 : Int32} {x3 : Int32} {μ : Mem} {r : Int32} (h : S_firstChange_23 k2 k23 x1 x2 x3 μ = some r) : V φ ΩA 4 d 23 [some (rf φ 0 0), some (.int x1), some (.int x2), some (.int x3)] [] μ (some (.int r), μ) := by
  unfold S_firstChange_23 at h
  refine V.iload_n F dX9_firstChange_23 rfl rfl ?_
  refine V.rload_n F dX9_firstChange_24 rfl rfl ?_
  refine gf_RX9_10 F dX9_firstChange_25 ?_
  refine gf_RX9_131 (by decide) F dX9_firstChange_28 ?_
  refine V.icmp_ge (tgt := 56) F dX9_firstChange_31 (by decide) (fun c1 => ?_) (fun c1 => ?_)
  · have h := f_out h c1
    obtain ⟨a2, ea2, h⟩ := nm_out h
    refine V.iinc (z := 1) (L' := [some (rf φ 0 0), some (.int a2), some (.int x2), some (.int x3)]) F dX9_firstChange_56 rfl (by decide) ea2 (by decide) rfl rfl ?_
    refine V.goto (tgt := 2) F dX9_firstChange_59 (by decide) ?_
    refine V.msk (L' := [some (rf φ 0 0), some (.int a2), none, none]) [true, true, false, false] rfl ?_
    exact hk2 _ _ _ h
  · have h := t_out h c1
    refine V.iload_n F dX9_firstChange_34 rfl rfl ?_
    refine V.iload_n F dX9_firstChange_35 rfl rfl ?_
    refine V.ishr F dX9_firstChange_36 ?_
    refine V.iconst (v := 1) F dX9_firstChange_37 (by decide) ?_
    refine V.iand F dX9_firstChange_38 ?_
    refine V.iconst (v := 1) F dX9_firstChange_39 (by decide) ?_
    refine V.icmp_ne (tgt := 50) F dX9_firstChange_40 (by decide) (fun c3 => ?_) (fun c3 => ?_)
    · have h := f_out h c3
      obtain ⟨a4, ea4, h⟩ := nm_out h
      refine V.iinc (z := 1) (L' := [some (rf φ 0 0), some (.int x1), some (.int x2), some (.int a4)]) F dX9_firstChange_50 rfl (by decide) ea4 (by decide) rfl rfl ?_
      refine V.goto (tgt := 23) F dX9_firstChange_53 (by decide) ?_
      exact hk23 _ _ _ _ _ h
    · have h := t_out h c3
      refine V.bipush (v := 10) F dX9_firstChange_43 (by decide) ?_
      refine V.iload_n F dX9_firstChange_45 rfl rfl ?_
      refine V.imul F dX9_firstChange_46 ?_
      refine V.iload_n F dX9_firstChange_47 rfl rfl ?_
      refine V.iadd F dX9_firstChange_48 ?_
      obtain rfl := r1_out h
      exact V.iret F dX9_firstChange_49
def S_firstChange_23L (k2 : Int32 → Mem → Option Int32) : Nat → Int32 → Int32 → Int32 → Mem → Option Int32
  | 0 => fun _ _ _ _ => none
  | n + 1 => S_firstChange_23 k2 (S_firstChange_23L k2 n)
set_option maxHeartbeats 4000000 in
set_option maxRecDepth 100000 in
theorem S_firstChange_23L_ok {φ : Fr} {d : Nat} (F : Fx φ ΩA cX9_firstChange RX9 4 (some .int)) (hd : 2 ≤ d) {k2 : Int32 → Mem → Option Int32} (hk2 : ∀ (x1 : Int32) (μ : Mem) (r : Int32), k2 x1 μ = some r → V φ ΩA 4 d 2 [some (rf φ 0 0), some (.int x1), none, none] [] μ (some (.int r), μ)) : ∀ (n : Nat) (x1 : Int32) (x2 : Int32) (x3 : Int32) (μ : Mem) (r : Int32), S_firstChange_23L k2 n x1 x2 x3 μ = some r → V φ ΩA 4 d 23 [some (rf φ 0 0), some (.int x1), some (.int x2), some (.int x3)] [] μ (some (.int r), μ) := by
  intro n
  induction n with
  | zero => intro x1 x2 x3 μ r h; cases h
  | succ n ih => intro x1 x2 x3 μ r h; exact S_firstChange_23_ok F hd hk2 ih h
def S_firstChange_2 (k2 : Int32 → Mem → Option Int32) (x1 : Int32) (μ : Mem) : Option Int32 :=
  if x1 < (rd μ 1 0 3) then (
    bnd (S_ringOf x1 μ) fun r3 =>
    nm (x1 + 1) fun a4 =>
    S_firstChange_23L k2 1000 x1 r3 a4 μ)
  else (
    some (-1))
set_option maxHeartbeats 4000000 in
set_option maxRecDepth 100000 in
theorem S_firstChange_2_ok {φ : Fr} {d : Nat} (F : Fx φ ΩA cX9_firstChange RX9 4 (some .int)) (hd : 2 ≤ d) {k2 : Int32 → Mem → Option Int32} (hk2 : ∀ (x1 : Int32) (μ : Mem) (r : Int32), k2 x1 μ = some r → V φ ΩA 4 d 2 [some (rf φ 0 0), some (.int x1), none, none] [] μ (some (.int r), μ)) {x1 : Int32} {μ : Mem} {r : Int32} (h : S_firstChange_2 k2 x1 μ = some r) : V φ ΩA 4 d 2 [some (rf φ 0 0), some (.int x1), none, none] [] μ (some (.int r), μ) := by
  unfold S_firstChange_2 at h
  refine V.iload_n F dX9_firstChange_2 rfl rfl ?_
  refine V.rload_n F dX9_firstChange_3 rfl rfl ?_
  refine gf_RX9_10 F dX9_firstChange_4 ?_
  refine gf_RX9_131 (by decide) F dX9_firstChange_7 ?_
  refine V.icmp_ge (tgt := 62) F dX9_firstChange_10 (by decide) (fun c1 => ?_) (fun c1 => ?_)
  · have h := f_out h c1
    refine V.iconst (v := (-1)) F dX9_firstChange_62 (by decide) ?_
    obtain rfl := r1_out h
    exact V.iret F dX9_firstChange_63
  · have h := t_out h c1
    refine V.rload_n F dX9_firstChange_13 rfl rfl ?_
    refine V.iload_n F dX9_firstChange_14 rfl rfl ?_
    obtain ⟨r3, e2, h⟩ := bnd_out h
    refine V.callVi (f := 0) (i := 0) (As := [.int x1]) F ck_RX9_217 (S_ringOf_ct e2) (by omega) (by decide) rfl mA0 rfl rfl rfl (Nat.le_of_ble_eq_true rfl) dX9_firstChange_15 ?_
    refine V.istore_n (L' := [some (rf φ 0 0), some (.int x1), some (.int r3), none]) F dX9_firstChange_18 rfl (by decide) rfl rfl rfl ?_
    refine V.iload_n F dX9_firstChange_19 rfl rfl ?_
    refine V.iconst (v := 1) F dX9_firstChange_20 (by decide) ?_
    refine V.iadd F dX9_firstChange_21 ?_
    obtain ⟨a4, ea4, h⟩ := nm_out h
    refine V.istore_n (L' := [some (rf φ 0 0), some (.int x1), some (.int r3), some (.int a4)]) F dX9_firstChange_22 rfl (by decide) rfl ea4 rfl ?_
    exact S_firstChange_23L_ok F hd hk2 1000 _ _ _ _ _ h
def S_firstChange_2L : Nat → Int32 → Mem → Option Int32
  | 0 => fun _ _ => none
  | n + 1 => S_firstChange_2 (S_firstChange_2L n)
set_option maxHeartbeats 4000000 in
set_option maxRecDepth 100000 in
theorem S_firstChange_2L_ok {φ : Fr} {d : Nat} (F : Fx φ ΩA cX9_firstChange RX9 4 (some .int)) (hd : 2 ≤ d) : ∀ (n : Nat) (x1 : Int32) (μ : Mem) (r : Int32), S_firstChange_2L n x1 μ = some r → V φ ΩA 4 d 2 [some (rf φ 0 0), some (.int x1), none, none] [] μ (some (.int r), μ) := by
  intro n
  induction n with
  | zero => intro x1 μ r h; cases h
  | succ n ih => intro x1 μ r h; exact S_firstChange_2_ok F hd ih h
def S_firstChange (μ : Mem) : Option Int32 :=
  S_firstChange_2L 1000 0 μ
set_option maxHeartbeats 4000000 in
set_option maxRecDepth 100000 in
theorem S_firstChange_ok {φ : Fr} {d : Nat} (F : Fx φ ΩA cX9_firstChange RX9 4 (some .int)) (hd : 2 ≤ d) {μ : Mem} {r : Int32} (h : S_firstChange μ = some r) : V φ ΩA 4 d 0 [some (rf φ 0 0), none, none, none] [] μ (some (.int r), μ) := by
  unfold S_firstChange at h
  refine V.iconst (v := 0) F dX9_firstChange_0 (by decide) ?_
  refine V.istore_n (L' := [some (rf φ 0 0), some (.int 0), none, none]) F dX9_firstChange_1 rfl (by decide) rfl rfl rfl ?_
  exact S_firstChange_2L_ok F hd 1000 _ _ _ h
set_option maxHeartbeats 4000000 in
set_option maxRecDepth 100000 in
theorem S_firstChange_ct {l : Launch} {G : Glo} {μ : Mem} {r : Int32} (h : S_firstChange μ = some r) : Ct l ΩA G 2 yX9_firstChange cX9_firstChange 4 (some .int) [.ref (G.1 0 0)] μ (some (.int r), μ) := by
  refine Ct.intro (by decide) (Nat.le_of_ble_eq_true rfl) ?_
  intro φ hl hG F
  subst hl; subst hG
  exact S_firstChange_ok F (Nat.le_refl _) h
