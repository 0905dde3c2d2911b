def Gr_become (t0 : Nat) (t1 : Nat) (μ : Mem) : Mem :=
  nm (up μ 2 t0 0 (rd μ 2 t1 0)) fun μ1 =>
  nm (up μ1 2 t0 1 (rd μ1 2 t1 1)) fun μ2 =>
  nm (up μ2 2 t0 2 (rd μ2 2 t1 2)) fun μ3 =>
  nm (up μ3 2 t0 3 (rd μ3 2 t1 3)) fun μ4 =>
  nm (up μ4 2 t0 4 (rd μ4 2 t1 4)) fun μ5 =>
  μ5
set_option maxHeartbeats 4000000 in
set_option maxRecDepth 100000 in
theorem Gr_become_ok {φ : Fr} {d : Nat} (F : Fx φ ΩA cX0_become RX0 2 (none)) (hd : 1 ≤ d) {t0 : Nat} {t1 : Nat} (ht0 : t0 < 12) (ht1 : t1 < 12) {μ : Mem}  {μ' : Mem} (h : Gr_become t0 t1 μ = μ') : V φ ΩA 2 d 0 [some (rf φ 2 t0), some (rf φ 2 t1)] [] μ (none, μ') := by
  unfold Gr_become at h
  refine V.rload_n F dX0_become_0 rfl rfl ?_
  refine V.rload_n F dX0_become_1 rfl rfl ?_
  refine gf_RX0_7 ht1 F dX0_become_2 ?_
  obtain ⟨μ1, eμ1, h⟩ := nm_out h
  refine pf_RX0_7 ht0 F eμ1 dX0_become_5 ?_
  refine V.rload_n F dX0_become_8 rfl rfl ?_
  refine V.rload_n F dX0_become_9 rfl rfl ?_
  refine gf_RX0_13 ht1 F dX0_become_10 ?_
  obtain ⟨μ2, eμ2, h⟩ := nm_out h
  refine pf_RX0_13 ht0 F eμ2 dX0_become_13 ?_
  refine V.rload_n F dX0_become_16 rfl rfl ?_
  refine V.rload_n F dX0_become_17 rfl rfl ?_
  refine gf_RX0_16 ht1 F dX0_become_18 ?_
  obtain ⟨μ3, eμ3, h⟩ := nm_out h
  refine pf_RX0_16 ht0 F eμ3 dX0_become_21 ?_
  refine V.rload_n F dX0_become_24 rfl rfl ?_
  refine V.rload_n F dX0_become_25 rfl rfl ?_
  refine gf_RX0_19 ht1 F dX0_become_26 ?_
  obtain ⟨μ4, eμ4, h⟩ := nm_out h
  refine pf_RX0_19 ht0 F eμ4 dX0_become_29 ?_
  refine V.rload_n F dX0_become_32 rfl rfl ?_
  refine V.rload_n F dX0_become_33 rfl rfl ?_
  refine gf_RX0_22 ht1 F dX0_become_34 ?_
  obtain ⟨μ5, eμ5, h⟩ := nm_out h
  refine pf_RX0_22 ht0 F eμ5 dX0_become_37 ?_
  obtain rfl := h
  exact V.vret F dX0_become_40
set_option maxHeartbeats 4000000 in
set_option maxRecDepth 100000 in
theorem Gr_become_ct {l : Launch} {G : Glo} {t0 : Nat} {t1 : Nat} (ht0 : t0 < 12) (ht1 : t1 < 12) {μ : Mem}  {μ' : Mem} (h : Gr_become t0 t1 μ = μ') : Ct l ΩA G 1 yX0_become cX0_become 2 (none) [.ref (G.1 2 t0), .ref (G.1 2 t1)] μ (none, μ') := by
  refine Ct.intro (by decide) (Nat.le_of_ble_eq_true rfl) ?_
  intro φ hl hG F
  subst hl; subst hG
  exact Gr_become_ok F (Nat.le_refl _) ht0 ht1 h
def Ho_become_34 (k34 : Nat → Nat → Int32 → Mem → Option Mem) (t0 : Nat) (t1 : Nat) (x2 : Int32) (μ : Mem) : Option Mem :=
  if x2 < (rd μ 1 t0 3) then (
    chk (inb x2 6) <|
    chk (inb x2 6) <|
    nm (Gr_become (ix x2 + 6 * t0) (ix x2 + 6 * t1) μ) fun μ5 =>
    nm (x2 + 1) fun a6 =>
    k34 t0 t1 a6 μ5)
  else (
    some μ)
set_option maxHeartbeats 4000000 in
set_option maxRecDepth 100000 in
theorem Ho_become_34_ok {φ : Fr} {d : Nat} (F : Fx φ ΩA cX1_become RX1 3 (none)) (hd : 2 ≤ d) {k34 : Nat → Nat → Int32 → Mem → Option Mem} (hk34 : ∀ (t0 : Nat) (t1 : Nat) (x2 : Int32) (ht0 : t0 < 2) (ht1 : t1 < 2) (μ : Mem)  (μ' : Mem), k34 t0 t1 x2 μ = some μ' → V φ ΩA 3 d 34 [some (rf φ 1 t0), some (rf φ 1 t1), some (.int x2)] [] μ (none, μ')) {t0 : Nat} {t1 : Nat} {x2 : Int32} (ht0 : t0 < 2) (ht1 : t1 < 2) {μ : Mem}  {μ' : Mem} (h : Ho_become_34 k34 t0 t1 x2 μ = some μ') : V φ ΩA 3 d 34 [some (rf φ 1 t0), some (rf φ 1 t1), some (.int x2)] [] μ (none, μ') := by
  unfold Ho_become_34 at h
  refine V.iload_n F dX1_become_34 rfl rfl ?_
  refine V.rload_n F dX1_become_35 rfl rfl ?_
  refine gf_RX1_21 ht0 F dX1_become_36 ?_
  refine V.icmp_ge (tgt := 63) F dX1_become_39 (by decide) (fun c1 => ?_) (fun c1 => ?_)
  · have h := f_out h c1
    obtain rfl := r1_out h
    exact V.vret F dX1_become_63
  · have h := t_out h c1
    refine V.rload_n F dX1_become_42 rfl rfl ?_
    refine gf_RX1_26 ht0 F dX1_become_43 ?_
    refine V.iload_n F dX1_become_46 rfl rfl ?_
    obtain ⟨c2, h⟩ := chk_out h
    refine V.aald (t0 := 2) (n := 6) 2 (ix x2 + 6 * t0) F (mA3 ht0) rfl rfl c2 rfl dX1_become_47 ?_
    refine V.rload_n F dX1_become_48 rfl rfl ?_
    refine gf_RX1_26 ht1 F dX1_become_49 ?_
    refine V.iload_n F dX1_become_52 rfl rfl ?_
    obtain ⟨c3, h⟩ := chk_out h
    refine V.aald (t0 := 2) (n := 6) 2 (ix x2 + 6 * t1) F (mA3 ht1) rfl rfl c3 rfl dX1_become_53 ?_
    obtain ⟨μ5, e4, h⟩ := nm_out h
    refine V.callVv (f := 2) (i := ix x2 + 6 * t0) (As := [rf φ 2 (ix x2 + 6 * t1)]) F ck_RX1_31 (Gr_become_ct (by have h9 := inb_lt c2; have h8 := ht0; omega) (by have h9 := inb_lt c3; have h8 := ht1; omega) e4) (by omega) (by decide) rfl (mA2 (by have h9 := inb_lt c2; have h8 := ht0; omega)) rfl rfl rfl (Nat.le_of_ble_eq_true rfl) dX1_become_54 ?_
    obtain ⟨a6, ea6, h⟩ := nm_out h
    refine V.iinc (z := 1) (L' := [some (rf φ 1 t0), some (rf φ 1 t1), some (.int a6)]) F dX1_become_57 rfl (by decide) ea6 (by decide) rfl rfl ?_
    refine V.goto (tgt := 34) F dX1_become_60 (by decide) ?_
    exact hk34 _ _ _ ht0 ht1 _ _ h
def Ho_become_34L : Nat → Nat → Nat → Int32 → Mem → Option Mem
  | 0 => fun _ _ _ _ => none
  | n + 1 => Ho_become_34 (Ho_become_34L n)
set_option maxHeartbeats 4000000 in
set_option maxRecDepth 100000 in
theorem Ho_become_34L_ok {φ : Fr} {d : Nat} (F : Fx φ ΩA cX1_become RX1 3 (none)) (hd : 2 ≤ d) : ∀ (n : Nat) (t0 : Nat) (t1 : Nat) (x2 : Int32) (ht0 : t0 < 2) (ht1 : t1 < 2) (μ : Mem)  (μ' : Mem), Ho_become_34L n t0 t1 x2 μ = some μ' → V φ ΩA 3 d 34 [some (rf φ 1 t0), some (rf φ 1 t1), some (.int x2)] [] μ (none, μ') := by
  intro n
  induction n with
  | zero => intro t0 t1 x2 ht0 ht1 μ μ' h; cases h
  | succ n ih => intro t0 t1 x2 ht0 ht1 μ μ' h; exact Ho_become_34_ok F hd ih ht0 ht1 h
def Ho_become (t0 : Nat) (t1 : Nat) (μ : Mem) : Option Mem :=
  nm (up μ 1 t0 0 (rd μ 1 t1 0)) fun μ1 =>
  nm (up μ1 1 t0 1 (rd μ1 1 t1 1)) fun μ2 =>
  nm (up μ2 1 t0 2 (rd μ2 1 t1 2)) fun μ3 =>
  nm (up μ3 1 t0 3 (rd μ3 1 t1 3)) fun μ4 =>
  Ho_become_34L 1000 t0 t1 0 μ4
set_option maxHeartbeats 4000000 in
set_option maxRecDepth 100000 in
theorem Ho_become_ok {φ : Fr} {d : Nat} (F : Fx φ ΩA cX1_become RX1 3 (none)) (hd : 2 ≤ d) {t0 : Nat} {t1 : Nat} (ht0 : t0 < 2) (ht1 : t1 < 2) {μ : Mem}  {μ' : Mem} (h : Ho_become t0 t1 μ = some μ') : V φ ΩA 3 d 0 [some (rf φ 1 t0), some (rf φ 1 t1), none] [] μ (none, μ') := by
  unfold Ho_become at h
  refine V.rload_n F dX1_become_0 rfl rfl ?_
  refine V.rload_n F dX1_become_1 rfl rfl ?_
  refine gf_RX1_9 ht1 F dX1_become_2 ?_
  obtain ⟨μ1, eμ1, h⟩ := nm_out h
  refine pf_RX1_9 ht0 F eμ1 dX1_become_5 ?_
  refine V.rload_n F dX1_become_8 rfl rfl ?_
  refine V.rload_n F dX1_become_9 rfl rfl ?_
  refine gf_RX1_15 ht1 F dX1_become_10 ?_
  obtain ⟨μ2, eμ2, h⟩ := nm_out h
  refine pf_RX1_15 ht0 F eμ2 dX1_become_13 ?_
  refine V.rload_n F dX1_become_16 rfl rfl ?_
  refine V.rload_n F dX1_become_17 rfl rfl ?_
  refine gf_RX1_18 ht1 F dX1_become_18 ?_
  obtain ⟨μ3, eμ3, h⟩ := nm_out h
  refine pf_RX1_18 ht0 F eμ3 dX1_become_21 ?_
  refine V.rload_n F dX1_become_24 rfl rfl ?_
  refine V.rload_n F dX1_become_25 rfl rfl ?_
  refine gf_RX1_21 ht1 F dX1_become_26 ?_
  obtain ⟨μ4, eμ4, h⟩ := nm_out h
  refine pf_RX1_21 ht0 F eμ4 dX1_become_29 ?_
  refine V.iconst (v := 0) F dX1_become_32 (by decide) ?_
  refine V.istore_n (L' := [some (rf φ 1 t0), some (rf φ 1 t1), some (.int 0)]) F dX1_become_33 rfl (by decide) rfl rfl rfl ?_
  exact Ho_become_34L_ok F hd 1000 _ _ _ ht0 ht1 _ _ h
set_option maxHeartbeats 4000000 in
set_option maxRecDepth 100000 in
theorem Ho_become_ct {l : Launch} {G : Glo} {t0 : Nat} {t1 : Nat} (ht0 : t0 < 2) (ht1 : t1 < 2) {μ : Mem}  {μ' : Mem} (h : Ho_become t0 t1 μ = some μ') : Ct l ΩA G 2 yX1_become cX1_become 3 (none) [.ref (G.1 1 t0), .ref (G.1 1 t1)] μ (none, μ') := by
  refine Ct.intro (by decide) (Nat.le_of_ble_eq_true rfl) ?_
  intro φ hl hG F
  subst hl; subst hG
  exact Ho_become_ok F (Nat.le_refl _) ht0 ht1 h
def Ho_warm_4 (k4 : Nat → Int32 → Int32 → Mem → Option Int32) (t0 : Nat) (x1 : Int32) (x2 : Int32) (μ : Mem) : Option Int32 :=
  if x2 < (rd μ 1 t0 3) then (
    chk (inb x2 6) <|
    nm (x1 + (rd μ 2 (ix x2 + 6 * t0) 3)) fun a3 =>
    nm (x2 + 1) fun a4 =>
    k4 t0 a3 a4 μ)
  else (
    some x1)
set_option maxHeartbeats 4000000 in
set_option maxRecDepth 100000 in
theorem Ho_warm_4_ok {φ : Fr} {d : Nat} (F : Fx φ ΩA cX1_warm RX1 3 (some .int)) (hd : 1 ≤ d) {k4 : Nat → Int32 → Int32 → Mem → Option Int32} (hk4 : ∀ (t0 : Nat) (x1 : Int32) (x2 : Int32) (ht0 : t0 < 2) (μ : Mem) (r : Int32), k4 t0 x1 x2 μ = some r → V φ ΩA 3 d 4 [some (rf φ 1 t0), some (.int x1), some (.int x2)] [] μ (some (.int r), μ)) {t0 : Nat} {x1 : Int32} {x2 : Int32} (ht0 : t0 < 2) {μ : Mem} {r : Int32} (h : Ho_warm_4 k4 t0 x1 x2 μ = some r) : V φ ΩA 3 d 4 [some (rf φ 1 t0), some (.int x1), some (.int x2)] [] μ (some (.int r), μ) := by
  unfold Ho_warm_4 at h
  refine V.iload_n F dX1_warm_4 rfl rfl ?_
  refine V.rload_n F dX1_warm_5 rfl rfl ?_
  refine gf_RX1_21 ht0 F dX1_warm_6 ?_
  refine V.icmp_ge (tgt := 30) F dX1_warm_9 (by decide) (fun c1 => ?_) (fun c1 => ?_)
  · have h := f_out h c1
    refine V.iload_n F dX1_warm_30 rfl rfl ?_
    obtain rfl := r1_out h
    exact V.iret F dX1_warm_31
  · have h := t_out h c1
    refine V.iload_n F dX1_warm_12 rfl rfl ?_
    refine V.rload_n F dX1_warm_13 rfl rfl ?_
    refine gf_RX1_26 ht0 F dX1_warm_14 ?_
    refine V.iload_n F dX1_warm_17 rfl rfl ?_
    obtain ⟨c2, h⟩ := chk_out h
    refine V.aald (t0 := 2) (n := 6) 2 (ix x2 + 6 * t0) F (mA3 ht0) rfl rfl c2 rfl dX1_warm_18 ?_
    refine gf_RX1_35 (by have h9 := inb_lt c2; have h8 := ht0; omega) F dX1_warm_19 ?_
    refine V.iadd F dX1_warm_22 ?_
    obtain ⟨a3, ea3, h⟩ := nm_out h
    refine V.istore_n (L' := [some (rf φ 1 t0), some (.int a3), some (.int x2)]) F dX1_warm_23 rfl (by decide) rfl ea3 rfl ?_
    obtain ⟨a4, ea4, h⟩ := nm_out h
    refine V.iinc (z := 1) (L' := [some (rf φ 1 t0), some (.int a3), some (.int a4)]) F dX1_warm_24 rfl (by decide) ea4 (by decide) rfl rfl ?_
    refine V.goto (tgt := 4) F dX1_warm_27 (by decide) ?_
    exact hk4 _ _ _ ht0 _ _ h
def Ho_warm_4L : Nat → Nat → Int32 → Int32 → Mem → Option Int32
  | 0 => fun _ _ _ _ => none
  | n + 1 => Ho_warm_4 (Ho_warm_4L n)
set_option maxHeartbeats 4000000 in
set_option maxRecDepth 100000 in
theorem Ho_warm_4L_ok {φ : Fr} {d : Nat} (F : Fx φ ΩA cX1_warm RX1 3 (some .int)) (hd : 1 ≤ d) : ∀ (n : Nat) (t0 : Nat) (x1 : Int32) (x2 : Int32) (ht0 : t0 < 2) (μ : Mem) (r : Int32), Ho_warm_4L n t0 x1 x2 μ = some r → V φ ΩA 3 d 4 [some (rf φ 1 t0), some (.int x1), some (.int x2)] [] μ (some (.int r), μ) := by
  intro n
  induction n with
  | zero => intro t0 x1 x2 ht0 μ r h; cases h
  | succ n ih => intro t0 x1 x2 ht0 μ r h; exact Ho_warm_4_ok F hd ih ht0 h
def Ho_warm (t0 : Nat) (μ : Mem) : Option Int32 :=
  Ho_warm_4L 1000 t0 0 0 μ
set_option maxHeartbeats 4000000 in
set_option maxRecDepth 100000 in
theorem Ho_warm_ok {φ : Fr} {d : Nat} (F : Fx φ ΩA cX1_warm RX1 3 (some .int)) (hd : 1 ≤ d) {t0 : Nat} (ht0 : t0 < 2) {μ : Mem} {r : Int32} (h : Ho_warm t0 μ = some r) : V φ ΩA 3 d 0 [some (rf φ 1 t0), none, none] [] μ (some (.int r), μ) := by
  unfold Ho_warm at h
  refine V.iconst (v := 0) F dX1_warm_0 (by decide) ?_
  refine V.istore_n (L' := [some (rf φ 1 t0), some (.int 0), none]) F dX1_warm_1 rfl (by decide) rfl rfl rfl ?_
  refine V.iconst (v := 0) F dX1_warm_2 (by decide) ?_
  refine V.istore_n (L' := [some (rf φ 1 t0), some (.int 0), some (.int 0)]) F dX1_warm_3 rfl (by decide) rfl rfl rfl ?_
  exact Ho_warm_4L_ok F hd 1000 _ _ _ ht0 _ _ h
set_option maxHeartbeats 4000000 in
set_option maxRecDepth 100000 in
theorem Ho_warm_ct {l : Launch} {G : Glo} {t0 : Nat} (ht0 : t0 < 2) {μ : Mem} {r : Int32} (h : Ho_warm t0 μ = some r) : Ct l ΩA G 1 yX1_warm cX1_warm 3 (some .int) [.ref (G.1 1 t0)] μ (some (.int r), μ) := by
  refine Ct.intro (by decide) (Nat.le_of_ble_eq_true rfl) ?_
  intro φ hl hG F
  subst hl; subst hG
  exact Ho_warm_ok F (Nat.le_refl _) ht0 h
def Ho_boiling_31 (k4 : Nat → Int32 → Int32 → Mem → Option Int32) (t0 : Nat) (x1 : Int32) (x2 : Int32) (μ : Mem) : Option Int32 :=
  nm (x2 + 1) fun a1 =>
  k4 t0 x1 a1 μ
set_option maxHeartbeats 4000000 in
set_option maxRecDepth 100000 in
theorem Ho_boiling_31_ok {φ : Fr} {d : Nat} (F : Fx φ ΩA cX1_boiling RX1 3 (some .int)) (hd : 1 ≤ d) {k4 : Nat → Int32 → Int32 → Mem → Option Int32} (hk4 : ∀ (t0 : Nat) (x1 : Int32) (x2 : Int32) (ht0 : t0 < 2) (μ : Mem) (r : Int32), k4 t0 x1 x2 μ = some r → V φ ΩA 3 d 4 [some (rf φ 1 t0), some (.int x1), some (.int x2)] [] μ (some (.int r), μ)) {t0 : Nat} {x1 : Int32} {x2 : Int32} (ht0 : t0 < 2) {μ : Mem} {r : Int32} (h : Ho_boiling_31 k4 t0 x1 x2 μ = some r) : V φ ΩA 3 d 31 [some (rf φ 1 t0), some (.int x1), some (.int x2)] [] μ (some (.int r), μ) := by
  unfold Ho_boiling_31 at h
  obtain ⟨a1, ea1, h⟩ := nm_out h
  refine V.iinc (z := 1) (L' := [some (rf φ 1 t0), some (.int x1), some (.int a1)]) F dX1_boiling_31 rfl (by decide) ea1 (by decide) rfl rfl ?_
  refine V.goto (tgt := 4) F dX1_boiling_34 (by decide) ?_
  exact hk4 _ _ _ ht0 _ _ h
def Ho_boiling_4 (k4 : Nat → Int32 → Int32 → Mem → Option Int32) (t0 : Nat) (x1 : Int32) (x2 : Int32) (μ : Mem) : Option Int32 :=
  if x2 < (rd μ 1 t0 3) then (
    chk (inb x2 6) <|
    if (rd μ 2 (ix x2 + 6 * t0) 3) < (rd μ 1 t0 1) then (
      Ho_boiling_31 k4 t0 x1 x2 μ)
    else (
      nm (x1 + 1) fun a4 =>
      Ho_boiling_31 k4 t0 a4 x2 μ))
  else (
    some x1)
set_option maxHeartbeats 4000000 in
set_option maxRecDepth 100000 in
theorem Ho_boiling_4_ok {φ : Fr} {d : Nat} (F : Fx φ ΩA cX1_boiling RX1 3 (some .int)) (hd : 1 ≤ d) {k4 : Nat → Int32 → Int32 → Mem → Option Int32} (hk4 : ∀ (t0 : Nat) (x1 : Int32) (x2 : Int32) (ht0 : t0 < 2) (μ : Mem) (r : Int32), k4 t0 x1 x2 μ = some r → V φ ΩA 3 d 4 [some (rf φ 1 t0), some (.int x1), some (.int x2)] [] μ (some (.int r), μ)) {t0 : Nat} {x1 : Int32} {x2 : Int32} (ht0 : t0 < 2) {μ : Mem} {r : Int32} (h : Ho_boiling_4 k4 t0 x1 x2 μ = some r) : V φ ΩA 3 d 4 [some (rf φ 1 t0), some (.int x1), some (.int x2)] [] μ (some (.int r), μ) := by
  unfold Ho_boiling_4 at h
  refine V.iload_n F dX1_boiling_4 rfl rfl ?_
  refine V.rload_n F dX1_boiling_5 rfl rfl ?_
  refine gf_RX1_21 ht0 F dX1_boiling_6 ?_
  refine V.icmp_ge (tgt := 37) F dX1_boiling_9 (by decide) (fun c1 => ?_) (fun c1 => ?_)
  · have h := f_out h c1
    refine V.iload_n F dX1_boiling_37 rfl rfl ?_
    obtain rfl := r1_out h
    exact V.iret F dX1_boiling_38
  · have h := t_out h c1
    refine V.rload_n F dX1_boiling_12 rfl rfl ?_
    refine gf_RX1_26 ht0 F dX1_boiling_13 ?_
    refine V.iload_n F dX1_boiling_16 rfl rfl ?_
    obtain ⟨c2, h⟩ := chk_out h
    refine V.aald (t0 := 2) (n := 6) 2 (ix x2 + 6 * t0) F (mA3 ht0) rfl rfl c2 rfl dX1_boiling_17 ?_
    refine gf_RX1_35 (by have h9 := inb_lt c2; have h8 := ht0; omega) F dX1_boiling_18 ?_
    refine V.rload_n F dX1_boiling_21 rfl rfl ?_
    refine gf_RX1_15 ht0 F dX1_boiling_22 ?_
    refine V.icmp_lt (tgt := 31) F dX1_boiling_25 (by decide) (fun c3 => ?_) (fun c3 => ?_)
    · have h := t_out h c3
      exact Ho_boiling_31_ok F hd hk4 ht0 h
    · have h := f_out h c3
      obtain ⟨a4, ea4, h⟩ := nm_out h
      refine V.iinc (z := 1) (L' := [some (rf φ 1 t0), some (.int a4), some (.int x2)]) F dX1_boiling_28 rfl (by decide) ea4 (by decide) rfl rfl ?_
      exact Ho_boiling_31_ok F hd hk4 ht0 h
def Ho_boiling_4L : Nat → Nat → Int32 → Int32 → Mem → Option Int32
  | 0 => fun _ _ _ _ => none
  | n + 1 => Ho_boiling_4 (Ho_boiling_4L n)
set_option maxHeartbeats 4000000 in
set_option maxRecDepth 100000 in
theorem Ho_boiling_4L_ok {φ : Fr} {d : Nat} (F : Fx φ ΩA cX1_boiling RX1 3 (some .int)) (hd : 1 ≤ d) : ∀ (n : Nat) (t0 : Nat) (x1 : Int32) (x2 : Int32) (ht0 : t0 < 2) (μ : Mem) (r : Int32), Ho_boiling_4L n t0 x1 x2 μ = some r → V φ ΩA 3 d 4 [some (rf φ 1 t0), some (.int x1), some (.int x2)] [] μ (some (.int r), μ) := by
  intro n
  induction n with
  | zero => intro t0 x1 x2 ht0 μ r h; cases h
  | succ n ih => intro t0 x1 x2 ht0 μ r h; exact Ho_boiling_4_ok F hd ih ht0 h
def Ho_boiling (t0 : Nat) (μ : Mem) : Option Int32 :=
  Ho_boiling_4L 1000 t0 0 0 μ
set_option maxHeartbeats 4000000 in
set_option maxRecDepth 100000 in
theorem Ho_boiling_ok {φ : Fr} {d : Nat} (F : Fx φ ΩA cX1_boiling RX1 3 (some .int)) (hd : 1 ≤ d) {t0 : Nat} (ht0 : t0 < 2) {μ : Mem} {r : Int32} (h : Ho_boiling t0 μ = some r) : V φ ΩA 3 d 0 [some (rf φ 1 t0), none, none] [] μ (some (.int r), μ) := by
  unfold Ho_boiling at h
  refine V.iconst (v := 0) F dX1_boiling_0 (by decide) ?_
  refine V.istore_n (L' := [some (rf φ 1 t0), some (.int 0), none]) F dX1_boiling_1 rfl (by decide) rfl rfl rfl ?_
  refine V.iconst (v := 0) F dX1_boiling_2 (by decide) ?_
  refine V.istore_n (L' := [some (rf φ 1 t0), some (.int 0), some (.int 0)]) F dX1_boiling_3 rfl (by decide) rfl rfl rfl ?_
  exact Ho_boiling_4L_ok F hd 1000 _ _ _ ht0 _ _ h
set_option maxHeartbeats 4000000 in
set_option maxRecDepth 100000 in
theorem Ho_boiling_ct {l : Launch} {G : Glo} {t0 : Nat} (ht0 : t0 < 2) {μ : Mem} {r : Int32} (h : Ho_boiling t0 μ = some r) : Ct l ΩA G 1 yX1_boiling cX1_boiling 3 (some .int) [.ref (G.1 1 t0)] μ (some (.int r), μ) := by
  refine Ct.intro (by decide) (Nat.le_of_ble_eq_true rfl) ?_
  intro φ hl hG F
  subst hl; subst hG
  exact Ho_boiling_ok F (Nat.le_refl _) ht0 h
def Ma_nameAll (μ : Mem) : Option Mem :=
  chk (inb 0 6) <|
  nm (up μ 19 0 (ix 0) (rd μ 18 0 2)) fun μ2 =>
  chk (inb 1 6) <|
  nm (up μ2 19 0 (ix 1) (rd μ2 18 0 3)) fun μ4 =>
  chk (inb 2 6) <|
  nm (up μ4 19 0 (ix 2) (rd μ4 18 0 1)) fun μ6 =>
  chk (inb 3 6) <|
  nm (up μ6 19 0 (ix 3) (rd μ6 18 0 4)) fun μ8 =>
  chk (inb 4 6) <|
  nm (up μ8 19 0 (ix 4) (rd μ8 18 0 5)) fun μ10 =>
  chk (inb 5 6) <|
  nm (up μ10 19 0 (ix 5) (rd μ10 18 0 6)) fun μ12 =>
  some μ12
set_option maxHeartbeats 4000000 in
set_option maxRecDepth 100000 in
theorem Ma_nameAll_ok {φ : Fr} {d : Nat} (F : Fx φ ΩA cX2_nameAll RX2 1 (none)) (hd : 1 ≤ d) {μ : Mem}  {μ' : Mem} (h : Ma_nameAll μ = some μ') : V φ ΩA 1 d 0 [some (rf φ 18 0)] [] μ (none, μ') := by
  unfold Ma_nameAll at h
  refine V.rload_n F dX2_nameAll_0 rfl rfl ?_
  refine gf_RX2_39 F dX2_nameAll_1 ?_
  refine V.iconst (v := 0) F dX2_nameAll_4 (by decide) ?_
  refine V.rload_n F dX2_nameAll_5 rfl rfl ?_
  refine gf_RX2_18 F dX2_nameAll_6 ?_
  obtain ⟨c1, h⟩ := chk_out h
  obtain ⟨μ2, eμ2, h⟩ := nm_out h
  refine V.iast (t0 := 0) (n := 6) F mA19 (fun _ => rfl) rfl c1 eμ2 dX2_nameAll_9 ?_
  refine V.rload_n F dX2_nameAll_10 rfl rfl ?_
  refine gf_RX2_39 F dX2_nameAll_11 ?_
  refine V.iconst (v := 1) F dX2_nameAll_14 (by decide) ?_
  refine V.rload_n F dX2_nameAll_15 rfl rfl ?_
  refine gf_RX2_21 F dX2_nameAll_16 ?_
  obtain ⟨c3, h⟩ := chk_out h
  obtain ⟨μ4, eμ4, h⟩ := nm_out h
  refine V.iast (t0 := 0) (n := 6) F mA19 (fun _ => rfl) rfl c3 eμ4 dX2_nameAll_19 ?_
  refine V.rload_n F dX2_nameAll_20 rfl rfl ?_
  refine gf_RX2_39 F dX2_nameAll_21 ?_
  refine V.iconst (v := 2) F dX2_nameAll_24 (by decide) ?_
  refine V.rload_n F dX2_nameAll_25 rfl rfl ?_
  refine gf_RX2_15 F dX2_nameAll_26 ?_
  obtain ⟨c5, h⟩ := chk_out h
  obtain ⟨μ6, eμ6, h⟩ := nm_out h
  refine V.iast (t0 := 0) (n := 6) F mA19 (fun _ => rfl) rfl c5 eμ6 dX2_nameAll_29 ?_
  refine V.rload_n F dX2_nameAll_30 rfl rfl ?_
  refine gf_RX2_39 F dX2_nameAll_31 ?_
  refine V.iconst (v := 3) F dX2_nameAll_34 (by decide) ?_
  refine V.rload_n F dX2_nameAll_35 rfl rfl ?_
  refine gf_RX2_24 F dX2_nameAll_36 ?_
  obtain ⟨c7, h⟩ := chk_out h
  obtain ⟨μ8, eμ8, h⟩ := nm_out h
  refine V.iast (t0 := 0) (n := 6) F mA19 (fun _ => rfl) rfl c7 eμ8 dX2_nameAll_39 ?_
  refine V.rload_n F dX2_nameAll_40 rfl rfl ?_
  refine gf_RX2_39 F dX2_nameAll_41 ?_
  refine V.iconst (v := 4) F dX2_nameAll_44 (by decide) ?_
  refine V.rload_n F dX2_nameAll_45 rfl rfl ?_
  refine gf_RX2_27 F dX2_nameAll_46 ?_
  obtain ⟨c9, h⟩ := chk_out h
  obtain ⟨μ10, eμ10, h⟩ := nm_out h
  refine V.iast (t0 := 0) (n := 6) F mA19 (fun _ => rfl) rfl c9 eμ10 dX2_nameAll_49 ?_
  refine V.rload_n F dX2_nameAll_50 rfl rfl ?_
  refine gf_RX2_39 F dX2_nameAll_51 ?_
  refine V.iconst (v := 5) F dX2_nameAll_54 (by decide) ?_
  refine V.rload_n F dX2_nameAll_55 rfl rfl ?_
  refine gf_RX2_30 F dX2_nameAll_56 ?_
  obtain ⟨c11, h⟩ := chk_out h
  obtain ⟨μ12, eμ12, h⟩ := nm_out h
  refine V.iast (t0 := 0) (n := 6) F mA19 (fun _ => rfl) rfl c11 eμ12 dX2_nameAll_59 ?_
  obtain rfl := r1_out h
  exact V.vret F dX2_nameAll_60
set_option maxHeartbeats 4000000 in
set_option maxRecDepth 100000 in
theorem Ma_nameAll_ct {l : Launch} {G : Glo} {μ : Mem}  {μ' : Mem} (h : Ma_nameAll μ = some μ') : Ct l ΩA G 1 yX2_nameAll cX2_nameAll 1 (none) [.ref (G.1 18 0)] μ (none, μ') := by
  refine Ct.intro (by decide) (Nat.le_of_ble_eq_true rfl) ?_
  intro φ hl hG F
  subst hl; subst hG
  exact Ma_nameAll_ok F (Nat.le_refl _) h
def Te_joined (x0 : Int32) (x1 : Int32) (x2 : Int32) : Int32 :=
  if x0 = 9 then (
    if x1 = 0 then (
      if x2 = 0 then (
        0)
      else (
        1))
    else (
      1))
  else (
  if x0 = 42 then (
    x1 * x2)
  else (
  if x0 = 43 then (
    x1 + x2)
  else (
  if x0 = 45 then (
    x1 - x2)
  else (
  if x0 = 60 then (
    if x1 < x2 then (
      1)
    else (
      0))
  else (
  if x0 = 61 then (
    if x1 = x2 then (
      1)
    else (
      0))
  else (
  if x1 = 0 then (
    0)
  else (
    if x2 = 0 then (
      0)
    else (
      1))))))))
set_option maxHeartbeats 4000000 in
set_option maxRecDepth 100000 in
theorem Te_joined_ok {φ : Fr} {d : Nat} (F : Fx φ ΩA cX7_joined RX7 3 (some .int)) (hd : 1 ≤ d) {x0 : Int32} {x1 : Int32} {x2 : Int32} {μ : Mem} {r : Int32} (h : Te_joined x0 x1 x2 = r) : V φ ΩA 3 d 0 [some (.int x0), some (.int x1), some (.int x2)] [] μ (some (.int r), μ) := by
  unfold Te_joined at h
  refine V.iload_n F dX7_joined_0 rfl rfl ?_
  by_cases c1 : x0 = 9
  · have h := t_out h c1
    refine V.lookup (tgt := 94) (off := 93) F dX7_joined_1 (by decide) (by rw [c1]; try rfl) (by decide) ?_
    refine V.iload_n F dX7_joined_94 rfl rfl ?_
    refine V.if_ne (tgt := 102) F dX7_joined_95 (by decide) (fun c2 => ?_) (fun c2 => ?_)
    · have h := f_out h c2
      refine V.iconst (v := 1) F dX7_joined_102 (by decide) ?_
      refine V.goto (tgt := 107) F dX7_joined_103 (by decide) ?_
      obtain rfl := h
      exact V.iret F dX7_joined_107
    · have h := t_out h c2
      refine V.iload_n F dX7_joined_98 rfl rfl ?_
      refine V.if_eq (tgt := 106) F dX7_joined_99 (by decide) (fun c3 => ?_) (fun c3 => ?_)
      · have h := t_out h c3
        refine V.iconst (v := 0) F dX7_joined_106 (by decide) ?_
        obtain rfl := h
        exact V.iret F dX7_joined_107
      · have h := f_out h c3
        refine V.iconst (v := 1) F dX7_joined_102 (by decide) ?_
        refine V.goto (tgt := 107) F dX7_joined_103 (by decide) ?_
        obtain rfl := h
        exact V.iret F dX7_joined_107
  have h := f_out h c1
  by_cases c4 : x0 = 42
  · have h := t_out h c4
    refine V.lookup (tgt := 68) (off := 67) F dX7_joined_1 (by decide) (by rw [c4]; try rfl) (by decide) ?_
    refine V.iload_n F dX7_joined_68 rfl rfl ?_
    refine V.iload_n F dX7_joined_69 rfl rfl ?_
    refine V.imul F dX7_joined_70 ?_
    obtain rfl := h
    exact V.iret F dX7_joined_71
  have h := f_out h c4
  by_cases c5 : x0 = 43
  · have h := t_out h c5
    refine V.lookup (tgt := 60) (off := 59) F dX7_joined_1 (by decide) (by rw [c5]; try rfl) (by decide) ?_
    refine V.iload_n F dX7_joined_60 rfl rfl ?_
    refine V.iload_n F dX7_joined_61 rfl rfl ?_
    refine V.iadd F dX7_joined_62 ?_
    obtain rfl := h
    exact V.iret F dX7_joined_63
  have h := f_out h c5
  by_cases c6 : x0 = 45
  · have h := t_out h c6
    refine V.lookup (tgt := 64) (off := 63) F dX7_joined_1 (by decide) (by rw [c6]; try rfl) (by decide) ?_
    refine V.iload_n F dX7_joined_64 rfl rfl ?_
    refine V.iload_n F dX7_joined_65 rfl rfl ?_
    refine V.isub F dX7_joined_66 ?_
    obtain rfl := h
    exact V.iret F dX7_joined_67
  have h := f_out h c6
  by_cases c7 : x0 = 60
  · have h := t_out h c7
    refine V.lookup (tgt := 72) (off := 71) F dX7_joined_1 (by decide) (by rw [c7]; try rfl) (by decide) ?_
    refine V.iload_n F dX7_joined_72 rfl rfl ?_
    refine V.iload_n F dX7_joined_73 rfl rfl ?_
    refine V.icmp_ge (tgt := 81) F dX7_joined_74 (by decide) (fun c8 => ?_) (fun c8 => ?_)
    · have h := f_out h c8
      refine V.iconst (v := 0) F dX7_joined_81 (by decide) ?_
      obtain rfl := h
      exact V.iret F dX7_joined_82
    · have h := t_out h c8
      refine V.iconst (v := 1) F dX7_joined_77 (by decide) ?_
      refine V.goto (tgt := 82) F dX7_joined_78 (by decide) ?_
      obtain rfl := h
      exact V.iret F dX7_joined_82
  have h := f_out h c7
  by_cases c9 : x0 = 61
  · have h := t_out h c9
    refine V.lookup (tgt := 83) (off := 82) F dX7_joined_1 (by decide) (by rw [c9]; try rfl) (by decide) ?_
    refine V.iload_n F dX7_joined_83 rfl rfl ?_
    refine V.iload_n F dX7_joined_84 rfl rfl ?_
    refine V.icmp_ne (tgt := 92) F dX7_joined_85 (by decide) (fun c10 => ?_) (fun c10 => ?_)
    · have h := f_out h c10
      refine V.iconst (v := 0) F dX7_joined_92 (by decide) ?_
      obtain rfl := h
      exact V.iret F dX7_joined_93
    · have h := t_out h c10
      refine V.iconst (v := 1) F dX7_joined_88 (by decide) ?_
      refine V.goto (tgt := 93) F dX7_joined_89 (by decide) ?_
      obtain rfl := h
      exact V.iret F dX7_joined_93
  have h := f_out h c9
  refine V.lookup (tgt := 108) (off := 107) F dX7_joined_1 (by decide) (by show Op.lookupswitch.offset [(9, 93), (42, 67), (43, 59), (45, 63), (60, 71), (61, 82)] _ _ = _; rw [lv_osw c1 (by decide), lv_osw c4 (by decide), lv_osw c5 (by decide), lv_osw c6 (by decide), lv_osw c7 (by decide), lv_osw c9 (by decide)]; try rfl) (by decide) ?_
  refine V.iload_n F dX7_joined_108 rfl rfl ?_
  refine V.if_eq (tgt := 120) F dX7_joined_109 (by decide) (fun c11 => ?_) (fun c11 => ?_)
  · have h := t_out h c11
    refine V.iconst (v := 0) F dX7_joined_120 (by decide) ?_
    obtain rfl := h
    exact V.iret F dX7_joined_121
  · have h := f_out h c11
    refine V.iload_n F dX7_joined_112 rfl rfl ?_
    refine V.if_eq (tgt := 120) F dX7_joined_113 (by decide) (fun c12 => ?_) (fun c12 => ?_)
    · have h := t_out h c12
      refine V.iconst (v := 0) F dX7_joined_120 (by decide) ?_
      obtain rfl := h
      exact V.iret F dX7_joined_121
    · have h := f_out h c12
      refine V.iconst (v := 1) F dX7_joined_116 (by decide) ?_
      refine V.goto (tgt := 121) F dX7_joined_117 (by decide) ?_
      obtain rfl := h
      exact V.iret F dX7_joined_121
set_option maxHeartbeats 4000000 in
set_option maxRecDepth 100000 in
theorem Te_joined_ct {l : Launch} {G : Glo} {x0 : Int32} {x1 : Int32} {x2 : Int32} {μ : Mem} {r : Int32} (h : Te_joined x0 x1 x2 = r) : Ct l ΩA G 1 yX7_joined cX7_joined 3 (some .int) [.int x0, .int x1, .int x2] μ (some (.int r), μ) := by
  refine Ct.intro (by decide) (Nat.le_of_ble_eq_true rfl) ?_
  intro φ hl hG F
  subst hl; subst hG
  exact Te_joined_ok F (Nat.le_refl _) h
def Te_answer_183 (k10 : Nat → Int32 → Int32 → Int32 → Mem → Option (Int32 × Mem)) (t0 : Nat) (x1 : Int32) (x3 : Int32) (x4 : Int32) (μ : Mem) : Option (Int32 × Mem) :=
  nm (x4 + 1) fun a1 =>
  k10 t0 x1 x3 a1 μ
set_option maxHeartbeats 4000000 in
set_option maxRecDepth 100000 in
theorem Te_answer_183_ok {φ : Fr} {d : Nat} (F : Fx φ ΩA cX7_answer RX7 6 (some .int)) (hd : 2 ≤ d) {k10 : Nat → Int32 → Int32 → Int32 → Mem → Option (Int32 × Mem)} (hk10 : ∀ (t0 : Nat) (x1 : Int32) (x3 : Int32) (x4 : Int32) (ht0 : t0 < 6) (μ : Mem) (r : Int32) (μ' : Mem), k10 t0 x1 x3 x4 μ = some (r, μ') → V φ ΩA 6 d 10 [some (rf φ 5 t0), some (.int x1), some (rf φ 19 0), some (.int x3), some (.int x4), none] [] μ (some (.int r), μ')) {t0 : Nat} {x1 : Int32} {x3 : Int32} {x4 : Int32} (ht0 : t0 < 6) {μ : Mem} {r : Int32} {μ' : Mem} (h : Te_answer_183 k10 t0 x1 x3 x4 μ = some (r, μ')) : V φ ΩA 6 d 183 [some (rf φ 5 t0), some (.int x1), some (rf φ 19 0), some (.int x3), some (.int x4), none] [] μ (some (.int r), μ') := by
  unfold Te_answer_183 at h
  obtain ⟨a1, ea1, h⟩ := nm_out h
  refine V.iinc (z := 1) (L' := [some (rf φ 5 t0), some (.int x1), some (rf φ 19 0), some (.int x3), some (.int a1), none]) F dX7_answer_183 rfl (by decide) ea1 (by decide) rfl rfl ?_
  refine V.goto (tgt := 10) F dX7_answer_186 (by decide) ?_
  exact hk10 _ _ _ _ ht0 _ _ _ h
def Te_answer_145 (k10 : Nat → Int32 → Int32 → Int32 → Mem → Option (Int32 × Mem)) (t0 : Nat) (x1 : Int32) (x3 : Int32) (x4 : Int32) (x5 : Int32) (μ : Mem) : Option (Int32 × Mem) :=
  if x3 < 2 then (
    Te_answer_183 k10 t0 x1 x3 x4 μ)
  else (
    chk (inb (x3 - 2) 160) <|
    chk (inb (x3 - 1) 160) <|
    nm (Te_joined (-x5) (rd μ 8 t0 (ix (x3 - 2))) (rd μ 8 t0 (ix (x3 - 1)))) fun r5 =>
    chk (inb (x3 - 2) 160) <|
    nm (up μ 8 t0 (ix (x3 - 2)) r5) fun μ7 =>
    nm (x3 + (-1)) fun a8 =>
    Te_answer_183 k10 t0 x1 a8 x4 μ7)
set_option maxHeartbeats 4000000 in
set_option maxRecDepth 100000 in
theorem Te_answer_145_ok {φ : Fr} {d : Nat} (F : Fx φ ΩA cX7_answer RX7 6 (some .int)) (hd : 2 ≤ d) {k10 : Nat → Int32 → Int32 → Int32 → Mem → Option (Int32 × Mem)} (hk10 : ∀ (t0 : Nat) (x1 : Int32) (x3 : Int32) (x4 : Int32) (ht0 : t0 < 6) (μ : Mem) (r : Int32) (μ' : Mem), k10 t0 x1 x3 x4 μ = some (r, μ') → V φ ΩA 6 d 10 [some (rf φ 5 t0), some (.int x1), some (rf φ 19 0), some (.int x3), some (.int x4), none] [] μ (some (.int r), μ')) {t0 : Nat} {x1 : Int32} {x3 : Int32} {x4 : Int32} {x5 : Int32} (ht0 : t0 < 6) {μ : Mem} {r : Int32} {μ' : Mem} (h : Te_answer_145 k10 t0 x1 x3 x4 x5 μ = some (r, μ')) : V φ ΩA 6 d 145 [some (rf φ 5 t0), some (.int x1), some (rf φ 19 0), some (.int x3), some (.int x4), some (.int x5)] [] μ (some (.int r), μ') := by
  unfold Te_answer_145 at h
  refine V.iload_n F dX7_answer_145 rfl rfl ?_
  refine V.iconst (v := 2) F dX7_answer_146 (by decide) ?_
  refine V.icmp_lt (tgt := 183) F dX7_answer_147 (by decide) (fun c1 => ?_) (fun c1 => ?_)
  · have h := t_out h c1
    refine V.msk (L' := [some (rf φ 5 t0), some (.int x1), some (rf φ 19 0), some (.int x3), some (.int x4), none]) [true, true, true, true, true, false] rfl ?_
    exact Te_answer_183_ok F hd hk10 ht0 h
  · have h := f_out h c1
    refine V.rload_n F dX7_answer_150 rfl rfl ?_
    refine gf_RX7_18 ht0 F dX7_answer_151 ?_
    refine V.iload_n F dX7_answer_154 rfl rfl ?_
    refine V.iconst (v := 2) F dX7_answer_155 (by decide) ?_
    refine V.isub F dX7_answer_156 ?_
    refine V.iload F dX7_answer_157 rfl ?_
    refine V.ineg F dX7_answer_159 ?_
    refine V.rload_n F dX7_answer_160 rfl rfl ?_
    refine gf_RX7_18 ht0 F dX7_answer_161 ?_
    refine V.iload_n F dX7_answer_164 rfl rfl ?_
    refine V.iconst (v := 2) F dX7_answer_165 (by decide) ?_
    refine V.isub F dX7_answer_166 ?_
    obtain ⟨c2, h⟩ := chk_out h
    refine V.iald (t0 := 0) (n := 160) F (mA8 ht0) rfl rfl c2 dX7_answer_167 ?_
    refine V.rload_n F dX7_answer_168 rfl rfl ?_
    refine gf_RX7_18 ht0 F dX7_answer_169 ?_
    refine V.iload_n F dX7_answer_172 rfl rfl ?_
    refine V.iconst (v := 1) F dX7_answer_173 (by decide) ?_
    refine V.isub F dX7_answer_174 ?_
    obtain ⟨c3, h⟩ := chk_out h
    refine V.iald (t0 := 0) (n := 160) F (mA8 ht0) rfl rfl c3 dX7_answer_175 ?_
    obtain ⟨r5, e4, h⟩ := nm_out h
    refine V.callSi (As := [.int (-x5), .int (rd μ 8 t0 (ix (x3 - 2))), .int (rd μ 8 t0 (ix (x3 - 1)))]) F ck_RX7_21 (Te_joined_ct e4) (by omega) (by decide) rfl rfl (Nat.le_of_ble_eq_true rfl) dX7_answer_176 ?_
    obtain ⟨c6, h⟩ := chk_out h
    obtain ⟨μ7, eμ7, h⟩ := nm_out h
    refine V.iast (t0 := 0) (n := 160) F (mA8 ht0) (fun _ => rfl) rfl c6 eμ7 dX7_answer_179 ?_
    obtain ⟨a8, ea8, h⟩ := nm_out h
    refine V.iinc (z := (-1)) (L' := [some (rf φ 5 t0), some (.int x1), some (rf φ 19 0), some (.int a8), some (.int x4), some (.int x5)]) F dX7_answer_180 rfl (by decide) ea8 (by decide) rfl rfl ?_
    refine V.msk (L' := [some (rf φ 5 t0), some (.int x1), some (rf φ 19 0), some (.int a8), some (.int x4), none]) [true, true, true, true, true, false] rfl ?_
    exact Te_answer_183_ok F hd hk10 ht0 h
def Te_answer_141 (k10 : Nat → Int32 → Int32 → Int32 → Mem → Option (Int32 × Mem)) (t0 : Nat) (x1 : Int32) (x3 : Int32) (x4 : Int32) (q0 : Nat) (y1 : Int32) (y2 : Int32) (μ : Mem) : Option (Int32 × Mem) :=
  chk (inb y1 160) <|
  nm (up μ 8 q0 (ix y1) y2) fun μ2 =>
  Te_answer_183 k10 t0 x1 x3 x4 μ2
set_option maxHeartbeats 4000000 in
set_option maxRecDepth 100000 in
theorem Te_answer_141_ok {φ : Fr} {d : Nat} (F : Fx φ ΩA cX7_answer RX7 6 (some .int)) (hd : 2 ≤ d) {k10 : Nat → Int32 → Int32 → Int32 → Mem → Option (Int32 × Mem)} (hk10 : ∀ (t0 : Nat) (x1 : Int32) (x3 : Int32) (x4 : Int32) (ht0 : t0 < 6) (μ : Mem) (r : Int32) (μ' : Mem), k10 t0 x1 x3 x4 μ = some (r, μ') → V φ ΩA 6 d 10 [some (rf φ 5 t0), some (.int x1), some (rf φ 19 0), some (.int x3), some (.int x4), none] [] μ (some (.int r), μ')) {t0 : Nat} {x1 : Int32} {x3 : Int32} {x4 : Int32} {q0 : Nat} {y1 : Int32} {y2 : Int32} (ht0 : t0 < 6) (hq0 : q0 < 6) {μ : Mem} {r : Int32} {μ' : Mem} (h : Te_answer_141 k10 t0 x1 x3 x4 q0 y1 y2 μ = some (r, μ')) : V φ ΩA 6 d 141 [some (rf φ 5 t0), some (.int x1), some (rf φ 19 0), some (.int x3), some (.int x4), none] [.int y2, .int y1, rf φ 8 q0] μ (some (.int r), μ') := by
  unfold Te_answer_141 at h
  obtain ⟨c1, h⟩ := chk_out h
  obtain ⟨μ2, eμ2, h⟩ := nm_out h
  refine V.iast (t0 := 0) (n := 160) F (mA8 hq0) (fun _ => rfl) rfl c1 eμ2 dX7_answer_141 ?_
  refine V.goto (tgt := 183) F dX7_answer_142 (by decide) ?_
  exact Te_answer_183_ok F hd hk10 ht0 h
def Te_answer_106 (k10 : Nat → Int32 → Int32 → Int32 → Mem → Option (Int32 × Mem)) (t0 : Nat) (x1 : Int32) (x3 : Int32) (x4 : Int32) (x5 : Int32) (μ : Mem) : Option (Int32 × Mem) :=
  if x5 = (-11) then (
    if x3 < 1 then (
      Te_answer_145 k10 t0 x1 x3 x4 x5 μ)
    else (
      chk (inb (x3 - 1) 160) <|
      if (rd μ 8 t0 (ix (x3 - 1))) = 0 then (
        Te_answer_141 k10 t0 x1 x3 x4 t0 (x3 - 1) 1 μ)
      else (
        Te_answer_141 k10 t0 x1 x3 x4 t0 (x3 - 1) 0 μ)))
  else (
    Te_answer_145 k10 t0 x1 x3 x4 x5 μ)
set_option maxHeartbeats 4000000 in
set_option maxRecDepth 100000 in
theorem Te_answer_106_ok {φ : Fr} {d : Nat} (F : Fx φ ΩA cX7_answer RX7 6 (some .int)) (hd : 2 ≤ d) {k10 : Nat → Int32 → Int32 → Int32 → Mem → Option (Int32 × Mem)} (hk10 : ∀ (t0 : Nat) (x1 : Int32) (x3 : Int32) (x4 : Int32) (ht0 : t0 < 6) (μ : Mem) (r : Int32) (μ' : Mem), k10 t0 x1 x3 x4 μ = some (r, μ') → V φ ΩA 6 d 10 [some (rf φ 5 t0), some (.int x1), some (rf φ 19 0), some (.int x3), some (.int x4), none] [] μ (some (.int r), μ')) {t0 : Nat} {x1 : Int32} {x3 : Int32} {x4 : Int32} {x5 : Int32} (ht0 : t0 < 6) {μ : Mem} {r : Int32} {μ' : Mem} (h : Te_answer_106 k10 t0 x1 x3 x4 x5 μ = some (r, μ')) : V φ ΩA 6 d 106 [some (rf φ 5 t0), some (.int x1), some (rf φ 19 0), some (.int x3), some (.int x4), some (.int x5)] [] μ (some (.int r), μ') := by
  unfold Te_answer_106 at h
  refine V.iload F dX7_answer_106 rfl ?_
  refine V.bipush (v := (-11)) F dX7_answer_108 (by decide) ?_
  refine V.icmp_ne (tgt := 145) F dX7_answer_110 (by decide) (fun c1 => ?_) (fun c1 => ?_)
  · have h := f_out h c1
    exact Te_answer_145_ok F hd hk10 ht0 h
  · have h := t_out h c1
    refine V.iload_n F dX7_answer_113 rfl rfl ?_
    refine V.iconst (v := 1) F dX7_answer_114 (by decide) ?_
    refine V.icmp_lt (tgt := 145) F dX7_answer_115 (by decide) (fun c2 => ?_) (fun c2 => ?_)
    · have h := t_out h c2
      exact Te_answer_145_ok F hd hk10 ht0 h
    · have h := f_out h c2
      refine V.rload_n F dX7_answer_118 rfl rfl ?_
      refine gf_RX7_18 ht0 F dX7_answer_119 ?_
      refine V.iload_n F dX7_answer_122 rfl rfl ?_
      refine V.iconst (v := 1) F dX7_answer_123 (by decide) ?_
      refine V.isub F dX7_answer_124 ?_
      refine V.rload_n F dX7_answer_125 rfl rfl ?_
      refine gf_RX7_18 ht0 F dX7_answer_126 ?_
      refine V.iload_n F dX7_answer_129 rfl rfl ?_
      refine V.iconst (v := 1) F dX7_answer_130 (by decide) ?_
      refine V.isub F dX7_answer_131 ?_
      obtain ⟨c3, h⟩ := chk_out h
      refine V.iald (t0 := 0) (n := 160) F (mA8 ht0) rfl rfl c3 dX7_answer_132 ?_
      refine V.if_ne (tgt := 140) F dX7_answer_133 (by decide) (fun c4 => ?_) (fun c4 => ?_)
      · have h := f_out h c4
        refine V.iconst (v := 0) F dX7_answer_140 (by decide) ?_
        refine V.msk (L' := [some (rf φ 5 t0), some (.int x1), some (rf φ 19 0), some (.int x3), some (.int x4), none]) [true, true, true, true, true, false] rfl ?_
        exact Te_answer_141_ok F hd hk10 ht0 ht0 h
      · have h := t_out h c4
        refine V.iconst (v := 1) F dX7_answer_136 (by decide) ?_
        refine V.goto (tgt := 141) F dX7_answer_137 (by decide) ?_
        refine V.msk (L' := [some (rf φ 5 t0), some (.int x1), some (rf φ 19 0), some (.int x3), some (.int x4), none]) [true, true, true, true, true, false] rfl ?_
        exact Te_answer_141_ok F hd hk10 ht0 ht0 h
def Te_answer_74 (k10 : Nat → Int32 → Int32 → Int32 → Mem → Option (Int32 × Mem)) (t0 : Nat) (x1 : Int32) (x3 : Int32) (x4 : Int32) (x5 : Int32) (μ : Mem) : Option (Int32 × Mem) :=
  if x5 = (-100) then (
    if x3 < 1 then (
      Te_answer_106 k10 t0 x1 x3 x4 x5 μ)
    else (
      chk (inb (x3 - 1) 160) <|
      chk (inb (x3 - 1) 160) <|
      nm (up μ 8 t0 (ix (x3 - 1)) (-(rd μ 8 t0 (ix (x3 - 1))))) fun μ5 =>
      Te_answer_183 k10 t0 x1 x3 x4 μ5))
  else (
    Te_answer_106 k10 t0 x1 x3 x4 x5 μ)
set_option maxHeartbeats 4000000 in
set_option maxRecDepth 100000 in
theorem Te_answer_74_ok {φ : Fr} {d : Nat} (F : Fx φ ΩA cX7_answer RX7 6 (some .int)) (hd : 2 ≤ d) {k10 : Nat → Int32 → Int32 → Int32 → Mem → Option (Int32 × Mem)} (hk10 : ∀ (t0 : Nat) (x1 : Int32) (x3 : Int32) (x4 : Int32) (ht0 : t0 < 6) (μ : Mem) (r : Int32) (μ' : Mem), k10 t0 x1 x3 x4 μ = some (r, μ') → V φ ΩA 6 d 10 [some (rf φ 5 t0), some (.int x1), some (rf φ 19 0), some (.int x3), some (.int x4), none] [] μ (some (.int r), μ')) {t0 : Nat} {x1 : Int32} {x3 : Int32} {x4 : Int32} {x5 : Int32} (ht0 : t0 < 6) {μ : Mem} {r : Int32} {μ' : Mem} (h : Te_answer_74 k10 t0 x1 x3 x4 x5 μ = some (r, μ')) : V φ ΩA 6 d 74 [some (rf φ 5 t0), some (.int x1), some (rf φ 19 0), some (.int x3), some (.int x4), some (.int x5)] [] μ (some (.int r), μ') := by
  unfold Te_answer_74 at h
  refine V.iload F dX7_answer_74 rfl ?_
  refine V.bipush (v := (-100)) F dX7_answer_76 (by decide) ?_
  refine V.icmp_ne (tgt := 106) F dX7_answer_78 (by decide) (fun c1 => ?_) (fun c1 => ?_)
  · have h := f_out h c1
    exact Te_answer_106_ok F hd hk10 ht0 h
  · have h := t_out h c1
    refine V.iload_n F dX7_answer_81 rfl rfl ?_
    refine V.iconst (v := 1) F dX7_answer_82 (by decide) ?_
    refine V.icmp_lt (tgt := 106) F dX7_answer_83 (by decide) (fun c2 => ?_) (fun c2 => ?_)
    · have h := t_out h c2
      exact Te_answer_106_ok F hd hk10 ht0 h
    · have h := f_out h c2
      refine V.rload_n F dX7_answer_86 rfl rfl ?_
      refine gf_RX7_18 ht0 F dX7_answer_87 ?_
      refine V.iload_n F dX7_answer_90 rfl rfl ?_
      refine V.iconst (v := 1) F dX7_answer_91 (by decide) ?_
      refine V.isub F dX7_answer_92 ?_
      refine V.rload_n F dX7_answer_93 rfl rfl ?_
      refine gf_RX7_18 ht0 F dX7_answer_94 ?_
      refine V.iload_n F dX7_answer_97 rfl rfl ?_
      refine V.iconst (v := 1) F dX7_answer_98 (by decide) ?_
      refine V.isub F dX7_answer_99 ?_
      obtain ⟨c3, h⟩ := chk_out h
      refine V.iald (t0 := 0) (n := 160) F (mA8 ht0) rfl rfl c3 dX7_answer_100 ?_
      refine V.ineg F dX7_answer_101 ?_
      obtain ⟨c4, h⟩ := chk_out h
      obtain ⟨μ5, eμ5, h⟩ := nm_out h
      refine V.iast (t0 := 0) (n := 160) F (mA8 ht0) (fun _ => rfl) rfl c4 eμ5 dX7_answer_102 ?_
      refine V.goto (tgt := 183) F dX7_answer_103 (by decide) ?_
      refine V.msk (L' := [some (rf φ 5 t0), some (.int x1), some (rf φ 19 0), some (.int x3), some (.int x4), none]) [true, true, true, true, true, false] rfl ?_
      exact Te_answer_183_ok F hd hk10 ht0 h
def Te_answer_67 (k10 : Nat → Int32 → Int32 → Int32 → Mem → Option (Int32 × Mem)) (t0 : Nat) (x1 : Int32) (x3 : Int32) (x4 : Int32) (q0 : Nat) (y1 : Int32) (y2 : Int32) (μ : Mem) : Option (Int32 × Mem) :=
  chk (inb y1 160) <|
  nm (up μ 8 q0 (ix y1) y2) fun μ2 =>
  nm (x3 + 1) fun a3 =>
  Te_answer_183 k10 t0 x1 a3 x4 μ2
set_option maxHeartbeats 4000000 in
set_option maxRecDepth 100000 in
theorem Te_answer_67_ok {φ : Fr} {d : Nat} (F : Fx φ ΩA cX7_answer RX7 6 (some .int)) (hd : 2 ≤ d) {k10 : Nat → Int32 → Int32 → Int32 → Mem → Option (Int32 × Mem)} (hk10 : ∀ (t0 : Nat) (x1 : Int32) (x3 : Int32) (x4 : Int32) (ht0 : t0 < 6) (μ : Mem) (r : Int32) (μ' : Mem), k10 t0 x1 x3 x4 μ = some (r, μ') → V φ ΩA 6 d 10 [some (rf φ 5 t0), some (.int x1), some (rf φ 19 0), some (.int x3), some (.int x4), none] [] μ (some (.int r), μ')) {t0 : Nat} {x1 : Int32} {x3 : Int32} {x4 : Int32} {q0 : Nat} {y1 : Int32} {y2 : Int32} (ht0 : t0 < 6) (hq0 : q0 < 6) {μ : Mem} {r : Int32} {μ' : Mem} (h : Te_answer_67 k10 t0 x1 x3 x4 q0 y1 y2 μ = some (r, μ')) : V φ ΩA 6 d 67 [some (rf φ 5 t0), some (.int x1), some (rf φ 19 0), some (.int x3), some (.int x4), none] [.int y2, .int y1, rf φ 8 q0] μ (some (.int r), μ') := by
  unfold Te_answer_67 at h
  obtain ⟨c1, h⟩ := chk_out h
  obtain ⟨μ2, eμ2, h⟩ := nm_out h
  refine V.iast (t0 := 0) (n := 160) F (mA8 hq0) (fun _ => rfl) rfl c1 eμ2 dX7_answer_67 ?_
  obtain ⟨a3, ea3, h⟩ := nm_out h
  refine V.iinc (z := 1) (L' := [some (rf φ 5 t0), some (.int x1), some (rf φ 19 0), some (.int a3), some (.int x4), none]) F dX7_answer_68 rfl (by decide) ea3 (by decide) rfl rfl ?_
  refine V.goto (tgt := 183) F dX7_answer_71 (by decide) ?_
  exact Te_answer_183_ok F hd hk10 ht0 h
def Te_answer_10 (k10 : Nat → Int32 → Int32 → Int32 → Mem → Option (Int32 × Mem)) (t0 : Nat) (x1 : Int32) (x3 : Int32) (x4 : Int32) (μ : Mem) : Option (Int32 × Mem) :=
  chk (inb (x1 + 1) 4) <|
  if x4 < (rd μ 7 t0 (ix (x1 + 1))) then (
    chk (inb x4 160) <|
    nm (rd μ 6 t0 (ix x4)) fun a5 =>
    if a5 < (-6) then (
      Te_answer_74 k10 t0 x1 x3 x4 a5 μ)
    else (
      if x3 < 160 then (
        if a5 < 0 then (
          chk (inb ((-1) - a5) 6) <|
          Te_answer_67 k10 t0 x1 x3 x4 t0 x3 (rd μ 19 0 (ix ((-1) - a5))) μ)
        else (
          Te_answer_67 k10 t0 x1 x3 x4 t0 x3 a5 μ))
      else (
        Te_answer_74 k10 t0 x1 x3 x4 a5 μ)))
  else (
    chk (inb 0 160) <|
    some (rd μ 8 t0 (ix 0), μ))
set_option maxHeartbeats 4000000 in
set_option maxRecDepth 100000 in
theorem Te_answer_10_ok {φ : Fr} {d : Nat} (F : Fx φ ΩA cX7_answer RX7 6 (some .int)) (hd : 2 ≤ d) {k10 : Nat → Int32 → Int32 → Int32 → Mem → Option (Int32 × Mem)} (hk10 : ∀ (t0 : Nat) (x1 : Int32) (x3 : Int32) (x4 : Int32) (ht0 : t0 < 6) (μ : Mem) (r : Int32) (μ' : Mem), k10 t0 x1 x3 x4 μ = some (r, μ') → V φ ΩA 6 d 10 [some (rf φ 5 t0), some (.int x1), some (rf φ 19 0), some (.int x3), some (.int x4), none] [] μ (some (.int r), μ')) {t0 : Nat} {x1 : Int32} {x3 : Int32} {x4 : Int32} (ht0 : t0 < 6) {μ : Mem} {r : Int32} {μ' : Mem} (h : Te_answer_10 k10 t0 x1 x3 x4 μ = some (r, μ')) : V φ ΩA 6 d 10 [some (rf φ 5 t0), some (.int x1), some (rf φ 19 0), some (.int x3), some (.int x4), none] [] μ (some (.int r), μ') := by
  unfold Te_answer_10 at h
  refine V.iload F dX7_answer_10 rfl ?_
  refine V.rload_n F dX7_answer_12 rfl rfl ?_
  refine gf_RX7_15 ht0 F dX7_answer_13 ?_
  refine V.iload_n F dX7_answer_16 rfl rfl ?_
  refine V.iconst (v := 1) F dX7_answer_17 (by decide) ?_
  refine V.iadd F dX7_answer_18 ?_
  obtain ⟨c1, h⟩ := chk_out h
  refine V.iald (t0 := 0) (n := 4) F (mA7 ht0) rfl rfl c1 dX7_answer_19 ?_
  refine V.icmp_ge (tgt := 189) F dX7_answer_20 (by decide) (fun c2 => ?_) (fun c2 => ?_)
  · have h := f_out h c2
    refine V.rload_n F dX7_answer_189 rfl rfl ?_
    refine gf_RX7_18 ht0 F dX7_answer_190 ?_
    refine V.iconst (v := 0) F dX7_answer_193 (by decide) ?_
    obtain ⟨c3, h⟩ := chk_out h
    refine V.iald (t0 := 0) (n := 160) F (mA8 ht0) rfl rfl c3 dX7_answer_194 ?_
    obtain ⟨rfl, rfl⟩ := r2_out h
    exact V.iret F dX7_answer_195
  · have h := t_out h c2
    refine V.rload_n F dX7_answer_23 rfl rfl ?_
    refine gf_RX7_9 ht0 F dX7_answer_24 ?_
    refine V.iload F dX7_answer_27 rfl ?_
    obtain ⟨c4, h⟩ := chk_out h
    refine V.iald (t0 := 0) (n := 160) F (mA6 ht0) rfl rfl c4 dX7_answer_29 ?_
    obtain ⟨a5, ea5, h⟩ := nm_out h
    refine V.istore (L' := [some (rf φ 5 t0), some (.int x1), some (rf φ 19 0), some (.int x3), some (.int x4), some (.int a5)]) F dX7_answer_30 (by decide) rfl ea5 rfl ?_
    refine V.iload F dX7_answer_32 rfl ?_
    refine V.bipush (v := (-6)) F dX7_answer_34 (by decide) ?_
    refine V.icmp_lt (tgt := 74) F dX7_answer_36 (by decide) (fun c6 => ?_) (fun c6 => ?_)
    · have h := t_out h c6
      exact Te_answer_74_ok F hd hk10 ht0 h
    · have h := f_out h c6
      refine V.iload_n F dX7_answer_39 rfl rfl ?_
      refine V.sipush (v := 160) F dX7_answer_40 (by decide) ?_
      refine V.icmp_ge (tgt := 74) F dX7_answer_43 (by decide) (fun c7 => ?_) (fun c7 => ?_)
      · have h := f_out h c7
        exact Te_answer_74_ok F hd hk10 ht0 h
      · have h := t_out h c7
        refine V.rload_n F dX7_answer_46 rfl rfl ?_
        refine gf_RX7_18 ht0 F dX7_answer_47 ?_
        refine V.iload_n F dX7_answer_50 rfl rfl ?_
        refine V.iload F dX7_answer_51 rfl ?_
        refine V.if_lt (tgt := 61) F dX7_answer_53 (by decide) (fun c8 => ?_) (fun c8 => ?_)
        · have h := t_out h c8
          refine V.rload_n F dX7_answer_61 rfl rfl ?_
          refine V.iconst (v := (-1)) F dX7_answer_62 (by decide) ?_
          refine V.iload F dX7_answer_63 rfl ?_
          refine V.isub F dX7_answer_65 ?_
          obtain ⟨c9, h⟩ := chk_out h
          refine V.iald (t0 := 0) (n := 6) F mA19 rfl rfl c9 dX7_answer_66 ?_
          refine V.msk (L' := [some (rf φ 5 t0), some (.int x1), some (rf φ 19 0), some (.int x3), some (.int x4), none]) [true, true, true, true, true, false] rfl ?_
          exact Te_answer_67_ok F hd hk10 ht0 ht0 h
        · have h := f_out h c8
          refine V.iload F dX7_answer_56 rfl ?_
          refine V.goto (tgt := 67) F dX7_answer_58 (by decide) ?_
          refine V.msk (L' := [some (rf φ 5 t0), some (.int x1), some (rf φ 19 0), some (.int x3), some (.int x4), none]) [true, true, true, true, true, false] rfl ?_
          exact Te_answer_67_ok F hd hk10 ht0 ht0 h
def Te_answer_10L : Nat → Nat → Int32 → Int32 → Int32 → Mem → Option (Int32 × Mem)
  | 0 => fun _ _ _ _ _ => none
  | n + 1 => Te_answer_10 (Te_answer_10L n)
set_option maxHeartbeats 4000000 in
set_option maxRecDepth 100000 in
theorem Te_answer_10L_ok {φ : Fr} {d : Nat} (F : Fx φ ΩA cX7_answer RX7 6 (some .int)) (hd : 2 ≤ d) : ∀ (n : Nat) (t0 : Nat) (x1 : Int32) (x3 : Int32) (x4 : Int32) (ht0 : t0 < 6) (μ : Mem) (r : Int32) (μ' : Mem), Te_answer_10L n t0 x1 x3 x4 μ = some (r, μ') → V φ ΩA 6 d 10 [some (rf φ 5 t0), some (.int x1), some (rf φ 19 0), some (.int x3), some (.int x4), none] [] μ (some (.int r), μ') := by
  intro n
  induction n with
  | zero => intro t0 x1 x3 x4 ht0 μ r μ' h; cases h
  | succ n ih => intro t0 x1 x3 x4 ht0 μ r μ' h; exact Te_answer_10_ok F hd ih ht0 h
def Te_answer (t0 : Nat) (x1 : Int32) (μ : Mem) : Option (Int32 × Mem) :=
  chk (inb x1 4) <|
  nm (rd μ 7 t0 (ix x1)) fun a2 =>
  Te_answer_10L 1000 t0 x1 0 a2 μ
set_option maxHeartbeats 4000000 in
set_option maxRecDepth 100000 in
theorem Te_answer_ok {φ : Fr} {d : Nat} (F : Fx φ ΩA cX7_answer RX7 6 (some .int)) (hd : 2 ≤ d) {t0 : Nat} {x1 : Int32} (ht0 : t0 < 6) {μ : Mem} {r : Int32} {μ' : Mem} (h : Te_answer t0 x1 μ = some (r, μ')) : V φ ΩA 6 d 0 [some (rf φ 5 t0), some (.int x1), some (rf φ 19 0), none, none, none] [] μ (some (.int r), μ') := by
  unfold Te_answer at h
  refine V.iconst (v := 0) F dX7_answer_0 (by decide) ?_
  refine V.istore_n (L' := [some (rf φ 5 t0), some (.int x1), some (rf φ 19 0), some (.int 0), none, none]) F dX7_answer_1 rfl (by decide) rfl rfl rfl ?_
  refine V.rload_n F dX7_answer_2 rfl rfl ?_
  refine gf_RX7_15 ht0 F dX7_answer_3 ?_
  refine V.iload_n F dX7_answer_6 rfl rfl ?_
  obtain ⟨c1, h⟩ := chk_out h
  refine V.iald (t0 := 0) (n := 4) F (mA7 ht0) rfl rfl c1 dX7_answer_7 ?_
  obtain ⟨a2, ea2, h⟩ := nm_out h
  refine V.istore (L' := [some (rf φ 5 t0), some (.int x1), some (rf φ 19 0), some (.int 0), some (.int a2), none]) F dX7_answer_8 (by decide) rfl ea2 rfl ?_
  exact Te_answer_10L_ok F hd 1000 _ _ _ _ ht0 _ _ _ h
set_option maxHeartbeats 4000000 in
set_option maxRecDepth 100000 in
theorem Te_answer_ct {l : Launch} {G : Glo} {t0 : Nat} {x1 : Int32} (ht0 : t0 < 6) {μ : Mem} {r : Int32} {μ' : Mem} (h : Te_answer t0 x1 μ = some (r, μ')) : Ct l ΩA G 2 yX7_answer cX7_answer 6 (some .int) [.ref (G.1 5 t0), .int x1, .ref (G.1 19 0)] μ (some (.int r), μ') := by
  refine Ct.intro (by decide) (Nat.le_of_ble_eq_true rfl) ?_
  intro φ hl hG F
  subst hl; subst hG
  exact Te_answer_ok F (Nat.le_refl _) ht0 h
def S_within (x0 : Int32) : Int32 :=
  if x0 < 0 then (
    0)
  else (
    if 99 < x0 then (
      99)
    else (
      x0))
set_option maxHeartbeats 4000000 in
set_option maxRecDepth 100000 in
theorem S_within_ok {φ : Fr} {d : Nat} (F : Fx φ ΩA cX9_within RX9 1 (some .int)) (hd : 1 ≤ d) {x0 : Int32} {μ : Mem} {r : Int32} (h : S_within x0 = r) : V φ ΩA 1 d 0 [some (.int x0)] [] μ (some (.int r), μ) := by
  unfold S_within at h
  refine V.iload_n F dX9_within_0 rfl rfl ?_
  refine V.if_ge (tgt := 8) F dX9_within_1 (by decide) (fun c1 => ?_) (fun c1 => ?_)
  · have h := f_out h c1
    refine V.iload_n F dX9_within_8 rfl rfl ?_
    refine V.bipush (v := 99) F dX9_within_9 (by decide) ?_
    refine V.icmp_le (tgt := 19) F dX9_within_11 (by decide) (fun c2 => ?_) (fun c2 => ?_)
    · have h := f_out h c2
      refine V.iload_n F dX9_within_19 rfl rfl ?_
      obtain rfl := h
      exact V.iret F dX9_within_20
    · have h := t_out h c2
      refine V.bipush (v := 99) F dX9_within_14 (by decide) ?_
      refine V.goto (tgt := 20) F dX9_within_16 (by decide) ?_
      obtain rfl := h
      exact V.iret F dX9_within_20
  · have h := t_out h c1
    refine V.iconst (v := 0) F dX9_within_4 (by decide) ?_
    refine V.goto (tgt := 20) F dX9_within_5 (by decide) ?_
    obtain rfl := h
    exact V.iret F dX9_within_20
set_option maxHeartbeats 4000000 in
set_option maxRecDepth 100000 in
theorem S_within_ct {l : Launch} {G : Glo} {x0 : Int32} {μ : Mem} {r : Int32} (h : S_within x0 = r) : Ct l ΩA G 1 yX9_within cX9_within 1 (some .int) [.int x0] μ (some (.int r), μ) := by
  refine Ct.intro (by decide) (Nat.le_of_ble_eq_true rfl) ?_
  intro φ hl hG F
  subst hl; subst hG
  exact S_within_ok F (Nat.le_refl _) h
def Ma_heats (t1 : Nat) (μ : Mem) : Option (Int32 × Mem) :=
  bnd (Ma_nameAll μ) fun μ2 =>
  bnd2 (Te_answer t1 0 μ2) fun r4 μ5 =>
  nm (S_within r4) fun r7 =>
  if (rd μ5 18 0 0) = 1 then (
    nm (S_within (r7 + 3)) fun r10 =>
    some (r10, μ5))
  else (
  if (rd μ5 18 0 0) = 2 then (
    some (r7 / 2, μ5))
  else (
  if (rd μ5 18 0 0) = 3 then (
    if (irm (rd μ5 18 0 4) 4) = 1 then (
      some (0, μ5))
    else (
      nm (S_within (r7 + 3)) fun r15 =>
      some (r15, μ5)))
  else (
  if (rd μ5 18 0 0) = 4 then (
    nm (S_within ((r7 / 2) - (rd μ5 18 0 1))) fun r18 =>
    some (r18, μ5))
  else (
  if (rd μ5 18 0 0) = 5 then (
    nm (S_within (2 * r7)) fun r21 =>
    some (r21, μ5))
  else (
    some (r7, μ5))))))
set_option maxHeartbeats 4000000 in
set_option maxRecDepth 100000 in
theorem Ma_heats_ok {φ : Fr} {d : Nat} (F : Fx φ ΩA cX2_heats RX2 3 (some .int)) (hd : 3 ≤ d) {t1 : Nat} (ht1 : t1 < 6) {μ : Mem} {r : Int32} {μ' : Mem} (h : Ma_heats t1 μ = some (r, μ')) : V φ ΩA 3 d 0 [some (rf φ 18 0), some (rf φ 5 t1), none] [] μ (some (.int r), μ') := by
  unfold Ma_heats at h
  refine V.rload_n F dX2_heats_0 rfl rfl ?_
  obtain ⟨μ2, e1, h⟩ := bnd_out h
  refine V.callVv (f := 18) (i := 0) (As := []) F ck_RX2_43 (Ma_nameAll_ct e1) (by omega) (by decide) rfl mA18 rfl rfl rfl (Nat.le_of_ble_eq_true rfl) dX2_heats_1 ?_
  refine V.rload_n F dX2_heats_4 rfl rfl ?_
  refine V.iconst (v := 0) F dX2_heats_5 (by decide) ?_
  refine V.rload_n F dX2_heats_6 rfl rfl ?_
  refine gf_RX2_39 F dX2_heats_7 ?_
  obtain ⟨r4, μ5, e3, h⟩ := bnd2_out h
  refine V.callVi (f := 5) (i := t1) (As := [.int 0, rf φ 19 0]) F ck_RX2_46 (Te_answer_ct ht1 e3) (by omega) (by decide) rfl (mA5 ht1) rfl rfl rfl (Nat.le_of_ble_eq_true rfl) dX2_heats_10 ?_
  obtain ⟨r7, e6, h⟩ := nm_out h
  refine V.callSNi (n := 1) (As := [.int r4]) F F.C.2.2.2.2 sw_X9_within iw_RX9 cw_X9_within ⟨by decide +kernel, by decide +kernel, by decide +kernel⟩ (S_within_ct e6) (by omega) (by decide) rfl rfl (Nat.le_of_ble_eq_true rfl) dX2_heats_13 ?_
  refine V.istore_n (L' := [some (rf φ 18 0), some (rf φ 5 t1), some (.int r7)]) F dX2_heats_16 rfl (by decide) rfl rfl rfl ?_
  refine V.rload_n F dX2_heats_17 rfl rfl ?_
  refine gf_RX2_9 F dX2_heats_18 ?_
  by_cases c8 : (rd μ5 18 0 0) = 1
  · have h := t_out h c8
    refine V.tabK (tgt := 56) (v := 1) F dX2_heats_21 (by rw [c8]; decide) (by decide) (by decide) rfl (by decide) ?_
    refine V.iload_n F dX2_heats_56 rfl rfl ?_
    refine V.iconst (v := 3) F dX2_heats_57 (by decide) ?_
    refine V.iadd F dX2_heats_58 ?_
    obtain ⟨r10, e9, h⟩ := nm_out h
    refine V.callSNi (n := 1) (As := [.int (r7 + 3)]) F F.C.2.2.2.2 sw_X9_within iw_RX9 cw_X9_within ⟨by decide +kernel, by decide +kernel, by decide +kernel⟩ (S_within_ct e9) (by omega) (by decide) rfl rfl (Nat.le_of_ble_eq_true rfl) dX2_heats_59 ?_
    obtain ⟨rfl, rfl⟩ := r2_out h
    exact V.iret F dX2_heats_62
  have h := f_out h c8
  by_cases c11 : (rd μ5 18 0 0) = 2
  · have h := t_out h c11
    refine V.tabK (tgt := 63) (v := 2) F dX2_heats_21 (by rw [c11]; decide) (by decide) (by decide) rfl (by decide) ?_
    refine V.iload_n F dX2_heats_63 rfl rfl ?_
    refine V.iconst (v := 2) F dX2_heats_64 (by decide) ?_
    refine V.idiv F dX2_heats_65 (by decide) ?_
    obtain ⟨rfl, rfl⟩ := r2_out h
    exact V.iret F dX2_heats_66
  have h := f_out h c11
  by_cases c12 : (rd μ5 18 0 0) = 3
  · have h := t_out h c12
    refine V.tabK (tgt := 67) (v := 3) F dX2_heats_21 (by rw [c12]; decide) (by decide) (by decide) rfl (by decide) ?_
    refine V.rload_n F dX2_heats_67 rfl rfl ?_
    refine gf_RX2_24 F dX2_heats_68 ?_
    refine V.iconst (v := 4) F dX2_heats_71 (by decide) ?_
    refine V.irem F dX2_heats_72 (by decide) ?_
    refine V.iconst (v := 1) F dX2_heats_73 (by decide) ?_
    refine V.icmp_ne (tgt := 81) F dX2_heats_74 (by decide) (fun c13 => ?_) (fun c13 => ?_)
    · have h := f_out h c13
      refine V.iload_n F dX2_heats_81 rfl rfl ?_
      refine V.iconst (v := 3) F dX2_heats_82 (by decide) ?_
      refine V.iadd F dX2_heats_83 ?_
      obtain ⟨r15, e14, h⟩ := nm_out h
      refine V.callSNi (n := 1) (As := [.int (r7 + 3)]) F F.C.2.2.2.2 sw_X9_within iw_RX9 cw_X9_within ⟨by decide +kernel, by decide +kernel, by decide +kernel⟩ (S_within_ct e14) (by omega) (by decide) rfl rfl (Nat.le_of_ble_eq_true rfl) dX2_heats_84 ?_
      obtain ⟨rfl, rfl⟩ := r2_out h
      exact V.iret F dX2_heats_87
    · have h := t_out h c13
      refine V.iconst (v := 0) F dX2_heats_77 (by decide) ?_
      refine V.goto (tgt := 87) F dX2_heats_78 (by decide) ?_
      obtain ⟨rfl, rfl⟩ := r2_out h
      exact V.iret F dX2_heats_87
  have h := f_out h c12
  by_cases c16 : (rd μ5 18 0 0) = 4
  · have h := t_out h c16
    refine V.tabK (tgt := 88) (v := 4) F dX2_heats_21 (by rw [c16]; decide) (by decide) (by decide) rfl (by decide) ?_
    refine V.iload_n F dX2_heats_88 rfl rfl ?_
    refine V.iconst (v := 2) F dX2_heats_89 (by decide) ?_
    refine V.idiv F dX2_heats_90 (by decide) ?_
    refine V.rload_n F dX2_heats_91 rfl rfl ?_
    refine gf_RX2_15 F dX2_heats_92 ?_
    refine V.isub F dX2_heats_95 ?_
    obtain ⟨r18, e17, h⟩ := nm_out h
    refine V.callSNi (n := 1) (As := [.int ((r7 / 2) - (rd μ5 18 0 1))]) F F.C.2.2.2.2 sw_X9_within iw_RX9 cw_X9_within ⟨by decide +kernel, by decide +kernel, by decide +kernel⟩ (S_within_ct e17) (by omega) (by decide) rfl rfl (Nat.le_of_ble_eq_true rfl) dX2_heats_96 ?_
    obtain ⟨rfl, rfl⟩ := r2_out h
    exact V.iret F dX2_heats_99
  have h := f_out h c16
  by_cases c19 : (rd μ5 18 0 0) = 5
  · have h := t_out h c19
    refine V.tabK (tgt := 100) (v := 5) F dX2_heats_21 (by rw [c19]; decide) (by decide) (by decide) rfl (by decide) ?_
    refine V.iconst (v := 2) F dX2_heats_100 (by decide) ?_
    refine V.iload_n F dX2_heats_101 rfl rfl ?_
    refine V.imul F dX2_heats_102 ?_
    obtain ⟨r21, e20, h⟩ := nm_out h
    refine V.callSNi (n := 1) (As := [.int (2 * r7)]) F F.C.2.2.2.2 sw_X9_within iw_RX9 cw_X9_within ⟨by decide +kernel, by decide +kernel, by decide +kernel⟩ (S_within_ct e20) (by omega) (by decide) rfl rfl (Nat.le_of_ble_eq_true rfl) dX2_heats_103 ?_
    obtain ⟨rfl, rfl⟩ := r2_out h
    exact V.iret F dX2_heats_106
  have h := f_out h c19
  have K22 : V φ ΩA 3 d 107 [some (rf φ 18 0), some (rf φ 5 t1), some (.int r7)] [] μ5 (some (.int r), μ') := by
    refine V.iload_n F dX2_heats_107 rfl rfl ?_
    obtain ⟨rfl, rfl⟩ := r2_out h
    exact V.iret F dX2_heats_108
  exact V.tabOut (tgt := 107) F dX2_heats_21 (by have := lv_neT c8 (a := 1) (by decide); have := lv_neT c11 (a := 2) (by decide); have := lv_neT c12 (a := 3) (by decide); have := lv_neT c16 (a := 4) (by decide); have := lv_neT c19 (a := 5) (by decide); omega) (by decide) K22
set_option maxHeartbeats 4000000 in
set_option maxRecDepth 100000 in
theorem Ma_heats_ct {l : Launch} {G : Glo} {t1 : Nat} (ht1 : t1 < 6) {μ : Mem} {r : Int32} {μ' : Mem} (h : Ma_heats t1 μ = some (r, μ')) : Ct l ΩA G 3 yX2_heats cX2_heats 3 (some .int) [.ref (G.1 18 0), .ref (G.1 5 t1)] μ (some (.int r), μ') := by
  refine Ct.intro (by decide) (Nat.le_of_ble_eq_true rfl) ?_
  intro φ hl hG F
  subst hl; subst hG
  exact Ma_heats_ok F (Nat.le_refl _) ht1 h
def Ma_calms_33 (x2 : Int32) (y0 : Int32) (μ : Mem) : Option (Int32 × Mem) :=
  if (rd μ 18 0 0) = 1 then (
    some (y0, μ))
  else (
  if (rd μ 18 0 0) = 2 then (
    nm (S_within (x2 + 2)) fun r4 =>
    some (r4, μ))
  else (
  if (rd μ 18 0 0) = 3 then (
    nm (S_within (y0 + (rd μ 18 0 1))) fun r7 =>
    some (r7, μ))
  else (
  if (rd μ 18 0 0) = 4 then (
    if (rd μ 18 0 2) = 7 then (
      some (0, μ))
    else (
      if (rd μ 18 0 2) = 13 then (
        some (0, μ))
      else (
        nm (S_within (x2 + 2)) fun r12 =>
        some (r12, μ))))
  else (
  if (rd μ 18 0 0) = 5 then (
    some (rd μ 18 0 2, μ))
  else (
    some (x2, μ))))))
set_option maxHeartbeats 4000000 in
set_option maxRecDepth 100000 in
theorem Ma_calms_33_ok {φ : Fr} {d : Nat} (F : Fx φ ΩA cX2_calms RX2 4 (some .int)) (hd : 3 ≤ d) {x2 : Int32} {y0 : Int32} {μ : Mem} {r : Int32} {μ' : Mem} (h : Ma_calms_33 x2 y0 μ = some (r, μ')) : V φ ΩA 4 d 33 [some (rf φ 18 0), none, some (.int x2), none] [.int y0] μ (some (.int r), μ') := by
  unfold Ma_calms_33 at h
  refine V.istore_n (L' := [some (rf φ 18 0), none, some (.int x2), some (.int y0)]) F dX2_calms_33 rfl (by decide) rfl rfl rfl ?_
  refine V.rload_n F dX2_calms_34 rfl rfl ?_
  refine gf_RX2_9 F dX2_calms_35 ?_
  by_cases c1 : (rd μ 18 0 0) = 1
  · have h := t_out h c1
    refine V.tabK (tgt := 72) (v := 1) F dX2_calms_38 (by rw [c1]; decide) (by decide) (by decide) rfl (by decide) ?_
    refine V.iload_n F dX2_calms_72 rfl rfl ?_
    obtain ⟨rfl, rfl⟩ := r2_out h
    exact V.iret F dX2_calms_73
  have h := f_out h c1
  by_cases c2 : (rd μ 18 0 0) = 2
  · have h := t_out h c2
    refine V.tabK (tgt := 74) (v := 2) F dX2_calms_38 (by rw [c2]; decide) (by decide) (by decide) rfl (by decide) ?_
    refine V.iload_n F dX2_calms_74 rfl rfl ?_
    refine V.iconst (v := 2) F dX2_calms_75 (by decide) ?_
    refine V.iadd F dX2_calms_76 ?_
    obtain ⟨r4, e3, h⟩ := nm_out h
    refine V.callSNi (n := 1) (As := [.int (x2 + 2)]) F F.C.2.2.2.2 sw_X9_within iw_RX9 cw_X9_within ⟨by decide +kernel, by decide +kernel, by decide +kernel⟩ (S_within_ct e3) (by omega) (by decide) rfl rfl (Nat.le_of_ble_eq_true rfl) dX2_calms_77 ?_
    obtain ⟨rfl, rfl⟩ := r2_out h
    exact V.iret F dX2_calms_80
  have h := f_out h c2
  by_cases c5 : (rd μ 18 0 0) = 3
  · have h := t_out h c5
    refine V.tabK (tgt := 81) (v := 3) F dX2_calms_38 (by rw [c5]; decide) (by decide) (by decide) rfl (by decide) ?_
    refine V.iload_n F dX2_calms_81 rfl rfl ?_
    refine V.rload_n F dX2_calms_82 rfl rfl ?_
    refine gf_RX2_15 F dX2_calms_83 ?_
    refine V.iadd F dX2_calms_86 ?_
    obtain ⟨r7, e6, h⟩ := nm_out h
    refine V.callSNi (n := 1) (As := [.int (y0 + (rd μ 18 0 1))]) F F.C.2.2.2.2 sw_X9_within iw_RX9 cw_X9_within ⟨by decide +kernel, by decide +kernel, by decide +kernel⟩ (S_within_ct e6) (by omega) (by decide) rfl rfl (Nat.le_of_ble_eq_true rfl) dX2_calms_87 ?_
    obtain ⟨rfl, rfl⟩ := r2_out h
    exact V.iret F dX2_calms_90
  have h := f_out h c5
  by_cases c8 : (rd μ 18 0 0) = 4
  · have h := t_out h c8
    refine V.tabK (tgt := 91) (v := 4) F dX2_calms_38 (by rw [c8]; decide) (by decide) (by decide) rfl (by decide) ?_
    refine V.rload_n F dX2_calms_91 rfl rfl ?_
    refine gf_RX2_18 F dX2_calms_92 ?_
    refine V.bipush (v := 7) F dX2_calms_95 (by decide) ?_
    refine V.icmp_eq (tgt := 109) F dX2_calms_97 (by decide) (fun c9 => ?_) (fun c9 => ?_)
    · have h := t_out h c9
      refine V.iconst (v := 0) F dX2_calms_109 (by decide) ?_
      refine V.goto (tgt := 119) F dX2_calms_110 (by decide) ?_
      obtain ⟨rfl, rfl⟩ := r2_out h
      exact V.iret F dX2_calms_119
    · have h := f_out h c9
      refine V.rload_n F dX2_calms_100 rfl rfl ?_
      refine gf_RX2_18 F dX2_calms_101 ?_
      refine V.bipush (v := 13) F dX2_calms_104 (by decide) ?_
      refine V.icmp_ne (tgt := 113) F dX2_calms_106 (by decide) (fun c10 => ?_) (fun c10 => ?_)
      · have h := f_out h c10
        refine V.iload_n F dX2_calms_113 rfl rfl ?_
        refine V.iconst (v := 2) F dX2_calms_114 (by decide) ?_
        refine V.iadd F dX2_calms_115 ?_
        obtain ⟨r12, e11, h⟩ := nm_out h
        refine V.callSNi (n := 1) (As := [.int (x2 + 2)]) F F.C.2.2.2.2 sw_X9_within iw_RX9 cw_X9_within ⟨by decide +kernel, by decide +kernel, by decide +kernel⟩ (S_within_ct e11) (by omega) (by decide) rfl rfl (Nat.le_of_ble_eq_true rfl) dX2_calms_116 ?_
        obtain ⟨rfl, rfl⟩ := r2_out h
        exact V.iret F dX2_calms_119
      · have h := t_out h c10
        refine V.iconst (v := 0) F dX2_calms_109 (by decide) ?_
        refine V.goto (tgt := 119) F dX2_calms_110 (by decide) ?_
        obtain ⟨rfl, rfl⟩ := r2_out h
        exact V.iret F dX2_calms_119
  have h := f_out h c8
  by_cases c13 : (rd μ 18 0 0) = 5
  · have h := t_out h c13
    refine V.tabK (tgt := 120) (v := 5) F dX2_calms_38 (by rw [c13]; decide) (by decide) (by decide) rfl (by decide) ?_
    refine V.rload_n F dX2_calms_120 rfl rfl ?_
    refine gf_RX2_18 F dX2_calms_121 ?_
    obtain ⟨rfl, rfl⟩ := r2_out h
    exact V.iret F dX2_calms_124
  have h := f_out h c13
  have K14 : V φ ΩA 4 d 125 [some (rf φ 18 0), none, some (.int x2), some (.int y0)] [] μ (some (.int r), μ') := by
    refine V.iload_n F dX2_calms_125 rfl rfl ?_
    obtain ⟨rfl, rfl⟩ := r2_out h
    exact V.iret F dX2_calms_126
  exact V.tabOut (tgt := 125) F dX2_calms_38 (by have := lv_neT c1 (a := 1) (by decide); have := lv_neT c2 (a := 2) (by decide); have := lv_neT c5 (a := 3) (by decide); have := lv_neT c8 (a := 4) (by decide); have := lv_neT c13 (a := 5) (by decide); omega) (by decide) K14
def Ma_calms (t1 : Nat) (μ : Mem) : Option (Int32 × Mem) :=
  bnd (Ma_nameAll μ) fun μ2 =>
  bnd2 (Te_answer t1 1 μ2) fun r4 μ5 =>
  nm (S_within r4) fun r7 =>
  if (irm (rd μ5 18 0 2) 2) = 0 then (
    Ma_calms_33 r7 r7 μ5)
  else (
    Ma_calms_33 r7 (r7 / 2) μ5)
set_option maxHeartbeats 4000000 in
set_option maxRecDepth 100000 in
theorem Ma_calms_ok {φ : Fr} {d : Nat} (F : Fx φ ΩA cX2_calms RX2 4 (some .int)) (hd : 3 ≤ d) {t1 : Nat} (ht1 : t1 < 6) {μ : Mem} {r : Int32} {μ' : Mem} (h : Ma_calms t1 μ = some (r, μ')) : V φ ΩA 4 d 0 [some (rf φ 18 0), some (rf φ 5 t1), none, none] [] μ (some (.int r), μ') := by
  unfold Ma_calms at h
  refine V.rload_n F dX2_calms_0 rfl rfl ?_
  obtain ⟨μ2, e1, h⟩ := bnd_out h
  refine V.callVv (f := 18) (i := 0) (As := []) F ck_RX2_43 (Ma_nameAll_ct e1) (by omega) (by decide) rfl mA18 rfl rfl rfl (Nat.le_of_ble_eq_true rfl) dX2_calms_1 ?_
  refine V.rload_n F dX2_calms_4 rfl rfl ?_
  refine V.iconst (v := 1) F dX2_calms_5 (by decide) ?_
  refine V.rload_n F dX2_calms_6 rfl rfl ?_
  refine gf_RX2_39 F dX2_calms_7 ?_
  obtain ⟨r4, μ5, e3, h⟩ := bnd2_out h
  refine V.callVi (f := 5) (i := t1) (As := [.int 1, rf φ 19 0]) F ck_RX2_46 (Te_answer_ct ht1 e3) (by omega) (by decide) rfl (mA5 ht1) rfl rfl rfl (Nat.le_of_ble_eq_true rfl) dX2_calms_10 ?_
  obtain ⟨r7, e6, h⟩ := nm_out h
  refine V.callSNi (n := 1) (As := [.int r4]) F F.C.2.2.2.2 sw_X9_within iw_RX9 cw_X9_within ⟨by decide +kernel, by decide +kernel, by decide +kernel⟩ (S_within_ct e6) (by omega) (by decide) rfl rfl (Nat.le_of_ble_eq_true rfl) dX2_calms_13 ?_
  refine V.istore_n (L' := [some (rf φ 18 0), some (rf φ 5 t1), some (.int r7), none]) F dX2_calms_16 rfl (by decide) rfl rfl rfl ?_
  refine V.rload_n F dX2_calms_17 rfl rfl ?_
  refine gf_RX2_18 F dX2_calms_18 ?_
  refine V.iconst (v := 2) F dX2_calms_21 (by decide) ?_
  refine V.irem F dX2_calms_22 (by decide) ?_
  refine V.if_ne (tgt := 30) F dX2_calms_23 (by decide) (fun c8 => ?_) (fun c8 => ?_)
  · have h := f_out h c8
    refine V.iload_n F dX2_calms_30 rfl rfl ?_
    refine V.iconst (v := 2) F dX2_calms_31 (by decide) ?_
    refine V.idiv F dX2_calms_32 (by decide) ?_
    refine V.msk (L' := [some (rf φ 18 0), none, some (.int r7), none]) [true, false, true, false] rfl ?_
    exact Ma_calms_33_ok F hd h
  · have h := t_out h c8
    refine V.iload_n F dX2_calms_26 rfl rfl ?_
    refine V.goto (tgt := 33) F dX2_calms_27 (by decide) ?_
    refine V.msk (L' := [some (rf φ 18 0), none, some (.int r7), none]) [true, false, true, false] rfl ?_
    exact Ma_calms_33_ok F hd h
set_option maxHeartbeats 4000000 in
set_option maxRecDepth 100000 in
theorem Ma_calms_ct {l : Launch} {G : Glo} {t1 : Nat} (ht1 : t1 < 6) {μ : Mem} {r : Int32} {μ' : Mem} (h : Ma_calms t1 μ = some (r, μ')) : Ct l ΩA G 3 yX2_calms cX2_calms 4 (some .int) [.ref (G.1 18 0), .ref (G.1 5 t1)] μ (some (.int r), μ') := by
  refine Ct.intro (by decide) (Nat.le_of_ble_eq_true rfl) ?_
  intro φ hl hG F
  subst hl; subst hG
  exact Ma_calms_ok F (Nat.le_refl _) ht1 h
def Ma_nameNone_2 (k2 : Int32 → Mem → Option Mem) (x1 : Int32) (μ : Mem) : Option Mem :=
  if x1 < 6 then (
    chk (inb x1 6) <|
    nm (up μ 19 0 (ix x1) 0) fun μ3 =>
    nm (x1 + 1) fun a4 =>
    k2 a4 μ3)
  else (
    some μ)
set_option maxHeartbeats 4000000 in
set_option maxRecDepth 100000 in
theorem Ma_nameNone_2_ok {φ : Fr} {d : Nat} (F : Fx φ ΩA cX2_nameNone RX2 2 (none)) (hd : 1 ≤ d) {k2 : Int32 → Mem → Option Mem} (hk2 : ∀ (x1 : Int32) (μ : Mem)  (μ' : Mem), k2 x1 μ = some μ' → V φ ΩA 2 d 2 [some (rf φ 18 0), some (.int x1)] [] μ (none, μ')) {x1 : Int32} {μ : Mem}  {μ' : Mem} (h : Ma_nameNone_2 k2 x1 μ = some μ') : V φ ΩA 2 d 2 [some (rf φ 18 0), some (.int x1)] [] μ (none, μ') := by
  unfold Ma_nameNone_2 at h
  refine V.iload_n F dX2_nameNone_2 rfl rfl ?_
  refine V.bipush (v := 6) F dX2_nameNone_3 (by decide) ?_
  refine V.icmp_ge (tgt := 21) F dX2_nameNone_5 (by decide) (fun c1 => ?_) (fun c1 => ?_)
  · have h := f_out h c1
    obtain rfl := r1_out h
    exact V.vret F dX2_nameNone_21
  · have h := t_out h c1
    refine V.rload_n F dX2_nameNone_8 rfl rfl ?_
    refine gf_RX2_39 F dX2_nameNone_9 ?_
    refine V.iload_n F dX2_nameNone_12 rfl rfl ?_
    refine V.iconst (v := 0) F dX2_nameNone_13 (by decide) ?_
    obtain ⟨c2, h⟩ := chk_out h
    obtain ⟨μ3, eμ3, h⟩ := nm_out h
    refine V.iast (t0 := 0) (n := 6) F mA19 (fun _ => rfl) rfl c2 eμ3 dX2_nameNone_14 ?_
    obtain ⟨a4, ea4, h⟩ := nm_out h
    refine V.iinc (z := 1) (L' := [some (rf φ 18 0), some (.int a4)]) F dX2_nameNone_15 rfl (by decide) ea4 (by decide) rfl rfl ?_
    refine V.goto (tgt := 2) F dX2_nameNone_18 (by decide) ?_
    exact hk2 _ _ _ h
def Ma_nameNone_2L : Nat → Int32 → Mem → Option Mem
  | 0 => fun _ _ => none
  | n + 1 => Ma_nameNone_2 (Ma_nameNone_2L n)
set_option maxHeartbeats 4000000 in
set_option maxRecDepth 100000 in
theorem Ma_nameNone_2L_ok {φ : Fr} {d : Nat} (F : Fx φ ΩA cX2_nameNone RX2 2 (none)) (hd : 1 ≤ d) : ∀ (n : Nat) (x1 : Int32) (μ : Mem)  (μ' : Mem), Ma_nameNone_2L n x1 μ = some μ' → V φ ΩA 2 d 2 [some (rf φ 18 0), some (.int x1)] [] μ (none, μ') := by
  intro n
  induction n with
  | zero => intro x1 μ μ' h; cases h
  | succ n ih => intro x1 μ μ' h; exact Ma_nameNone_2_ok F hd ih h
def Ma_nameNone (μ : Mem) : Option Mem :=
  Ma_nameNone_2L 1000 0 μ
set_option maxHeartbeats 4000000 in
set_option maxRecDepth 100000 in
theorem Ma_nameNone_ok {φ : Fr} {d : Nat} (F : Fx φ ΩA cX2_nameNone RX2 2 (none)) (hd : 1 ≤ d) {μ : Mem}  {μ' : Mem} (h : Ma_nameNone μ = some μ') : V φ ΩA 2 d 0 [some (rf φ 18 0), none] [] μ (none, μ') := by
  unfold Ma_nameNone at h
  refine V.iconst (v := 0) F dX2_nameNone_0 (by decide) ?_
  refine V.istore_n (L' := [some (rf φ 18 0), some (.int 0)]) F dX2_nameNone_1 rfl (by decide) rfl rfl rfl ?_
  exact Ma_nameNone_2L_ok F hd 1000 _ _ _ h
set_option maxHeartbeats 4000000 in
set_option maxRecDepth 100000 in
theorem Ma_nameNone_ct {l : Launch} {G : Glo} {μ : Mem}  {μ' : Mem} (h : Ma_nameNone μ = some μ') : Ct l ΩA G 1 yX2_nameNone cX2_nameNone 2 (none) [.ref (G.1 18 0)] μ (none, μ') := by
  refine Ct.intro (by decide) (Nat.le_of_ble_eq_true rfl) ?_
  intro φ hl hG F
  subst hl; subst hG
  exact Ma_nameNone_ok F (Nat.le_refl _) h
def Ma_feels (t1 : Nat) (μ : Mem) : Option (Int32 × Mem) :=
  bnd (Ma_nameNone μ) fun μ2 =>
  chk (inb 0 6) <|
  nm (up μ2 19 0 (ix 0) (rd μ2 18 0 2)) fun μ4 =>
  chk (inb 2 6) <|
  nm (up μ4 19 0 (ix 2) (rd μ4 18 0 1)) fun μ6 =>
  bnd2 (Te_answer t1 2 μ6) fun r8 μ9 =>
  nm (S_within r8) fun r11 =>
  if (rd μ9 18 0 0) = 2 then (
    some (irm r11 10, μ9))
  else (
  if (rd μ9 18 0 0) = 3 then (
    nm (S_within (2 * r11)) fun r15 =>
    some (r15, μ9))
  else (
  if (rd μ9 18 0 0) = 4 then (
    some ((irm r11 10) + 1, μ9))
  else (
  if (rd μ9 18 0 0) = 5 then (
    if r11 < 5 then (
      some (0, μ9))
    else (
      some (r11, μ9)))
  else (
    some (r11, μ9)))))
set_option maxHeartbeats 4000000 in
set_option maxRecDepth 100000 in
theorem Ma_feels_ok {φ : Fr} {d : Nat} (F : Fx φ ΩA cX2_feels RX2 3 (some .int)) (hd : 3 ≤ d) {t1 : Nat} (ht1 : t1 < 6) {μ : Mem} {r : Int32} {μ' : Mem} (h : Ma_feels t1 μ = some (r, μ')) : V φ ΩA 3 d 0 [some (rf φ 18 0), some (rf φ 5 t1), none] [] μ (some (.int r), μ') := by
  unfold Ma_feels at h
  refine V.rload_n F dX2_feels_0 rfl rfl ?_
  obtain ⟨μ2, e1, h⟩ := bnd_out h
  refine V.callVv (f := 18) (i := 0) (As := []) F ck_RX2_56 (Ma_nameNone_ct e1) (by omega) (by decide) rfl mA18 rfl rfl rfl (Nat.le_of_ble_eq_true rfl) dX2_feels_1 ?_
  refine V.rload_n F dX2_feels_4 rfl rfl ?_
  refine gf_RX2_39 F dX2_feels_5 ?_
  refine V.iconst (v := 0) F dX2_feels_8 (by decide) ?_
  refine V.rload_n F dX2_feels_9 rfl rfl ?_
  refine gf_RX2_18 F dX2_feels_10 ?_
  obtain ⟨c3, h⟩ := chk_out h
  obtain ⟨μ4, eμ4, h⟩ := nm_out h
  refine V.iast (t0 := 0) (n := 6) F mA19 (fun _ => rfl) rfl c3 eμ4 dX2_feels_13 ?_
  refine V.rload_n F dX2_feels_14 rfl rfl ?_
  refine gf_RX2_39 F dX2_feels_15 ?_
  refine V.iconst (v := 2) F dX2_feels_18 (by decide) ?_
  refine V.rload_n F dX2_feels_19 rfl rfl ?_
  refine gf_RX2_15 F dX2_feels_20 ?_
  obtain ⟨c5, h⟩ := chk_out h
  obtain ⟨μ6, eμ6, h⟩ := nm_out h
  refine V.iast (t0 := 0) (n := 6) F mA19 (fun _ => rfl) rfl c5 eμ6 dX2_feels_23 ?_
  refine V.rload_n F dX2_feels_24 rfl rfl ?_
  refine V.iconst (v := 2) F dX2_feels_25 (by decide) ?_
  refine V.rload_n F dX2_feels_26 rfl rfl ?_
  refine gf_RX2_39 F dX2_feels_27 ?_
  obtain ⟨r8, μ9, e7, h⟩ := bnd2_out h
  refine V.callVi (f := 5) (i := t1) (As := [.int 2, rf φ 19 0]) F ck_RX2_46 (Te_answer_ct ht1 e7) (by omega) (by decide) rfl (mA5 ht1) rfl rfl rfl (Nat.le_of_ble_eq_true rfl) dX2_feels_30 ?_
  obtain ⟨r11, e10, h⟩ := nm_out h
  refine V.callSNi (n := 1) (As := [.int r8]) F F.C.2.2.2.2 sw_X9_within iw_RX9 cw_X9_within ⟨by decide +kernel, by decide +kernel, by decide +kernel⟩ (S_within_ct e10) (by omega) (by decide) rfl rfl (Nat.le_of_ble_eq_true rfl) dX2_feels_33 ?_
  refine V.istore_n (L' := [some (rf φ 18 0), some (rf φ 5 t1), some (.int r11)]) F dX2_feels_36 rfl (by decide) rfl rfl rfl ?_
  refine V.rload_n F dX2_feels_37 rfl rfl ?_
  refine gf_RX2_9 F dX2_feels_38 ?_
  by_cases c12 : (rd μ9 18 0 0) = 2
  · have h := t_out h c12
    refine V.tabK (tgt := 72) (v := 2) F dX2_feels_41 (by rw [c12]; decide) (by decide) (by decide) rfl (by decide) ?_
    refine V.iload_n F dX2_feels_72 rfl rfl ?_
    refine V.bipush (v := 10) F dX2_feels_73 (by decide) ?_
    refine V.irem F dX2_feels_75 (by decide) ?_
    obtain ⟨rfl, rfl⟩ := r2_out h
    exact V.iret F dX2_feels_76
  have h := f_out h c12
  by_cases c13 : (rd μ9 18 0 0) = 3
  · have h := t_out h c13
    refine V.tabK (tgt := 77) (v := 3) F dX2_feels_41 (by rw [c13]; decide) (by decide) (by decide) rfl (by decide) ?_
    refine V.iconst (v := 2) F dX2_feels_77 (by decide) ?_
    refine V.iload_n F dX2_feels_78 rfl rfl ?_
    refine V.imul F dX2_feels_79 ?_
    obtain ⟨r15, e14, h⟩ := nm_out h
    refine V.callSNi (n := 1) (As := [.int (2 * r11)]) F F.C.2.2.2.2 sw_X9_within iw_RX9 cw_X9_within ⟨by decide +kernel, by decide +kernel, by decide +kernel⟩ (S_within_ct e14) (by omega) (by decide) rfl rfl (Nat.le_of_ble_eq_true rfl) dX2_feels_80 ?_
    obtain ⟨rfl, rfl⟩ := r2_out h
    exact V.iret F dX2_feels_83
  have h := f_out h c13
  by_cases c16 : (rd μ9 18 0 0) = 4
  · have h := t_out h c16
    refine V.tabK (tgt := 84) (v := 4) F dX2_feels_41 (by rw [c16]; decide) (by decide) (by decide) rfl (by decide) ?_
    refine V.iload_n F dX2_feels_84 rfl rfl ?_
    refine V.bipush (v := 10) F dX2_feels_85 (by decide) ?_
    refine V.irem F dX2_feels_87 (by decide) ?_
    refine V.iconst (v := 1) F dX2_feels_88 (by decide) ?_
    refine V.iadd F dX2_feels_89 ?_
    obtain ⟨rfl, rfl⟩ := r2_out h
    exact V.iret F dX2_feels_90
  have h := f_out h c16
  by_cases c17 : (rd μ9 18 0 0) = 5
  · have h := t_out h c17
    refine V.tabK (tgt := 91) (v := 5) F dX2_feels_41 (by rw [c17]; decide) (by decide) (by decide) rfl (by decide) ?_
    refine V.iload_n F dX2_feels_91 rfl rfl ?_
    refine V.iconst (v := 5) F dX2_feels_92 (by decide) ?_
    refine V.icmp_ge (tgt := 100) F dX2_feels_93 (by decide) (fun c18 => ?_) (fun c18 => ?_)
    · have h := f_out h c18
      refine V.iload_n F dX2_feels_100 rfl rfl ?_
      obtain ⟨rfl, rfl⟩ := r2_out h
      exact V.iret F dX2_feels_101
    · have h := t_out h c18
      refine V.iconst (v := 0) F dX2_feels_96 (by decide) ?_
      refine V.goto (tgt := 101) F dX2_feels_97 (by decide) ?_
      obtain ⟨rfl, rfl⟩ := r2_out h
      exact V.iret F dX2_feels_101
  have h := f_out h c17
  have K19 : V φ ΩA 3 d 102 [some (rf φ 18 0), some (rf φ 5 t1), some (.int r11)] [] μ9 (some (.int r), μ') := by
    refine V.iload_n F dX2_feels_102 rfl rfl ?_
    obtain ⟨rfl, rfl⟩ := r2_out h
    exact V.iret F dX2_feels_103
  exact V.tabOut (tgt := 102) F dX2_feels_41 (by have := lv_neT c12 (a := 2) (by decide); have := lv_neT c13 (a := 3) (by decide); have := lv_neT c16 (a := 4) (by decide); have := lv_neT c17 (a := 5) (by decide); omega) (by decide) K19
set_option maxHeartbeats 4000000 in
set_option maxRecDepth 100000 in
theorem Ma_feels_ct {l : Launch} {G : Glo} {t1 : Nat} (ht1 : t1 < 6) {μ : Mem} {r : Int32} {μ' : Mem} (h : Ma_feels t1 μ = some (r, μ')) : Ct l ΩA G 3 yX2_feels cX2_feels 3 (some .int) [.ref (G.1 18 0), .ref (G.1 5 t1)] μ (some (.int r), μ') := by
  refine Ct.intro (by decide) (Nat.le_of_ble_eq_true rfl) ?_
  intro φ hl hG F
  subst hl; subst hG
  exact Ma_feels_ok F (Nat.le_refl _) ht1 h
def Ma_boilsInADay_32 (t1 : Nat) (y0 : Int32) (μ : Mem) : Option (Int32 × Mem) :=
  bnd2 (Ma_calms t1 μ) fun r2 μ3 =>
  nm (up μ3 18 0 3 (imx 0 ((rd μ 18 0 3) - r2))) fun μ4 =>
  nm (up μ4 18 0 4 ((rd μ4 18 0 4) + 1)) fun μ5 =>
  chk (y0 = 0 ∨ y0 = 1) <|
  some (y0, μ5)
set_option maxHeartbeats 4000000 in
set_option maxRecDepth 100000 in
theorem Ma_boilsInADay_32_ok {φ : Fr} {d : Nat} (F : Fx φ ΩA cX2_boilsInADay RX2 4 (some .boolean)) (hd : 4 ≤ d) {t1 : Nat} {y0 : Int32} (ht1 : t1 < 6) {μ : Mem} {r : Int32} {μ' : Mem} (h : Ma_boilsInADay_32 t1 y0 μ = some (r, μ')) : V φ ΩA 4 d 32 [some (rf φ 18 0), some (rf φ 5 t1), none, none] [.int y0] μ (some (.int r), μ') := by
  unfold Ma_boilsInADay_32 at h
  refine V.istore_n (L' := [some (rf φ 18 0), some (rf φ 5 t1), none, some (.int y0)]) F dX2_boilsInADay_32 rfl (by decide) rfl rfl rfl ?_
  refine V.rload_n F dX2_boilsInADay_33 rfl rfl ?_
  refine V.iconst (v := 0) F dX2_boilsInADay_34 (by decide) ?_
  refine V.rload_n F dX2_boilsInADay_35 rfl rfl ?_
  refine gf_RX2_21 F dX2_boilsInADay_36 ?_
  refine V.rload_n F dX2_boilsInADay_39 rfl rfl ?_
  refine V.rload_n F dX2_boilsInADay_40 rfl rfl ?_
  obtain ⟨r2, μ3, e1, h⟩ := bnd2_out h
  refine V.callVi (f := 18) (i := 0) (As := [rf φ 5 t1]) F ck_RX2_69 (Ma_calms_ct ht1 e1) (by omega) (by decide) rfl mA18 rfl rfl rfl (Nat.le_of_ble_eq_true rfl) dX2_boilsInADay_41 ?_
  refine V.isub F dX2_boilsInADay_44 ?_
  refine V.mmax F ml_RX2_72 sw_mmax iw_Math cw_mmax (Nat.le_of_ble_eq_true rfl) dX2_boilsInADay_45 ?_
  obtain ⟨μ4, eμ4, h⟩ := nm_out h
  refine pf_RX2_21 F eμ4 dX2_boilsInADay_48 ?_
  refine V.rload_n F dX2_boilsInADay_51 rfl rfl ?_
  refine V.dup F dX2_boilsInADay_52 rfl ?_
  refine gf_RX2_24 F dX2_boilsInADay_53 ?_
  refine V.iconst (v := 1) F dX2_boilsInADay_56 (by decide) ?_
  refine V.iadd F dX2_boilsInADay_57 ?_
  obtain ⟨μ5, eμ5, h⟩ := nm_out h
  refine pf_RX2_24 F eμ5 dX2_boilsInADay_58 ?_
  refine V.iload_n F dX2_boilsInADay_61 rfl rfl ?_
  obtain ⟨c6, h⟩ := chk_out h
  obtain ⟨rfl, rfl⟩ := r2_out h
  exact V.zret F c6 dX2_boilsInADay_62
def Ma_boilsInADay (t1 : Nat) (x2 : Int32) (μ : Mem) : Option (Int32 × Mem) :=
  bnd2 (Ma_heats t1 μ) fun r2 μ3 =>
  nm (up μ3 18 0 3 (imn 99 ((rd μ 18 0 3) + r2))) fun μ4 =>
  if (rd μ4 18 0 3) < x2 then (
    Ma_boilsInADay_32 t1 0 μ4)
  else (
    Ma_boilsInADay_32 t1 1 μ4)
set_option maxHeartbeats 4000000 in
set_option maxRecDepth 100000 in
theorem Ma_boilsInADay_ok {φ : Fr} {d : Nat} (F : Fx φ ΩA cX2_boilsInADay RX2 4 (some .boolean)) (hd : 4 ≤ d) {t1 : Nat} {x2 : Int32} (ht1 : t1 < 6) {μ : Mem} {r : Int32} {μ' : Mem} (h : Ma_boilsInADay t1 x2 μ = some (r, μ')) : V φ ΩA 4 d 0 [some (rf φ 18 0), some (rf φ 5 t1), some (.int x2), none] [] μ (some (.int r), μ') := by
  unfold Ma_boilsInADay at h
  refine V.rload_n F dX2_boilsInADay_0 rfl rfl ?_
  refine V.bipush (v := 99) F dX2_boilsInADay_1 (by decide) ?_
  refine V.rload_n F dX2_boilsInADay_3 rfl rfl ?_
  refine gf_RX2_21 F dX2_boilsInADay_4 ?_
  refine V.rload_n F dX2_boilsInADay_7 rfl rfl ?_
  refine V.rload_n F dX2_boilsInADay_8 rfl rfl ?_
  obtain ⟨r2, μ3, e1, h⟩ := bnd2_out h
  refine V.callVi (f := 18) (i := 0) (As := [rf φ 5 t1]) F ck_RX2_59 (Ma_heats_ct ht1 e1) (by omega) (by decide) rfl mA18 rfl rfl rfl (Nat.le_of_ble_eq_true rfl) dX2_boilsInADay_9 ?_
  refine V.iadd F dX2_boilsInADay_12 ?_
  refine V.mmin F ml_RX2_63 sw_mmin iw_Math cw_mmin (Nat.le_of_ble_eq_true rfl) dX2_boilsInADay_13 ?_
  obtain ⟨μ4, eμ4, h⟩ := nm_out h
  refine pf_RX2_21 F eμ4 dX2_boilsInADay_16 ?_
  refine V.rload_n F dX2_boilsInADay_19 rfl rfl ?_
  refine gf_RX2_21 F dX2_boilsInADay_20 ?_
  refine V.iload_n F dX2_boilsInADay_23 rfl rfl ?_
  refine V.icmp_lt (tgt := 31) F dX2_boilsInADay_24 (by decide) (fun c5 => ?_) (fun c5 => ?_)
  · have h := t_out h c5
    refine V.iconst (v := 0) F dX2_boilsInADay_31 (by decide) ?_
    refine V.msk (L' := [some (rf φ 18 0), some (rf φ 5 t1), none, none]) [true, true, false, false] rfl ?_
    exact Ma_boilsInADay_32_ok F hd ht1 h
  · have h := f_out h c5
    refine V.iconst (v := 1) F dX2_boilsInADay_27 (by decide) ?_
    refine V.goto (tgt := 32) F dX2_boilsInADay_28 (by decide) ?_
    refine V.msk (L' := [some (rf φ 18 0), some (rf φ 5 t1), none, none]) [true, true, false, false] rfl ?_
    exact Ma_boilsInADay_32_ok F hd ht1 h
set_option maxHeartbeats 4000000 in
set_option maxRecDepth 100000 in
theorem Ma_boilsInADay_ct {l : Launch} {G : Glo} {t1 : Nat} {x2 : Int32} (ht1 : t1 < 6) {μ : Mem} {r : Int32} {μ' : Mem} (h : Ma_boilsInADay t1 x2 μ = some (r, μ')) : Ct l ΩA G 4 yX2_boilsInADay cX2_boilsInADay 4 (some .boolean) [.ref (G.1 18 0), .ref (G.1 5 t1), .int x2] μ (some (.int r), μ') := by
  refine Ct.intro (by decide) (Nat.le_of_ble_eq_true rfl) ?_
  intro φ hl hG F
  subst hl; subst hG
  exact Ma_boilsInADay_ok F (Nat.le_refl _) ht1 h
def Ma_lives_59 (k13 : Nat → Int32 → Int32 → Int32 → Mem → Option Mem) (t1 : Nat) (x2 : Int32) (x3 : Int32) (x4 : Int32) (μ : Mem) : Option Mem :=
  nm (x4 + 1) fun a1 =>
  k13 t1 x2 x3 a1 μ
set_option maxHeartbeats 4000000 in
set_option maxRecDepth 100000 in
theorem Ma_lives_59_ok {φ : Fr} {d : Nat} (F : Fx φ ΩA cX2_lives RX2 5 (none)) (hd : 5 ≤ d) {k13 : Nat → Int32 → Int32 → Int32 → Mem → Option Mem} (hk13 : ∀ (t1 : Nat) (x2 : Int32) (x3 : Int32) (x4 : Int32) (ht1 : t1 < 6) (μ : Mem)  (μ' : Mem), k13 t1 x2 x3 x4 μ = some μ' → V φ ΩA 5 d 13 [some (rf φ 18 0), some (rf φ 5 t1), some (.int x2), some (.int x3), some (.int x4)] [] μ (none, μ')) {t1 : Nat} {x2 : Int32} {x3 : Int32} {x4 : Int32} (ht1 : t1 < 6) {μ : Mem}  {μ' : Mem} (h : Ma_lives_59 k13 t1 x2 x3 x4 μ = some μ') : V φ ΩA 5 d 59 [some (rf φ 18 0), some (rf φ 5 t1), some (.int x2), some (.int x3), some (.int x4)] [] μ (none, μ') := by
  unfold Ma_lives_59 at h
  obtain ⟨a1, ea1, h⟩ := nm_out h
  refine V.iinc (z := 1) (L' := [some (rf φ 18 0), some (rf φ 5 t1), some (.int x2), some (.int x3), some (.int a1)]) F dX2_lives_59 rfl (by decide) ea1 (by decide) rfl rfl ?_
  refine V.goto (tgt := 13) F dX2_lives_62 (by decide) ?_
  exact hk13 _ _ _ _ ht1 _ _ h
def Ma_lives_56 (k13 : Nat → Int32 → Int32 → Int32 → Mem → Option Mem) (t1 : Nat) (x2 : Int32) (x3 : Int32) (x4 : Int32) (y1 : Int32) (μ : Mem) : Option Mem :=
  nm (up μ 18 0 8 y1) fun μ1 =>
  Ma_lives_59 k13 t1 x2 x3 x4 μ1
set_option maxHeartbeats 4000000 in
set_option maxRecDepth 100000 in
theorem Ma_lives_56_ok {φ : Fr} {d : Nat} (F : Fx φ ΩA cX2_lives RX2 5 (none)) (hd : 5 ≤ d) {k13 : Nat → Int32 → Int32 → Int32 → Mem → Option Mem} (hk13 : ∀ (t1 : Nat) (x2 : Int32) (x3 : Int32) (x4 : Int32) (ht1 : t1 < 6) (μ : Mem)  (μ' : Mem), k13 t1 x2 x3 x4 μ = some μ' → V φ ΩA 5 d 13 [some (rf φ 18 0), some (rf φ 5 t1), some (.int x2), some (.int x3), some (.int x4)] [] μ (none, μ')) {t1 : Nat} {x2 : Int32} {x3 : Int32} {x4 : Int32} {y1 : Int32} (ht1 : t1 < 6) {μ : Mem}  {μ' : Mem} (h : Ma_lives_56 k13 t1 x2 x3 x4 y1 μ = some μ') : V φ ΩA 5 d 56 [some (rf φ 18 0), some (rf φ 5 t1), some (.int x2), some (.int x3), some (.int x4)] [.int y1, rf φ 18 0] μ (none, μ') := by
  unfold Ma_lives_56 at h
  obtain ⟨μ1, eμ1, h⟩ := nm_out h
  refine pf_RX2_36 F eμ1 dX2_lives_56 ?_
  exact Ma_lives_59_ok F hd hk13 ht1 h
def Ma_lives_13 (k13 : Nat → Int32 → Int32 → Int32 → Mem → Option Mem) (t1 : Nat) (x2 : Int32) (x3 : Int32) (x4 : Int32) (μ : Mem) : Option Mem :=
  if x4 < x3 then (
    bnd2 (Ma_boilsInADay t1 x2 μ) fun r3 μ4 =>
    if r3 = 0 then (
      Ma_lives_59 k13 t1 x2 x3 x4 μ4)
    else (
      nm (up μ4 18 0 7 ((rd μ4 18 0 7) + 1)) fun μ6 =>
      if (rd μ6 18 0 8) = (-1) then (
        Ma_lives_56 k13 t1 x2 x3 x4 x4 μ6)
      else (
        Ma_lives_56 k13 t1 x2 x3 x4 (rd μ6 18 0 8) μ6)))
  else (
    some μ)
set_option maxHeartbeats 4000000 in
set_option maxRecDepth 100000 in
theorem Ma_lives_13_ok {φ : Fr} {d : Nat} (F : Fx φ ΩA cX2_lives RX2 5 (none)) (hd : 5 ≤ d) {k13 : Nat → Int32 → Int32 → Int32 → Mem → Option Mem} (hk13 : ∀ (t1 : Nat) (x2 : Int32) (x3 : Int32) (x4 : Int32) (ht1 : t1 < 6) (μ : Mem)  (μ' : Mem), k13 t1 x2 x3 x4 μ = some μ' → V φ ΩA 5 d 13 [some (rf φ 18 0), some (rf φ 5 t1), some (.int x2), some (.int x3), some (.int x4)] [] μ (none, μ')) {t1 : Nat} {x2 : Int32} {x3 : Int32} {x4 : Int32} (ht1 : t1 < 6) {μ : Mem}  {μ' : Mem} (h : Ma_lives_13 k13 t1 x2 x3 x4 μ = some μ') : V φ ΩA 5 d 13 [some (rf φ 18 0), some (rf φ 5 t1), some (.int x2), some (.int x3), some (.int x4)] [] μ (none, μ') := by
  unfold Ma_lives_13 at h
  refine V.iload F dX2_lives_13 rfl ?_
  refine V.iload_n F dX2_lives_15 rfl rfl ?_
  refine V.icmp_ge (tgt := 65) F dX2_lives_16 (by decide) (fun c1 => ?_) (fun c1 => ?_)
  · have h := f_out h c1
    obtain rfl := r1_out h
    exact V.vret F dX2_lives_65
  · have h := t_out h c1
    refine V.rload_n F dX2_lives_19 rfl rfl ?_
    refine V.rload_n F dX2_lives_20 rfl rfl ?_
    refine V.iload_n F dX2_lives_21 rfl rfl ?_
    obtain ⟨r3, μ4, e2, h⟩ := bnd2_out h
    refine V.callVi (f := 18) (i := 0) (As := [rf φ 5 t1, .int x2]) F ck_RX2_75 (Ma_boilsInADay_ct ht1 e2) (by omega) (by decide) rfl mA18 rfl rfl rfl (Nat.le_of_ble_eq_true rfl) dX2_lives_22 ?_
    refine V.if_eq (tgt := 59) F dX2_lives_25 (by decide) (fun c5 => ?_) (fun c5 => ?_)
    · have h := t_out h c5
      exact Ma_lives_59_ok F hd hk13 ht1 h
    · have h := f_out h c5
      refine V.rload_n F dX2_lives_28 rfl rfl ?_
      refine V.dup F dX2_lives_29 rfl ?_
      refine gf_RX2_33 F dX2_lives_30 ?_
      refine V.iconst (v := 1) F dX2_lives_33 (by decide) ?_
      refine V.iadd F dX2_lives_34 ?_
      obtain ⟨μ6, eμ6, h⟩ := nm_out h
      refine pf_RX2_33 F eμ6 dX2_lives_35 ?_
      refine V.rload_n F dX2_lives_38 rfl rfl ?_
      refine V.rload_n F dX2_lives_39 rfl rfl ?_
      refine gf_RX2_36 F dX2_lives_40 ?_
      refine V.iconst (v := (-1)) F dX2_lives_43 (by decide) ?_
      refine V.icmp_ne (tgt := 52) F dX2_lives_44 (by decide) (fun c7 => ?_) (fun c7 => ?_)
      · have h := f_out h c7
        refine V.rload_n F dX2_lives_52 rfl rfl ?_
        refine gf_RX2_36 F dX2_lives_53 ?_
        exact Ma_lives_56_ok F hd hk13 ht1 h
      · have h := t_out h c7
        refine V.iload F dX2_lives_47 rfl ?_
        refine V.goto (tgt := 56) F dX2_lives_49 (by decide) ?_
        exact Ma_lives_56_ok F hd hk13 ht1 h
def Ma_lives_13L : Nat → Nat → Int32 → Int32 → Int32 → Mem → Option Mem
  | 0 => fun _ _ _ _ _ => none
  | n + 1 => Ma_lives_13 (Ma_lives_13L n)
set_option maxHeartbeats 4000000 in
set_option maxRecDepth 100000 in
theorem Ma_lives_13L_ok {φ : Fr} {d : Nat} (F : Fx φ ΩA cX2_lives RX2 5 (none)) (hd : 5 ≤ d) : ∀ (n : Nat) (t1 : Nat) (x2 : Int32) (x3 : Int32) (x4 : Int32) (ht1 : t1 < 6) (μ : Mem)  (μ' : Mem), Ma_lives_13L n t1 x2 x3 x4 μ = some μ' → V φ ΩA 5 d 13 [some (rf φ 18 0), some (rf φ 5 t1), some (.int x2), some (.int x3), some (.int x4)] [] μ (none, μ') := by
  intro n
  induction n with
  | zero => intro t1 x2 x3 x4 ht1 μ μ' h; cases h
  | succ n ih => intro t1 x2 x3 x4 ht1 μ μ' h; exact Ma_lives_13_ok F hd ih ht1 h
def Ma_lives (t1 : Nat) (x2 : Int32) (x3 : Int32) (μ : Mem) : Option Mem :=
  nm (up μ 18 0 7 0) fun μ1 =>
  nm (up μ1 18 0 8 (-1)) fun μ2 =>
  Ma_lives_13L 1000 t1 x2 x3 0 μ2
set_option maxHeartbeats 4000000 in
set_option maxRecDepth 100000 in
theorem Ma_lives_ok {φ : Fr} {d : Nat} (F : Fx φ ΩA cX2_lives RX2 5 (none)) (hd : 5 ≤ d) {t1 : Nat} {x2 : Int32} {x3 : Int32} (ht1 : t1 < 6) {μ : Mem}  {μ' : Mem} (h : Ma_lives t1 x2 x3 μ = some μ') : V φ ΩA 5 d 0 [some (rf φ 18 0), some (rf φ 5 t1), some (.int x2), some (.int x3), none] [] μ (none, μ') := by
  unfold Ma_lives at h
  refine V.rload_n F dX2_lives_0 rfl rfl ?_
  refine V.iconst (v := 0) F dX2_lives_1 (by decide) ?_
  obtain ⟨μ1, eμ1, h⟩ := nm_out h
  refine pf_RX2_33 F eμ1 dX2_lives_2 ?_
  refine V.rload_n F dX2_lives_5 rfl rfl ?_
  refine V.iconst (v := (-1)) F dX2_lives_6 (by decide) ?_
  obtain ⟨μ2, eμ2, h⟩ := nm_out h
  refine pf_RX2_36 F eμ2 dX2_lives_7 ?_
  refine V.iconst (v := 0) F dX2_lives_10 (by decide) ?_
  refine V.istore (L' := [some (rf φ 18 0), some (rf φ 5 t1), some (.int x2), some (.int x3), some (.int 0)]) F dX2_lives_11 (by decide) rfl rfl rfl ?_
  exact Ma_lives_13L_ok F hd 1000 _ _ _ _ ht1 _ _ h
set_option maxHeartbeats 4000000 in
set_option maxRecDepth 100000 in
theorem Ma_lives_ct {l : Launch} {G : Glo} {t1 : Nat} {x2 : Int32} {x3 : Int32} (ht1 : t1 < 6) {μ : Mem}  {μ' : Mem} (h : Ma_lives t1 x2 x3 μ = some μ') : Ct l ΩA G 5 yX2_lives cX2_lives 5 (none) [.ref (G.1 18 0), .ref (G.1 5 t1), .int x2, .int x3] μ (none, μ') := by
  refine Ct.intro (by decide) (Nat.le_of_ble_eq_true rfl) ?_
  intro φ hl hG F
  subst hl; subst hG
  exact Ma_lives_ok F (Nat.le_refl _) ht1 h
def Po_draw_4 (k4 : Int32 → Int32 → Mem → Option Mem) (x2 : Int32) (x3 : Int32) (μ : Mem) : Option Mem :=
  if x3 < (rd μ 23 0 0) then (
    nm ((x2 * 1103515245) + 12345) fun a2 =>
    chk (inb x3 6) <|
    nm (up μ 25 0 (ix x3) (irm (ush a2 9) 16)) fun μ4 =>
    nm (x3 + 1) fun a5 =>
    k4 a2 a5 μ4)
  else (
    some μ)
set_option maxHeartbeats 4000000 in
set_option maxRecDepth 100000 in
theorem Po_draw_4_ok {φ : Fr} {d : Nat} (F : Fx φ ΩA cX3_draw RX3 4 (none)) (hd : 1 ≤ d) {k4 : Int32 → Int32 → Mem → Option Mem} (hk4 : ∀ (x2 : Int32) (x3 : Int32) (μ : Mem)  (μ' : Mem), k4 x2 x3 μ = some μ' → V φ ΩA 4 d 4 [some (rf φ 23 0), none, some (.int x2), some (.int x3)] [] μ (none, μ')) {x2 : Int32} {x3 : Int32} {μ : Mem}  {μ' : Mem} (h : Po_draw_4 k4 x2 x3 μ = some μ') : V φ ΩA 4 d 4 [some (rf φ 23 0), none, some (.int x2), some (.int x3)] [] μ (none, μ') := by
  unfold Po_draw_4 at h
  refine V.iload_n F dX3_draw_4 rfl rfl ?_
  refine V.rload_n F dX3_draw_5 rfl rfl ?_
  refine gf_RX3_9 F dX3_draw_6 ?_
  refine V.icmp_ge (tgt := 40) F dX3_draw_9 (by decide) (fun c1 => ?_) (fun c1 => ?_)
  · have h := f_out h c1
    obtain rfl := r1_out h
    exact V.vret F dX3_draw_40
  · have h := t_out h c1
    refine V.iload_n F dX3_draw_12 rfl rfl ?_
    refine V.ldc F kw_RX3_25 dX3_draw_13 ?_
    refine V.imul F dX3_draw_15 ?_
    refine V.sipush (v := 12345) F dX3_draw_16 (by decide) ?_
    refine V.iadd F dX3_draw_19 ?_
    obtain ⟨a2, ea2, h⟩ := nm_out h
    refine V.istore_n (L' := [some (rf φ 23 0), none, some (.int a2), some (.int x3)]) F dX3_draw_20 rfl (by decide) rfl ea2 rfl ?_
    refine V.rload_n F dX3_draw_21 rfl rfl ?_
    refine gf_RX3_19 F dX3_draw_22 ?_
    refine V.iload_n F dX3_draw_25 rfl rfl ?_
    refine V.iload_n F dX3_draw_26 rfl rfl ?_
    refine V.bipush (v := 9) F dX3_draw_27 (by decide) ?_
    refine V.iushr F dX3_draw_29 ?_
    refine V.bipush (v := 16) F dX3_draw_30 (by decide) ?_
    refine V.irem F dX3_draw_32 (by decide) ?_
    obtain ⟨c3, h⟩ := chk_out h
    obtain ⟨μ4, eμ4, h⟩ := nm_out h
    refine V.iast (t0 := 0) (n := 6) F mA25 (fun _ => rfl) rfl c3 eμ4 dX3_draw_33 ?_
    obtain ⟨a5, ea5, h⟩ := nm_out h
    refine V.iinc (z := 1) (L' := [some (rf φ 23 0), none, some (.int a2), some (.int a5)]) F dX3_draw_34 rfl (by decide) ea5 (by decide) rfl rfl ?_
    refine V.goto (tgt := 4) F dX3_draw_37 (by decide) ?_
    exact hk4 _ _ _ _ h
def Po_draw_4L : Nat → Int32 → Int32 → Mem → Option Mem
  | 0 => fun _ _ _ => none
  | n + 1 => Po_draw_4 (Po_draw_4L n)
set_option maxHeartbeats 4000000 in
set_option maxRecDepth 100000 in
theorem Po_draw_4L_ok {φ : Fr} {d : Nat} (F : Fx φ ΩA cX3_draw RX3 4 (none)) (hd : 1 ≤ d) : ∀ (n : Nat) (x2 : Int32) (x3 : Int32) (μ : Mem)  (μ' : Mem), Po_draw_4L n x2 x3 μ = some μ' → V φ ΩA 4 d 4 [some (rf φ 23 0), none, some (.int x2), some (.int x3)] [] μ (none, μ') := by
  intro n
  induction n with
  | zero => intro x2 x3 μ μ' h; cases h
  | succ n ih => intro x2 x3 μ μ' h; exact Po_draw_4_ok F hd ih h
def Po_draw (x1 : Int32) (μ : Mem) : Option Mem :=
  Po_draw_4L 1000 x1 0 μ
set_option maxHeartbeats 4000000 in
set_option maxRecDepth 100000 in
theorem Po_draw_ok {φ : Fr} {d : Nat} (F : Fx φ ΩA cX3_draw RX3 4 (none)) (hd : 1 ≤ d) {x1 : Int32} {μ : Mem}  {μ' : Mem} (h : Po_draw x1 μ = some μ') : V φ ΩA 4 d 0 [some (rf φ 23 0), some (.int x1), none, none] [] μ (none, μ') := by
  unfold Po_draw at h
  refine V.iload_n F dX3_draw_0 rfl rfl ?_
  refine V.istore_n (L' := [some (rf φ 23 0), some (.int x1), some (.int x1), none]) F dX3_draw_1 rfl (by decide) rfl rfl rfl ?_
  refine V.iconst (v := 0) F dX3_draw_2 (by decide) ?_
  refine V.istore_n (L' := [some (rf φ 23 0), some (.int x1), some (.int x1), some (.int 0)]) F dX3_draw_3 rfl (by decide) rfl rfl rfl ?_
  refine V.msk (L' := [some (rf φ 23 0), none, some (.int x1), some (.int 0)]) [true, false, true, true] rfl ?_
  exact Po_draw_4L_ok F hd 1000 _ _ _ _ h
set_option maxHeartbeats 4000000 in
set_option maxRecDepth 100000 in
theorem Po_draw_ct {l : Launch} {G : Glo} {x1 : Int32} {μ : Mem}  {μ' : Mem} (h : Po_draw x1 μ = some μ') : Ct l ΩA G 1 yX3_draw cX3_draw 4 (none) [.ref (G.1 23 0), .int x1] μ (none, μ') := by
  refine Ct.intro (by decide) (Nat.le_of_ble_eq_true rfl) ?_
  intro φ hl hG F
  subst hl; subst hG
  exact Po_draw_ok F (Nat.le_refl _) h
def Po_openedBy_40 (k4 : Int32 → Int32 → Int32 → Mem → Option Int32) (x1 : Int32) (x2 : Int32) (x3 : Int32) (μ : Mem) : Option Int32 :=
  nm (x3 + 1) fun a1 =>
  k4 x1 x2 a1 μ
set_option maxHeartbeats 4000000 in
set_option maxRecDepth 100000 in
theorem Po_openedBy_40_ok {φ : Fr} {d : Nat} (F : Fx φ ΩA cX3_openedBy RX3 4 (some .int)) (hd : 1 ≤ d) {k4 : Int32 → Int32 → Int32 → Mem → Option Int32} (hk4 : ∀ (x1 : Int32) (x2 : Int32) (x3 : Int32) (μ : Mem) (r : Int32), k4 x1 x2 x3 μ = some r → V φ ΩA 4 d 4 [some (rf φ 23 0), some (.int x1), some (.int x2), some (.int x3)] [] μ (some (.int r), μ)) {x1 : Int32} {x2 : Int32} {x3 : Int32} {μ : Mem} {r : Int32} (h : Po_openedBy_40 k4 x1 x2 x3 μ = some r) : V φ ΩA 4 d 40 [some (rf φ 23 0), some (.int x1), some (.int x2), some (.int x3)] [] μ (some (.int r), μ) := by
  unfold Po_openedBy_40 at h
  obtain ⟨a1, ea1, h⟩ := nm_out h
  refine V.iinc (z := 1) (L' := [some (rf φ 23 0), some (.int x1), some (.int x2), some (.int a1)]) F dX3_openedBy_40 rfl (by decide) ea1 (by decide) rfl rfl ?_
  refine V.goto (tgt := 4) F dX3_openedBy_43 (by decide) ?_
  exact hk4 _ _ _ _ _ h
def Po_openedBy_4 (k4 : Int32 → Int32 → Int32 → Mem → Option Int32) (x1 : Int32) (x2 : Int32) (x3 : Int32) (μ : Mem) : Option Int32 :=
  if x3 < (rd μ 23 0 0) then (
    if x1 < 8 then (
      Po_openedBy_40 k4 x1 x2 x3 μ)
    else (
      chk (inb x3 6) <|
      if (irm x1 8) = (irm (rd μ 24 0 (ix x3)) 8) then (
        nm (x2 ||| (shl 1 x3)) fun a5 =>
        Po_openedBy_40 k4 x1 a5 x3 μ)
      else (
        Po_openedBy_40 k4 x1 x2 x3 μ)))
  else (
    some x2)
set_option maxHeartbeats 4000000 in
set_option maxRecDepth 100000 in
theorem Po_openedBy_4_ok {φ : Fr} {d : Nat} (F : Fx φ ΩA cX3_openedBy RX3 4 (some .int)) (hd : 1 ≤ d) {k4 : Int32 → Int32 → Int32 → Mem → Option Int32} (hk4 : ∀ (x1 : Int32) (x2 : Int32) (x3 : Int32) (μ : Mem) (r : Int32), k4 x1 x2 x3 μ = some r → V φ ΩA 4 d 4 [some (rf φ 23 0), some (.int x1), some (.int x2), some (.int x3)] [] μ (some (.int r), μ)) {x1 : Int32} {x2 : Int32} {x3 : Int32} {μ : Mem} {r : Int32} (h : Po_openedBy_4 k4 x1 x2 x3 μ = some r) : V φ ΩA 4 d 4 [some (rf φ 23 0), some (.int x1), some (.int x2), some (.int x3)] [] μ (some (.int r), μ) := by
  unfold Po_openedBy_4 at h
  refine V.iload_n F dX3_openedBy_4 rfl rfl ?_
  refine V.rload_n F dX3_openedBy_5 rfl rfl ?_
  refine gf_RX3_9 F dX3_openedBy_6 ?_
  refine V.icmp_ge (tgt := 46) F dX3_openedBy_9 (by decide) (fun c1 => ?_) (fun c1 => ?_)
  · have h := f_out h c1
    refine V.iload_n F dX3_openedBy_46 rfl rfl ?_
    obtain rfl := r1_out h
    exact V.iret F dX3_openedBy_47
  · have h := t_out h c1
    refine V.iload_n F dX3_openedBy_12 rfl rfl ?_
    refine V.bipush (v := 8) F dX3_openedBy_13 (by decide) ?_
    refine V.icmp_lt (tgt := 40) F dX3_openedBy_15 (by decide) (fun c2 => ?_) (fun c2 => ?_)
    · have h := t_out h c2
      exact Po_openedBy_40_ok F hd hk4 h
    · have h := f_out h c2
      refine V.iload_n F dX3_openedBy_18 rfl rfl ?_
      refine V.bipush (v := 8) F dX3_openedBy_19 (by decide) ?_
      refine V.irem F dX3_openedBy_21 (by decide) ?_
      refine V.rload_n F dX3_openedBy_22 rfl rfl ?_
      refine gf_RX3_15 F dX3_openedBy_23 ?_
      refine V.iload_n F dX3_openedBy_26 rfl rfl ?_
      obtain ⟨c3, h⟩ := chk_out h
      refine V.iald (t0 := 0) (n := 6) F mA24 rfl rfl c3 dX3_openedBy_27 ?_
      refine V.bipush (v := 8) F dX3_openedBy_28 (by decide) ?_
      refine V.irem F dX3_openedBy_30 (by decide) ?_
      refine V.icmp_ne (tgt := 40) F dX3_openedBy_31 (by decide) (fun c4 => ?_) (fun c4 => ?_)
      · have h := f_out h c4
        exact Po_openedBy_40_ok F hd hk4 h
      · have h := t_out h c4
        refine V.iload_n F dX3_openedBy_34 rfl rfl ?_
        refine V.iconst (v := 1) F dX3_openedBy_35 (by decide) ?_
        refine V.iload_n F dX3_openedBy_36 rfl rfl ?_
        refine V.ishl F dX3_openedBy_37 ?_
        refine V.ior F dX3_openedBy_38 ?_
        obtain ⟨a5, ea5, h⟩ := nm_out h
        refine V.istore_n (L' := [some (rf φ 23 0), some (.int x1), some (.int a5), some (.int x3)]) F dX3_openedBy_39 rfl (by decide) rfl ea5 rfl ?_
        exact Po_openedBy_40_ok F hd hk4 h
def Po_openedBy_4L : Nat → Int32 → Int32 → Int32 → Mem → Option Int32
  | 0 => fun _ _ _ _ => none
  | n + 1 => Po_openedBy_4 (Po_openedBy_4L n)
set_option maxHeartbeats 4000000 in
set_option maxRecDepth 100000 in
theorem Po_openedBy_4L_ok {φ : Fr} {d : Nat} (F : Fx φ ΩA cX3_openedBy RX3 4 (some .int)) (hd : 1 ≤ d) : ∀ (n : Nat) (x1 : Int32) (x2 : Int32) (x3 : Int32) (μ : Mem) (r : Int32), Po_openedBy_4L n x1 x2 x3 μ = some r → V φ ΩA 4 d 4 [some (rf φ 23 0), some (.int x1), some (.int x2), some (.int x3)] [] μ (some (.int r), μ) := by
  intro n
  induction n with
  | zero => intro x1 x2 x3 μ r h; cases h
  | succ n ih => intro x1 x2 x3 μ r h; exact Po_openedBy_4_ok F hd ih h
def Po_openedBy (x1 : Int32) (μ : Mem) : Option Int32 :=
  Po_openedBy_4L 1000 x1 0 0 μ
set_option maxHeartbeats 4000000 in
set_option maxRecDepth 100000 in
theorem Po_openedBy_ok {φ : Fr} {d : Nat} (F : Fx φ ΩA cX3_openedBy RX3 4 (some .int)) (hd : 1 ≤ d) {x1 : Int32} {μ : Mem} {r : Int32} (h : Po_openedBy x1 μ = some r) : V φ ΩA 4 d 0 [some (rf φ 23 0), some (.int x1), none, none] [] μ (some (.int r), μ) := by
  unfold Po_openedBy at h
  refine V.iconst (v := 0) F dX3_openedBy_0 (by decide) ?_
  refine V.istore_n (L' := [some (rf φ 23 0), some (.int x1), some (.int 0), none]) F dX3_openedBy_1 rfl (by decide) rfl rfl rfl ?_
  refine V.iconst (v := 0) F dX3_openedBy_2 (by decide) ?_
  refine V.istore_n (L' := [some (rf φ 23 0), some (.int x1), some (.int 0), some (.int 0)]) F dX3_openedBy_3 rfl (by decide) rfl rfl rfl ?_
  exact Po_openedBy_4L_ok F hd 1000 _ _ _ _ _ h
set_option maxHeartbeats 4000000 in
set_option maxRecDepth 100000 in
theorem Po_openedBy_ct {l : Launch} {G : Glo} {x1 : Int32} {μ : Mem} {r : Int32} (h : Po_openedBy x1 μ = some r) : Ct l ΩA G 1 yX3_openedBy cX3_openedBy 4 (some .int) [.ref (G.1 23 0), .int x1] μ (some (.int r), μ) := by
  refine Ct.intro (by decide) (Nat.le_of_ble_eq_true rfl) ?_
  intro φ hl hG F
  subst hl; subst hG
  exact Po_openedBy_ok F (Nat.le_refl _) h
def Po_openedFrom_30 (k4 : Int32 → Int32 → Int32 → Mem → Option Int32) (x1 : Int32) (x2 : Int32) (x3 : Int32) (μ : Mem) : Option Int32 :=
  nm (x3 + 1) fun a1 =>
  k4 x1 x2 a1 μ
set_option maxHeartbeats 4000000 in
set_option maxRecDepth 100000 in
theorem Po_openedFrom_30_ok {φ : Fr} {d : Nat} (F : Fx φ ΩA cX3_openedFrom RX3 4 (some .int)) (hd : 1 ≤ d) {k4 : Int32 → Int32 → Int32 → Mem → Option Int32} (hk4 : ∀ (x1 : Int32) (x2 : Int32) (x3 : Int32) (μ : Mem) (r : Int32), k4 x1 x2 x3 μ = some r → V φ ΩA 4 d 4 [some (rf φ 23 0), some (.int x1), some (.int x2), some (.int x3)] [] μ (some (.int r), μ)) {x1 : Int32} {x2 : Int32} {x3 : Int32} {μ : Mem} {r : Int32} (h : Po_openedFrom_30 k4 x1 x2 x3 μ = some r) : V φ ΩA 4 d 30 [some (rf φ 23 0), some (.int x1), some (.int x2), some (.int x3)] [] μ (some (.int r), μ) := by
  unfold Po_openedFrom_30 at h
  obtain ⟨a1, ea1, h⟩ := nm_out h
  refine V.iinc (z := 1) (L' := [some (rf φ 23 0), some (.int x1), some (.int x2), some (.int a1)]) F dX3_openedFrom_30 rfl (by decide) ea1 (by decide) rfl rfl ?_
  refine V.goto (tgt := 4) F dX3_openedFrom_33 (by decide) ?_
  exact hk4 _ _ _ _ _ h
def Po_openedFrom_4 (k4 : Int32 → Int32 → Int32 → Mem → Option Int32) (x1 : Int32) (x2 : Int32) (x3 : Int32) (μ : Mem) : Option Int32 :=
  if x3 < (rd μ 23 0 0) then (
    if ((shr x1 x3) &&& 1) = 1 then (
      chk (inb x3 6) <|
      nm (x2 ||| (rd μ 26 0 (ix x3))) fun a4 =>
      Po_openedFrom_30 k4 x1 a4 x3 μ)
    else (
      Po_openedFrom_30 k4 x1 x2 x3 μ))
  else (
    some x2)
set_option maxHeartbeats 4000000 in
set_option maxRecDepth 100000 in
theorem Po_openedFrom_4_ok {φ : Fr} {d : Nat} (F : Fx φ ΩA cX3_openedFrom RX3 4 (some .int)) (hd : 1 ≤ d) {k4 : Int32 → Int32 → Int32 → Mem → Option Int32} (hk4 : ∀ (x1 : Int32) (x2 : Int32) (x3 : Int32) (μ : Mem) (r : Int32), k4 x1 x2 x3 μ = some r → V φ ΩA 4 d 4 [some (rf φ 23 0), some (.int x1), some (.int x2), some (.int x3)] [] μ (some (.int r), μ)) {x1 : Int32} {x2 : Int32} {x3 : Int32} {μ : Mem} {r : Int32} (h : Po_openedFrom_4 k4 x1 x2 x3 μ = some r) : V φ ΩA 4 d 4 [some (rf φ 23 0), some (.int x1), some (.int x2), some (.int x3)] [] μ (some (.int r), μ) := by
  unfold Po_openedFrom_4 at h
  refine V.iload_n F dX3_openedFrom_4 rfl rfl ?_
  refine V.rload_n F dX3_openedFrom_5 rfl rfl ?_
  refine gf_RX3_9 F dX3_openedFrom_6 ?_
  refine V.icmp_ge (tgt := 36) F dX3_openedFrom_9 (by decide) (fun c1 => ?_) (fun c1 => ?_)
  · have h := f_out h c1
    refine V.iload_n F dX3_openedFrom_36 rfl rfl ?_
    obtain rfl := r1_out h
    exact V.iret F dX3_openedFrom_37
  · have h := t_out h c1
    refine V.iload_n F dX3_openedFrom_12 rfl rfl ?_
    refine V.iload_n F dX3_openedFrom_13 rfl rfl ?_
    refine V.ishr F dX3_openedFrom_14 ?_
    refine V.iconst (v := 1) F dX3_openedFrom_15 (by decide) ?_
    refine V.iand F dX3_openedFrom_16 ?_
    refine V.iconst (v := 1) F dX3_openedFrom_17 (by decide) ?_
    refine V.icmp_ne (tgt := 30) F dX3_openedFrom_18 (by decide) (fun c2 => ?_) (fun c2 => ?_)
    · have h := f_out h c2
      exact Po_openedFrom_30_ok F hd hk4 h
    · have h := t_out h c2
      refine V.iload_n F dX3_openedFrom_21 rfl rfl ?_
      refine V.rload_n F dX3_openedFrom_22 rfl rfl ?_
      refine gf_RX3_22 F dX3_openedFrom_23 ?_
      refine V.iload_n F dX3_openedFrom_26 rfl rfl ?_
      obtain ⟨c3, h⟩ := chk_out h
      refine V.iald (t0 := 0) (n := 6) F mA26 rfl rfl c3 dX3_openedFrom_27 ?_
      refine V.ior F dX3_openedFrom_28 ?_
      obtain ⟨a4, ea4, h⟩ := nm_out h
      refine V.istore_n (L' := [some (rf φ 23 0), some (.int x1), some (.int a4), some (.int x3)]) F dX3_openedFrom_29 rfl (by decide) rfl ea4 rfl ?_
      exact Po_openedFrom_30_ok F hd hk4 h
def Po_openedFrom_4L : Nat → Int32 → Int32 → Int32 → Mem → Option Int32
  | 0 => fun _ _ _ _ => none
  | n + 1 => Po_openedFrom_4 (Po_openedFrom_4L n)
set_option maxHeartbeats 4000000 in
set_option maxRecDepth 100000 in
theorem Po_openedFrom_4L_ok {φ : Fr} {d : Nat} (F : Fx φ ΩA cX3_openedFrom RX3 4 (some .int)) (hd : 1 ≤ d) : ∀ (n : Nat) (x1 : Int32) (x2 : Int32) (x3 : Int32) (μ : Mem) (r : Int32), Po_openedFrom_4L n x1 x2 x3 μ = some r → V φ ΩA 4 d 4 [some (rf φ 23 0), some (.int x1), some (.int x2), some (.int x3)] [] μ (some (.int r), μ) := by
  intro n
  induction n with
  | zero => intro x1 x2 x3 μ r h; cases h
  | succ n ih => intro x1 x2 x3 μ r h; exact Po_openedFrom_4_ok F hd ih h
def Po_openedFrom (x1 : Int32) (μ : Mem) : Option Int32 :=
  Po_openedFrom_4L 1000 x1 0 0 μ
set_option maxHeartbeats 4000000 in
set_option maxRecDepth 100000 in
theorem Po_openedFrom_ok {φ : Fr} {d : Nat} (F : Fx φ ΩA cX3_openedFrom RX3 4 (some .int)) (hd : 1 ≤ d) {x1 : Int32} {μ : Mem} {r : Int32} (h : Po_openedFrom x1 μ = some r) : V φ ΩA 4 d 0 [some (rf φ 23 0), some (.int x1), none, none] [] μ (some (.int r), μ) := by
  unfold Po_openedFrom at h
  refine V.iconst (v := 0) F dX3_openedFrom_0 (by decide) ?_
  refine V.istore_n (L' := [some (rf φ 23 0), some (.int x1), some (.int 0), none]) F dX3_openedFrom_1 rfl (by decide) rfl rfl rfl ?_
  refine V.iconst (v := 0) F dX3_openedFrom_2 (by decide) ?_
  refine V.istore_n (L' := [some (rf φ 23 0), some (.int x1), some (.int 0), some (.int 0)]) F dX3_openedFrom_3 rfl (by decide) rfl rfl rfl ?_
  exact Po_openedFrom_4L_ok F hd 1000 _ _ _ _ _ h
set_option maxHeartbeats 4000000 in
set_option maxRecDepth 100000 in
theorem Po_openedFrom_ct {l : Launch} {G : Glo} {x1 : Int32} {μ : Mem} {r : Int32} (h : Po_openedFrom x1 μ = some r) : Ct l ΩA G 1 yX3_openedFrom cX3_openedFrom 4 (some .int) [.ref (G.1 23 0), .int x1] μ (some (.int r), μ) := by
  refine Ct.intro (by decide) (Nat.le_of_ble_eq_true rfl) ?_
  intro φ hl hG F
  subst hl; subst hG
  exact Po_openedFrom_ok F (Nat.le_refl _) h
def Po_open_48 (k38 : Int32 → Mem → Option Mem) (k48 : Int32 → Int32 → Mem → Option Mem) (x1 : Int32) (x2 : Int32) (μ : Mem) : Option Mem :=
  if x2 < (rd μ 23 0 0) then (
    chk (inb x2 6) <|
    bnd (Po_openedFrom (rd μ 26 0 (ix x2)) μ) fun r5 =>
    chk (inb x2 6) <|
    nm (up μ 26 0 (ix x2) r5) fun μ7 =>
    nm (x2 + 1) fun a8 =>
    k48 x1 a8 μ7)
  else (
    nm (x1 + 1) fun a2 =>
    k38 a2 μ)
set_option maxHeartbeats 4000000 in
set_option maxRecDepth 100000 in
theorem Po_open_48_ok {φ : Fr} {d : Nat} (F : Fx φ ΩA cX3_open RX3 3 (none)) (hd : 2 ≤ d) {k38 : Int32 → Mem → Option Mem} (hk38 : ∀ (x1 : Int32) (μ : Mem)  (μ' : Mem), k38 x1 μ = some μ' → V φ ΩA 3 d 38 [some (rf φ 23 0), some (.int x1), none] [] μ (none, μ')) {k48 : Int32 → Int32 → Mem → Option Mem} (hk48 : ∀ (x1 : Int32) (x2 : Int32) (μ : Mem)  (μ' : Mem), k48 x1 x2 μ = some μ' → V φ ΩA 3 d 48 [some (rf φ 23 0), some (.int x1), some (.int x2)] [] μ (none, μ')) {x1 : Int32} {x2 : Int32} {μ : Mem}  {μ' : Mem} (h : Po_open_48 k38 k48 x1 x2 μ = some μ') : V φ ΩA 3 d 48 [some (rf φ 23 0), some (.int x1), some (.int x2)] [] μ (none, μ') := by
  unfold Po_open_48 at h
  refine V.iload_n F dX3_open_48 rfl rfl ?_
  refine V.rload_n F dX3_open_49 rfl rfl ?_
  refine gf_RX3_9 F dX3_open_50 ?_
  refine V.icmp_ge (tgt := 78) F dX3_open_53 (by decide) (fun c1 => ?_) (fun c1 => ?_)
  · have h := f_out h c1
    obtain ⟨a2, ea2, h⟩ := nm_out h
    refine V.iinc (z := 1) (L' := [some (rf φ 23 0), some (.int a2), some (.int x2)]) F dX3_open_78 rfl (by decide) ea2 (by decide) rfl rfl ?_
    refine V.goto (tgt := 38) F dX3_open_81 (by decide) ?_
    refine V.msk (L' := [some (rf φ 23 0), some (.int a2), none]) [true, true, false] rfl ?_
    exact hk38 _ _ _ h
  · have h := t_out h c1
    refine V.rload_n F dX3_open_56 rfl rfl ?_
    refine gf_RX3_22 F dX3_open_57 ?_
    refine V.iload_n F dX3_open_60 rfl rfl ?_
    refine V.rload_n F dX3_open_61 rfl rfl ?_
    refine V.rload_n F dX3_open_62 rfl rfl ?_
    refine gf_RX3_22 F dX3_open_63 ?_
    refine V.iload_n F dX3_open_66 rfl rfl ?_
    obtain ⟨c3, h⟩ := chk_out h
    refine V.iald (t0 := 0) (n := 6) F mA26 rfl rfl c3 dX3_open_67 ?_
    obtain ⟨r5, e4, h⟩ := bnd_out h
    refine V.callVi (f := 23) (i := 0) (As := [.int (rd μ 26 0 (ix x2))]) F ck_RX3_30 (Po_openedFrom_ct e4) (by omega) (by decide) rfl mA23 rfl rfl rfl (Nat.le_of_ble_eq_true rfl) dX3_open_68 ?_
    obtain ⟨c6, h⟩ := chk_out h
    obtain ⟨μ7, eμ7, h⟩ := nm_out h
    refine V.iast (t0 := 0) (n := 6) F mA26 (fun _ => rfl) rfl c6 eμ7 dX3_open_71 ?_
    obtain ⟨a8, ea8, h⟩ := nm_out h
    refine V.iinc (z := 1) (L' := [some (rf φ 23 0), some (.int x1), some (.int a8)]) F dX3_open_72 rfl (by decide) ea8 (by decide) rfl rfl ?_
    refine V.goto (tgt := 48) F dX3_open_75 (by decide) ?_
    exact hk48 _ _ _ _ h
def Po_open_48L (k38 : Int32 → Mem → Option Mem) : Nat → Int32 → Int32 → Mem → Option Mem
  | 0 => fun _ _ _ => none
  | n + 1 => Po_open_48 k38 (Po_open_48L k38 n)
set_option maxHeartbeats 4000000 in
set_option maxRecDepth 100000 in
theorem Po_open_48L_ok {φ : Fr} {d : Nat} (F : Fx φ ΩA cX3_open RX3 3 (none)) (hd : 2 ≤ d) {k38 : Int32 → Mem → Option Mem} (hk38 : ∀ (x1 : Int32) (μ : Mem)  (μ' : Mem), k38 x1 μ = some μ' → V φ ΩA 3 d 38 [some (rf φ 23 0), some (.int x1), none] [] μ (none, μ')) : ∀ (n : Nat) (x1 : Int32) (x2 : Int32) (μ : Mem)  (μ' : Mem), Po_open_48L k38 n x1 x2 μ = some μ' → V φ ΩA 3 d 48 [some (rf φ 23 0), some (.int x1), some (.int x2)] [] μ (none, μ') := by
  intro n
  induction n with
  | zero => intro x1 x2 μ μ' h; cases h
  | succ n ih => intro x1 x2 μ μ' h; exact Po_open_48_ok F hd hk38 ih h
def Po_open_38 (k38 : Int32 → Mem → Option Mem) (x1 : Int32) (μ : Mem) : Option Mem :=
  if x1 < (rd μ 23 0 0) then (
    Po_open_48L k38 1000 x1 0 μ)
  else (
    some μ)
set_option maxHeartbeats 4000000 in
set_option maxRecDepth 100000 in
theorem Po_open_38_ok {φ : Fr} {d : Nat} (F : Fx φ ΩA cX3_open RX3 3 (none)) (hd : 2 ≤ d) {k38 : Int32 → Mem → Option Mem} (hk38 : ∀ (x1 : Int32) (μ : Mem)  (μ' : Mem), k38 x1 μ = some μ' → V φ ΩA 3 d 38 [some (rf φ 23 0), some (.int x1), none] [] μ (none, μ')) {x1 : Int32} {μ : Mem}  {μ' : Mem} (h : Po_open_38 k38 x1 μ = some μ') : V φ ΩA 3 d 38 [some (rf φ 23 0), some (.int x1), none] [] μ (none, μ') := by
  unfold Po_open_38 at h
  refine V.iload_n F dX3_open_38 rfl rfl ?_
  refine V.rload_n F dX3_open_39 rfl rfl ?_
  refine gf_RX3_9 F dX3_open_40 ?_
  refine V.icmp_ge (tgt := 84) F dX3_open_43 (by decide) (fun c1 => ?_) (fun c1 => ?_)
  · have h := f_out h c1
    obtain rfl := r1_out h
    exact V.vret F dX3_open_84
  · have h := t_out h c1
    refine V.iconst (v := 0) F dX3_open_46 (by decide) ?_
    refine V.istore_n (L' := [some (rf φ 23 0), some (.int x1), some (.int 0)]) F dX3_open_47 rfl (by decide) rfl rfl rfl ?_
    exact Po_open_48L_ok F hd hk38 1000 _ _ _ _ h
def Po_open_38L : Nat → Int32 → Mem → Option Mem
  | 0 => fun _ _ => none
  | n + 1 => Po_open_38 (Po_open_38L n)
set_option maxHeartbeats 4000000 in
set_option maxRecDepth 100000 in
theorem Po_open_38L_ok {φ : Fr} {d : Nat} (F : Fx φ ΩA cX3_open RX3 3 (none)) (hd : 2 ≤ d) : ∀ (n : Nat) (x1 : Int32) (μ : Mem)  (μ' : Mem), Po_open_38L n x1 μ = some μ' → V φ ΩA 3 d 38 [some (rf φ 23 0), some (.int x1), none] [] μ (none, μ') := by
  intro n
  induction n with
  | zero => intro x1 μ μ' h; cases h
  | succ n ih => intro x1 μ μ' h; exact Po_open_38_ok F hd ih h
def Po_open_2 (k2 : Int32 → Mem → Option Mem) (x1 : Int32) (μ : Mem) : Option Mem :=
  if x1 < (rd μ 23 0 0) then (
    chk (inb x1 6) <|
    bnd (Po_openedBy (rd μ 25 0 (ix x1)) μ) fun r4 =>
    chk (inb x1 6) <|
    nm (up μ 26 0 (ix x1) ((shl 1 x1) ||| r4)) fun μ6 =>
    nm (x1 + 1) fun a7 =>
    k2 a7 μ6)
  else (
    Po_open_38L 1000 0 μ)
set_option maxHeartbeats 4000000 in
set_option maxRecDepth 100000 in
theorem Po_open_2_ok {φ : Fr} {d : Nat} (F : Fx φ ΩA cX3_open RX3 3 (none)) (hd : 2 ≤ d) {k2 : Int32 → Mem → Option Mem} (hk2 : ∀ (x1 : Int32) (μ : Mem)  (μ' : Mem), k2 x1 μ = some μ' → V φ ΩA 3 d 2 [some (rf φ 23 0), some (.int x1), none] [] μ (none, μ')) {x1 : Int32} {μ : Mem}  {μ' : Mem} (h : Po_open_2 k2 x1 μ = some μ') : V φ ΩA 3 d 2 [some (rf φ 23 0), some (.int x1), none] [] μ (none, μ') := by
  unfold Po_open_2 at h
  refine V.iload_n F dX3_open_2 rfl rfl ?_
  refine V.rload_n F dX3_open_3 rfl rfl ?_
  refine gf_RX3_9 F dX3_open_4 ?_
  refine V.icmp_ge (tgt := 36) F dX3_open_7 (by decide) (fun c1 => ?_) (fun c1 => ?_)
  · have h := f_out h c1
    refine V.iconst (v := 0) F dX3_open_36 (by decide) ?_
    refine V.istore_n (L' := [some (rf φ 23 0), some (.int 0), none]) F dX3_open_37 rfl (by decide) rfl rfl rfl ?_
    exact Po_open_38L_ok F hd 1000 _ _ _ h
  · have h := t_out h c1
    refine V.rload_n F dX3_open_10 rfl rfl ?_
    refine gf_RX3_22 F dX3_open_11 ?_
    refine V.iload_n F dX3_open_14 rfl rfl ?_
    refine V.iconst (v := 1) F dX3_open_15 (by decide) ?_
    refine V.iload_n F dX3_open_16 rfl rfl ?_
    refine V.ishl F dX3_open_17 ?_
    refine V.rload_n F dX3_open_18 rfl rfl ?_
    refine V.rload_n F dX3_open_19 rfl rfl ?_
    refine gf_RX3_19 F dX3_open_20 ?_
    refine V.iload_n F dX3_open_23 rfl rfl ?_
    obtain ⟨c2, h⟩ := chk_out h
    refine V.iald (t0 := 0) (n := 6) F mA25 rfl rfl c2 dX3_open_24 ?_
    obtain ⟨r4, e3, h⟩ := bnd_out h
    refine V.callVi (f := 23) (i := 0) (As := [.int (rd μ 25 0 (ix x1))]) F ck_RX3_26 (Po_openedBy_ct e3) (by omega) (by decide) rfl mA23 rfl rfl rfl (Nat.le_of_ble_eq_true rfl) dX3_open_25 ?_
    refine V.ior F dX3_open_28 ?_
    obtain ⟨c5, h⟩ := chk_out h
    obtain ⟨μ6, eμ6, h⟩ := nm_out h
    refine V.iast (t0 := 0) (n := 6) F mA26 (fun _ => rfl) rfl c5 eμ6 dX3_open_29 ?_
    obtain ⟨a7, ea7, h⟩ := nm_out h
    refine V.iinc (z := 1) (L' := [some (rf φ 23 0), some (.int a7), none]) F dX3_open_30 rfl (by decide) ea7 (by decide) rfl rfl ?_
    refine V.goto (tgt := 2) F dX3_open_33 (by decide) ?_
    exact hk2 _ _ _ h
def Po_open_2L : Nat → Int32 → Mem → Option Mem
  | 0 => fun _ _ => none
  | n + 1 => Po_open_2 (Po_open_2L n)
set_option maxHeartbeats 4000000 in
set_option maxRecDepth 100000 in
theorem Po_open_2L_ok {φ : Fr} {d : Nat} (F : Fx φ ΩA cX3_open RX3 3 (none)) (hd : 2 ≤ d) : ∀ (n : Nat) (x1 : Int32) (μ : Mem)  (μ' : Mem), Po_open_2L n x1 μ = some μ' → V φ ΩA 3 d 2 [some (rf φ 23 0), some (.int x1), none] [] μ (none, μ') := by
  intro n
  induction n with
  | zero => intro x1 μ μ' h; cases h
  | succ n ih => intro x1 μ μ' h; exact Po_open_2_ok F hd ih h
def Po_open (μ : Mem) : Option Mem :=
  Po_open_2L 1000 0 μ
set_option maxHeartbeats 4000000 in
set_option maxRecDepth 100000 in
theorem Po_open_ok {φ : Fr} {d : Nat} (F : Fx φ ΩA cX3_open RX3 3 (none)) (hd : 2 ≤ d) {μ : Mem}  {μ' : Mem} (h : Po_open μ = some μ') : V φ ΩA 3 d 0 [some (rf φ 23 0), none, none] [] μ (none, μ') := by
  unfold Po_open at h
  refine V.iconst (v := 0) F dX3_open_0 (by decide) ?_
  refine V.istore_n (L' := [some (rf φ 23 0), some (.int 0), none]) F dX3_open_1 rfl (by decide) rfl rfl rfl ?_
  exact Po_open_2L_ok F hd 1000 _ _ _ h
set_option maxHeartbeats 4000000 in
set_option maxRecDepth 100000 in
theorem Po_open_ct {l : Launch} {G : Glo} {μ : Mem}  {μ' : Mem} (h : Po_open μ = some μ') : Ct l ΩA G 2 yX3_open cX3_open 3 (none) [.ref (G.1 23 0)] μ (none, μ') := by
  refine Ct.intro (by decide) (Nat.le_of_ble_eq_true rfl) ?_
  intro φ hl hG F
  subst hl; subst hG
  exact Po_open_ok F (Nat.le_refl _) h
def J_bitCount (x0 : Int32) : Int32 :=
  nm (x0 - ((ush x0 1) &&& 1431655765)) fun a1 =>
  nm ((a1 &&& 858993459) + ((ush a1 2) &&& 858993459)) fun a2 =>
  nm ((a2 + (ush a2 4)) &&& 252645135) fun a3 =>
  nm (a3 + (ush a3 8)) fun a4 =>
  nm (a4 + (ush a4 16)) fun a5 =>
  a5 &&& 63
set_option maxHeartbeats 4000000 in
set_option maxRecDepth 100000 in
theorem J_bitCount_ok {φ : Fr} {d : Nat} {Ω : Wld} (F : Fx φ Ω cJ6_bitCount_0f7a4 RJ6 1 (some .int)) (hd : 1 ≤ d) {x0 : Int32} {μ : Mem} {r : Int32} (h : J_bitCount x0 = r) : V φ Ω 1 d 0 [some (.int x0)] [] μ (some (.int r), μ) := by
  unfold J_bitCount at h
  refine V.iload_n F dJ6_bitCount_0f7a4_0 rfl rfl ?_
  refine V.iload_n F dJ6_bitCount_0f7a4_1 rfl rfl ?_
  refine V.iconst (v := 1) F dJ6_bitCount_0f7a4_2 (by decide) ?_
  refine V.iushr F dJ6_bitCount_0f7a4_3 ?_
  refine V.ldcw F kw_RJ6_265 dJ6_bitCount_0f7a4_4 ?_
  refine V.iand F dJ6_bitCount_0f7a4_7 ?_
  refine V.isub F dJ6_bitCount_0f7a4_8 ?_
  obtain ⟨a1, ea1, h⟩ := nm_out h
  refine V.istore_n (L' := [some (.int a1)]) F dJ6_bitCount_0f7a4_9 rfl (by decide) rfl ea1 rfl ?_
  refine V.iload_n F dJ6_bitCount_0f7a4_10 rfl rfl ?_
  refine V.ldcw F kw_RJ6_266 dJ6_bitCount_0f7a4_11 ?_
  refine V.iand F dJ6_bitCount_0f7a4_14 ?_
  refine V.iload_n F dJ6_bitCount_0f7a4_15 rfl rfl ?_
  refine V.iconst (v := 2) F dJ6_bitCount_0f7a4_16 (by decide) ?_
  refine V.iushr F dJ6_bitCount_0f7a4_17 ?_
  refine V.ldcw F kw_RJ6_266 dJ6_bitCount_0f7a4_18 ?_
  refine V.iand F dJ6_bitCount_0f7a4_21 ?_
  refine V.iadd F dJ6_bitCount_0f7a4_22 ?_
  obtain ⟨a2, ea2, h⟩ := nm_out h
  refine V.istore_n (L' := [some (.int a2)]) F dJ6_bitCount_0f7a4_23 rfl (by decide) rfl ea2 rfl ?_
  refine V.iload_n F dJ6_bitCount_0f7a4_24 rfl rfl ?_
  refine V.iload_n F dJ6_bitCount_0f7a4_25 rfl rfl ?_
  refine V.iconst (v := 4) F dJ6_bitCount_0f7a4_26 (by decide) ?_
  refine V.iushr F dJ6_bitCount_0f7a4_27 ?_
  refine V.iadd F dJ6_bitCount_0f7a4_28 ?_
  refine V.ldcw F kw_RJ6_267 dJ6_bitCount_0f7a4_29 ?_
  refine V.iand F dJ6_bitCount_0f7a4_32 ?_
  obtain ⟨a3, ea3, h⟩ := nm_out h
  refine V.istore_n (L' := [some (.int a3)]) F dJ6_bitCount_0f7a4_33 rfl (by decide) rfl ea3 rfl ?_
  refine V.iload_n F dJ6_bitCount_0f7a4_34 rfl rfl ?_
  refine V.iload_n F dJ6_bitCount_0f7a4_35 rfl rfl ?_
  refine V.bipush (v := 8) F dJ6_bitCount_0f7a4_36 (by decide) ?_
  refine V.iushr F dJ6_bitCount_0f7a4_38 ?_
  refine V.iadd F dJ6_bitCount_0f7a4_39 ?_
  obtain ⟨a4, ea4, h⟩ := nm_out h
  refine V.istore_n (L' := [some (.int a4)]) F dJ6_bitCount_0f7a4_40 rfl (by decide) rfl ea4 rfl ?_
  refine V.iload_n F dJ6_bitCount_0f7a4_41 rfl rfl ?_
  refine V.iload_n F dJ6_bitCount_0f7a4_42 rfl rfl ?_
  refine V.bipush (v := 16) F dJ6_bitCount_0f7a4_43 (by decide) ?_
  refine V.iushr F dJ6_bitCount_0f7a4_45 ?_
  refine V.iadd F dJ6_bitCount_0f7a4_46 ?_
  obtain ⟨a5, ea5, h⟩ := nm_out h
  refine V.istore_n (L' := [some (.int a5)]) F dJ6_bitCount_0f7a4_47 rfl (by decide) rfl ea5 rfl ?_
  refine V.iload_n F dJ6_bitCount_0f7a4_48 rfl rfl ?_
  refine V.bipush (v := 63) F dJ6_bitCount_0f7a4_49 (by decide) ?_
  refine V.iand F dJ6_bitCount_0f7a4_51 ?_
  obtain rfl := h
  exact V.iret F dJ6_bitCount_0f7a4_52
set_option maxHeartbeats 4000000 in
set_option maxRecDepth 100000 in
theorem J_bitCount_ct {l : Launch} {G : Glo} {Ω : Wld} {x0 : Int32} {μ : Mem} {r : Int32} (h : J_bitCount x0 = r) : Ct l Ω G 1 yJ6_bitCount_0f7a4 cJ6_bitCount_0f7a4 1 (some .int) [.int x0] μ (some (.int r), μ) := by
  refine Ct.intro (by decide) (Nat.le_of_ble_eq_true rfl) ?_
  intro φ hl hG F
  subst hl; subst hG
  exact J_bitCount_ok F (Nat.le_refl _) h
def Po_key_36 (k6 : Int32 → Int32 → Int32 → Mem → Option Int32) (x1 : Int32) (x2 : Int32) (x3 : Int32) (μ : Mem) : Option Int32 :=
  nm (x3 + 1) fun a1 =>
  k6 x1 x2 a1 μ
set_option maxHeartbeats 4000000 in
set_option maxRecDepth 100000 in
theorem Po_key_36_ok {φ : Fr} {d : Nat} (F : Fx φ ΩA cX3_key RX3 5 (some .int)) (hd : 2 ≤ d) {k6 : Int32 → Int32 → Int32 → Mem → Option Int32} (hk6 : ∀ (x1 : Int32) (x2 : Int32) (x3 : Int32) (μ : Mem) (r : Int32), k6 x1 x2 x3 μ = some r → V φ ΩA 5 d 6 [some (rf φ 23 0), some (.int x1), some (.int x2), some (.int x3), none] [] μ (some (.int r), μ)) {x1 : Int32} {x2 : Int32} {x3 : Int32} {μ : Mem} {r : Int32} (h : Po_key_36 k6 x1 x2 x3 μ = some r) : V φ ΩA 5 d 36 [some (rf φ 23 0), some (.int x1), some (.int x2), some (.int x3), none] [] μ (some (.int r), μ) := by
  unfold Po_key_36 at h
  obtain ⟨a1, ea1, h⟩ := nm_out h
  refine V.iinc (z := 1) (L' := [some (rf φ 23 0), some (.int x1), some (.int x2), some (.int a1), none]) F dX3_key_36 rfl (by decide) ea1 (by decide) rfl rfl ?_
  refine V.goto (tgt := 6) F dX3_key_39 (by decide) ?_
  exact hk6 _ _ _ _ _ h
def Po_key_6 (k6 : Int32 → Int32 → Int32 → Mem → Option Int32) (x1 : Int32) (x2 : Int32) (x3 : Int32) (μ : Mem) : Option Int32 :=
  if x3 < (rd μ 23 0 0) then (
    chk (inb x3 6) <|
    nm (J_bitCount (rd μ 26 0 (ix x3))) fun r4 =>
    if x2 < r4 then (
      Po_key_36 k6 x3 r4 x3 μ)
    else (
      Po_key_36 k6 x1 x2 x3 μ))
  else (
    some x1)
set_option maxHeartbeats 4000000 in
set_option maxRecDepth 100000 in
theorem Po_key_6_ok {φ : Fr} {d : Nat} (F : Fx φ ΩA cX3_key RX3 5 (some .int)) (hd : 2 ≤ d) {k6 : Int32 → Int32 → Int32 → Mem → Option Int32} (hk6 : ∀ (x1 : Int32) (x2 : Int32) (x3 : Int32) (μ : Mem) (r : Int32), k6 x1 x2 x3 μ = some r → V φ ΩA 5 d 6 [some (rf φ 23 0), some (.int x1), some (.int x2), some (.int x3), none] [] μ (some (.int r), μ)) {x1 : Int32} {x2 : Int32} {x3 : Int32} {μ : Mem} {r : Int32} (h : Po_key_6 k6 x1 x2 x3 μ = some r) : V φ ΩA 5 d 6 [some (rf φ 23 0), some (.int x1), some (.int x2), some (.int x3), none] [] μ (some (.int r), μ) := by
  unfold Po_key_6 at h
  refine V.iload_n F dX3_key_6 rfl rfl ?_
  refine V.rload_n F dX3_key_7 rfl rfl ?_
  refine gf_RX3_9 F dX3_key_8 ?_
  refine V.icmp_ge (tgt := 42) F dX3_key_11 (by decide) (fun c1 => ?_) (fun c1 => ?_)
  · have h := f_out h c1
    refine V.iload_n F dX3_key_42 rfl rfl ?_
    obtain rfl := r1_out h
    exact V.iret F dX3_key_43
  · have h := t_out h c1
    refine V.rload_n F dX3_key_14 rfl rfl ?_
    refine gf_RX3_22 F dX3_key_15 ?_
    refine V.iload_n F dX3_key_18 rfl rfl ?_
    obtain ⟨c2, h⟩ := chk_out h
    refine V.iald (t0 := 0) (n := 6) F mA26 rfl rfl c2 dX3_key_19 ?_
    obtain ⟨r4, e3, h⟩ := nm_out h
    refine V.callSi (As := [.int (rd μ 26 0 (ix x3))]) F ck_RX3_33 (J_bitCount_ct e3) (by omega) (by decide) rfl rfl (Nat.le_of_ble_eq_true rfl) dX3_key_20 ?_
    refine V.istore (L' := [some (rf φ 23 0), some (.int x1), some (.int x2), some (.int x3), some (.int r4)]) F dX3_key_23 (by decide) rfl rfl rfl ?_
    refine V.iload F dX3_key_25 rfl ?_
    refine V.iload_n F dX3_key_27 rfl rfl ?_
    refine V.icmp_le (tgt := 36) F dX3_key_28 (by decide) (fun c5 => ?_) (fun c5 => ?_)
    · have h := f_out h c5
      refine V.msk (L' := [some (rf φ 23 0), some (.int x1), some (.int x2), some (.int x3), none]) [true, true, true, true, false] rfl ?_
      exact Po_key_36_ok F hd hk6 h
    · have h := t_out h c5
      refine V.iload F dX3_key_31 rfl ?_
      refine V.istore_n (L' := [some (rf φ 23 0), some (.int x1), some (.int r4), some (.int x3), some (.int r4)]) F dX3_key_33 rfl (by decide) rfl rfl rfl ?_
      refine V.iload_n F dX3_key_34 rfl rfl ?_
      refine V.istore_n (L' := [some (rf φ 23 0), some (.int x3), some (.int r4), some (.int x3), some (.int r4)]) F dX3_key_35 rfl (by decide) rfl rfl rfl ?_
      refine V.msk (L' := [some (rf φ 23 0), some (.int x3), some (.int r4), some (.int x3), none]) [true, true, true, true, false] rfl ?_
      exact Po_key_36_ok F hd hk6 h
def Po_key_6L : Nat → Int32 → Int32 → Int32 → Mem → Option Int32
  | 0 => fun _ _ _ _ => none
  | n + 1 => Po_key_6 (Po_key_6L n)
set_option maxHeartbeats 4000000 in
set_option maxRecDepth 100000 in
theorem Po_key_6L_ok {φ : Fr} {d : Nat} (F : Fx φ ΩA cX3_key RX3 5 (some .int)) (hd : 2 ≤ d) : ∀ (n : Nat) (x1 : Int32) (x2 : Int32) (x3 : Int32) (μ : Mem) (r : Int32), Po_key_6L n x1 x2 x3 μ = some r → V φ ΩA 5 d 6 [some (rf φ 23 0), some (.int x1), some (.int x2), some (.int x3), none] [] μ (some (.int r), μ) := by
  intro n
  induction n with
  | zero => intro x1 x2 x3 μ r h; cases h
  | succ n ih => intro x1 x2 x3 μ r h; exact Po_key_6_ok F hd ih h
def Po_key (μ : Mem) : Option Int32 :=
  Po_key_6L 1000 (-1) 0 0 μ
set_option maxHeartbeats 4000000 in
set_option maxRecDepth 100000 in
theorem Po_key_ok {φ : Fr} {d : Nat} (F : Fx φ ΩA cX3_key RX3 5 (some .int)) (hd : 2 ≤ d) {μ : Mem} {r : Int32} (h : Po_key μ = some r) : V φ ΩA 5 d 0 [some (rf φ 23 0), none, none, none, none] [] μ (some (.int r), μ) := by
  unfold Po_key at h
  refine V.iconst (v := (-1)) F dX3_key_0 (by decide) ?_
  refine V.istore_n (L' := [some (rf φ 23 0), some (.int (-1)), none, none, none]) F dX3_key_1 rfl (by decide) rfl rfl rfl ?_
  refine V.iconst (v := 0) F dX3_key_2 (by decide) ?_
  refine V.istore_n (L' := [some (rf φ 23 0), some (.int (-1)), some (.int 0), none, none]) F dX3_key_3 rfl (by decide) rfl rfl rfl ?_
  refine V.iconst (v := 0) F dX3_key_4 (by decide) ?_
  refine V.istore_n (L' := [some (rf φ 23 0), some (.int (-1)), some (.int 0), some (.int 0), none]) F dX3_key_5 rfl (by decide) rfl rfl rfl ?_
  exact Po_key_6L_ok F hd 1000 _ _ _ _ _ h
set_option maxHeartbeats 4000000 in
set_option maxRecDepth 100000 in
theorem Po_key_ct {l : Launch} {G : Glo} {μ : Mem} {r : Int32} (h : Po_key μ = some r) : Ct l ΩA G 2 yX3_key cX3_key 5 (some .int) [.ref (G.1 23 0)] μ (some (.int r), μ) := by
  refine Ct.intro (by decide) (Nat.le_of_ble_eq_true rfl) ?_
  intro φ hl hG F
  subst hl; subst hG
  exact Po_key_ok F (Nat.le_refl _) h
def Po_mostOpened_4 (k4 : Int32 → Int32 → Mem → Option Int32) (x1 : Int32) (x2 : Int32) (μ : Mem) : Option Int32 :=
  if x2 < (rd μ 23 0 0) then (
    chk (inb x2 6) <|
    nm (J_bitCount (rd μ 26 0 (ix x2))) fun r4 =>
    nm (imx x1 r4) fun a5 =>
    nm (x2 + 1) fun a6 =>
    k4 a5 a6 μ)
  else (
    some x1)
set_option maxHeartbeats 4000000 in
set_option maxRecDepth 100000 in
theorem Po_mostOpened_4_ok {φ : Fr} {d : Nat} (F : Fx φ ΩA cX3_mostOpened RX3 3 (some .int)) (hd : 2 ≤ d) {k4 : Int32 → Int32 → Mem → Option Int32} (hk4 : ∀ (x1 : Int32) (x2 : Int32) (μ : Mem) (r : Int32), k4 x1 x2 μ = some r → V φ ΩA 3 d 4 [some (rf φ 23 0), some (.int x1), some (.int x2)] [] μ (some (.int r), μ)) {x1 : Int32} {x2 : Int32} {μ : Mem} {r : Int32} (h : Po_mostOpened_4 k4 x1 x2 μ = some r) : V φ ΩA 3 d 4 [some (rf φ 23 0), some (.int x1), some (.int x2)] [] μ (some (.int r), μ) := by
  unfold Po_mostOpened_4 at h
  refine V.iload_n F dX3_mostOpened_4 rfl rfl ?_
  refine V.rload_n F dX3_mostOpened_5 rfl rfl ?_
  refine gf_RX3_9 F dX3_mostOpened_6 ?_
  refine V.icmp_ge (tgt := 32) F dX3_mostOpened_9 (by decide) (fun c1 => ?_) (fun c1 => ?_)
  · have h := f_out h c1
    refine V.iload_n F dX3_mostOpened_32 rfl rfl ?_
    obtain rfl := r1_out h
    exact V.iret F dX3_mostOpened_33
  · have h := t_out h c1
    refine V.iload_n F dX3_mostOpened_12 rfl rfl ?_
    refine V.rload_n F dX3_mostOpened_13 rfl rfl ?_
    refine gf_RX3_22 F dX3_mostOpened_14 ?_
    refine V.iload_n F dX3_mostOpened_17 rfl rfl ?_
    obtain ⟨c2, h⟩ := chk_out h
    refine V.iald (t0 := 0) (n := 6) F mA26 rfl rfl c2 dX3_mostOpened_18 ?_
    obtain ⟨r4, e3, h⟩ := nm_out h
    refine V.callSi (As := [.int (rd μ 26 0 (ix x2))]) F ck_RX3_33 (J_bitCount_ct e3) (by omega) (by decide) rfl rfl (Nat.le_of_ble_eq_true rfl) dX3_mostOpened_19 ?_
    refine V.mmax F ml_RX3_38 sw_mmax iw_Math cw_mmax (Nat.le_of_ble_eq_true rfl) dX3_mostOpened_22 ?_
    obtain ⟨a5, ea5, h⟩ := nm_out h
    refine V.istore_n (L' := [some (rf φ 23 0), some (.int a5), some (.int x2)]) F dX3_mostOpened_25 rfl (by decide) rfl ea5 rfl ?_
    obtain ⟨a6, ea6, h⟩ := nm_out h
    refine V.iinc (z := 1) (L' := [some (rf φ 23 0), some (.int a5), some (.int a6)]) F dX3_mostOpened_26 rfl (by decide) ea6 (by decide) rfl rfl ?_
    refine V.goto (tgt := 4) F dX3_mostOpened_29 (by decide) ?_
    exact hk4 _ _ _ _ h
def Po_mostOpened_4L : Nat → Int32 → Int32 → Mem → Option Int32
  | 0 => fun _ _ _ => none
  | n + 1 => Po_mostOpened_4 (Po_mostOpened_4L n)
set_option maxHeartbeats 4000000 in
set_option maxRecDepth 100000 in
theorem Po_mostOpened_4L_ok {φ : Fr} {d : Nat} (F : Fx φ ΩA cX3_mostOpened RX3 3 (some .int)) (hd : 2 ≤ d) : ∀ (n : Nat) (x1 : Int32) (x2 : Int32) (μ : Mem) (r : Int32), Po_mostOpened_4L n x1 x2 μ = some r → V φ ΩA 3 d 4 [some (rf φ 23 0), some (.int x1), some (.int x2)] [] μ (some (.int r), μ) := by
  intro n
  induction n with
  | zero => intro x1 x2 μ r h; cases h
  | succ n ih => intro x1 x2 μ r h; exact Po_mostOpened_4_ok F hd ih h
def Po_mostOpened (μ : Mem) : Option Int32 :=
  Po_mostOpened_4L 1000 0 0 μ
set_option maxHeartbeats 4000000 in
set_option maxRecDepth 100000 in
theorem Po_mostOpened_ok {φ : Fr} {d : Nat} (F : Fx φ ΩA cX3_mostOpened RX3 3 (some .int)) (hd : 2 ≤ d) {μ : Mem} {r : Int32} (h : Po_mostOpened μ = some r) : V φ ΩA 3 d 0 [some (rf φ 23 0), none, none] [] μ (some (.int r), μ) := by
  unfold Po_mostOpened at h
  refine V.iconst (v := 0) F dX3_mostOpened_0 (by decide) ?_
  refine V.istore_n (L' := [some (rf φ 23 0), some (.int 0), none]) F dX3_mostOpened_1 rfl (by decide) rfl rfl rfl ?_
  refine V.iconst (v := 0) F dX3_mostOpened_2 (by decide) ?_
  refine V.istore_n (L' := [some (rf φ 23 0), some (.int 0), some (.int 0)]) F dX3_mostOpened_3 rfl (by decide) rfl rfl rfl ?_
  exact Po_mostOpened_4L_ok F hd 1000 _ _ _ _ h
set_option maxHeartbeats 4000000 in
set_option maxRecDepth 100000 in
theorem Po_mostOpened_ct {l : Launch} {G : Glo} {μ : Mem} {r : Int32} (h : Po_mostOpened μ = some r) : Ct l ΩA G 2 yX3_mostOpened cX3_mostOpened 3 (some .int) [.ref (G.1 23 0)] μ (some (.int r), μ) := by
  refine Ct.intro (by decide) (Nat.le_of_ble_eq_true rfl) ?_
  intro φ hl hG F
  subst hl; subst hG
  exact Po_mostOpened_ok F (Nat.le_refl _) h
def Po_areAllFromOne (μ : Mem) : Option Int32 :=
  if 0 < (rd μ 23 0 0) then (
    bnd (Po_mostOpened μ) fun r3 =>
    if r3 = (rd μ 23 0 0) then (
      some 1)
    else (
      some 0))
  else (
    some 0)
set_option maxHeartbeats 4000000 in
set_option maxRecDepth 100000 in
theorem Po_areAllFromOne_ok {φ : Fr} {d : Nat} (F : Fx φ ΩA cX3_areAllFromOne RX3 1 (some .boolean)) (hd : 3 ≤ d) {μ : Mem} {r : Int32} (h : Po_areAllFromOne μ = some r) : V φ ΩA 1 d 0 [some (rf φ 23 0)] [] μ (some (.int r), μ) := by
  unfold Po_areAllFromOne at h
  refine V.rload_n F dX3_areAllFromOne_0 rfl rfl ?_
  refine gf_RX3_9 F dX3_areAllFromOne_1 ?_
  refine V.if_le (tgt := 22) F dX3_areAllFromOne_4 (by decide) (fun c1 => ?_) (fun c1 => ?_)
  · have h := f_out h c1
    refine V.iconst (v := 0) F dX3_areAllFromOne_22 (by decide) ?_
    obtain rfl := r1_out h
    exact V.zret F (by decide) dX3_areAllFromOne_23
  · have h := t_out h c1
    refine V.rload_n F dX3_areAllFromOne_7 rfl rfl ?_
    obtain ⟨r3, e2, h⟩ := bnd_out h
    refine V.callVi (f := 23) (i := 0) (As := []) F ck_RX3_44 (Po_mostOpened_ct e2) (by omega) (by decide) rfl mA23 rfl rfl rfl (Nat.le_of_ble_eq_true rfl) dX3_areAllFromOne_8 ?_
    refine V.rload_n F dX3_areAllFromOne_11 rfl rfl ?_
    refine gf_RX3_9 F dX3_areAllFromOne_12 ?_
    refine V.icmp_ne (tgt := 22) F dX3_areAllFromOne_15 (by decide) (fun c4 => ?_) (fun c4 => ?_)
    · have h := f_out h c4
      refine V.iconst (v := 0) F dX3_areAllFromOne_22 (by decide) ?_
      obtain rfl := r1_out h
      exact V.zret F (by decide) dX3_areAllFromOne_23
    · have h := t_out h c4
      refine V.iconst (v := 1) F dX3_areAllFromOne_18 (by decide) ?_
      refine V.goto (tgt := 23) F dX3_areAllFromOne_19 (by decide) ?_
      obtain rfl := r1_out h
      exact V.zret F (by decide) dX3_areAllFromOne_23
set_option maxHeartbeats 4000000 in
set_option maxRecDepth 100000 in
theorem Po_areAllFromOne_ct {l : Launch} {G : Glo} {μ : Mem} {r : Int32} (h : Po_areAllFromOne μ = some r) : Ct l ΩA G 3 yX3_areAllFromOne cX3_areAllFromOne 1 (some .boolean) [.ref (G.1 23 0)] μ (some (.int r), μ) := by
  refine Ct.intro (by decide) (Nat.le_of_ble_eq_true rfl) ?_
  intro φ hl hG F
  subst hl; subst hG
  exact Po_areAllFromOne_ok F (Nat.le_refl _) h
def Po_fewest_40 (k13 : Int32 → Int32 → Int32 → Mem → Option Int32) (x1 : Int32) (x2 : Int32) (x3 : Int32) (μ : Mem) : Option Int32 :=
  nm (x3 + 1) fun a1 =>
  k13 x1 x2 a1 μ
set_option maxHeartbeats 4000000 in
set_option maxRecDepth 100000 in
theorem Po_fewest_40_ok {φ : Fr} {d : Nat} (F : Fx φ ΩA cX3_fewest RX3 4 (some .int)) (hd : 2 ≤ d) {k13 : Int32 → Int32 → Int32 → Mem → Option Int32} (hk13 : ∀ (x1 : Int32) (x2 : Int32) (x3 : Int32) (μ : Mem) (r : Int32), k13 x1 x2 x3 μ = some r → V φ ΩA 4 d 13 [some (rf φ 23 0), some (.int x1), some (.int x2), some (.int x3)] [] μ (some (.int r), μ)) {x1 : Int32} {x2 : Int32} {x3 : Int32} {μ : Mem} {r : Int32} (h : Po_fewest_40 k13 x1 x2 x3 μ = some r) : V φ ΩA 4 d 40 [some (rf φ 23 0), some (.int x1), some (.int x2), some (.int x3)] [] μ (some (.int r), μ) := by
  unfold Po_fewest_40 at h
  obtain ⟨a1, ea1, h⟩ := nm_out h
  refine V.iinc (z := 1) (L' := [some (rf φ 23 0), some (.int x1), some (.int x2), some (.int a1)]) F dX3_fewest_40 rfl (by decide) ea1 (by decide) rfl rfl ?_
  refine V.goto (tgt := 13) F dX3_fewest_43 (by decide) ?_
  exact hk13 _ _ _ _ _ h
def Po_fewest_13 (k13 : Int32 → Int32 → Int32 → Mem → Option Int32) (x1 : Int32) (x2 : Int32) (x3 : Int32) (μ : Mem) : Option Int32 :=
  if x3 < x1 then (
    nm (J_bitCount x3) fun r3 =>
    nm (J_bitCount x2) fun r5 =>
    if r3 < r5 then (
      bnd (Po_openedFrom x3 μ) fun r8 =>
      if r8 = x1 then (
        Po_fewest_40 k13 x1 x3 x3 μ)
      else (
        Po_fewest_40 k13 x1 x2 x3 μ))
    else (
      Po_fewest_40 k13 x1 x2 x3 μ))
  else (
    some x2)
set_option maxHeartbeats 4000000 in
set_option maxRecDepth 100000 in
theorem Po_fewest_13_ok {φ : Fr} {d : Nat} (F : Fx φ ΩA cX3_fewest RX3 4 (some .int)) (hd : 2 ≤ d) {k13 : Int32 → Int32 → Int32 → Mem → Option Int32} (hk13 : ∀ (x1 : Int32) (x2 : Int32) (x3 : Int32) (μ : Mem) (r : Int32), k13 x1 x2 x3 μ = some r → V φ ΩA 4 d 13 [some (rf φ 23 0), some (.int x1), some (.int x2), some (.int x3)] [] μ (some (.int r), μ)) {x1 : Int32} {x2 : Int32} {x3 : Int32} {μ : Mem} {r : Int32} (h : Po_fewest_13 k13 x1 x2 x3 μ = some r) : V φ ΩA 4 d 13 [some (rf φ 23 0), some (.int x1), some (.int x2), some (.int x3)] [] μ (some (.int r), μ) := by
  unfold Po_fewest_13 at h
  refine V.iload_n F dX3_fewest_13 rfl rfl ?_
  refine V.iload_n F dX3_fewest_14 rfl rfl ?_
  refine V.icmp_ge (tgt := 46) F dX3_fewest_15 (by decide) (fun c1 => ?_) (fun c1 => ?_)
  · have h := f_out h c1
    refine V.iload_n F dX3_fewest_46 rfl rfl ?_
    obtain rfl := r1_out h
    exact V.iret F dX3_fewest_47
  · have h := t_out h c1
    refine V.iload_n F dX3_fewest_18 rfl rfl ?_
    obtain ⟨r3, e2, h⟩ := nm_out h
    refine V.callSi (As := [.int x3]) F ck_RX3_33 (J_bitCount_ct e2) (by omega) (by decide) rfl rfl (Nat.le_of_ble_eq_true rfl) dX3_fewest_19 ?_
    refine V.iload_n F dX3_fewest_22 rfl rfl ?_
    obtain ⟨r5, e4, h⟩ := nm_out h
    refine V.callSi (As := [.int x2]) F ck_RX3_33 (J_bitCount_ct e4) (by omega) (by decide) rfl rfl (Nat.le_of_ble_eq_true rfl) dX3_fewest_23 ?_
    refine V.icmp_ge (tgt := 40) F dX3_fewest_26 (by decide) (fun c6 => ?_) (fun c6 => ?_)
    · have h := f_out h c6
      exact Po_fewest_40_ok F hd hk13 h
    · have h := t_out h c6
      refine V.rload_n F dX3_fewest_29 rfl rfl ?_
      refine V.iload_n F dX3_fewest_30 rfl rfl ?_
      obtain ⟨r8, e7, h⟩ := bnd_out h
      refine V.callVi (f := 23) (i := 0) (As := [.int x3]) F ck_RX3_30 (Po_openedFrom_ct e7) (by omega) (by decide) rfl mA23 rfl rfl rfl (Nat.le_of_ble_eq_true rfl) dX3_fewest_31 ?_
      refine V.iload_n F dX3_fewest_34 rfl rfl ?_
      refine V.icmp_ne (tgt := 40) F dX3_fewest_35 (by decide) (fun c9 => ?_) (fun c9 => ?_)
      · have h := f_out h c9
        exact Po_fewest_40_ok F hd hk13 h
      · have h := t_out h c9
        refine V.iload_n F dX3_fewest_38 rfl rfl ?_
        refine V.istore_n (L' := [some (rf φ 23 0), some (.int x1), some (.int x3), some (.int x3)]) F dX3_fewest_39 rfl (by decide) rfl rfl rfl ?_
        exact Po_fewest_40_ok F hd hk13 h
def Po_fewest_13L : Nat → Int32 → Int32 → Int32 → Mem → Option Int32
  | 0 => fun _ _ _ _ => none
  | n + 1 => Po_fewest_13 (Po_fewest_13L n)
set_option maxHeartbeats 4000000 in
set_option maxRecDepth 100000 in
theorem Po_fewest_13L_ok {φ : Fr} {d : Nat} (F : Fx φ ΩA cX3_fewest RX3 4 (some .int)) (hd : 2 ≤ d) : ∀ (n : Nat) (x1 : Int32) (x2 : Int32) (x3 : Int32) (μ : Mem) (r : Int32), Po_fewest_13L n x1 x2 x3 μ = some r → V φ ΩA 4 d 13 [some (rf φ 23 0), some (.int x1), some (.int x2), some (.int x3)] [] μ (some (.int r), μ) := by
  intro n
  induction n with
  | zero => intro x1 x2 x3 μ r h; cases h
  | succ n ih => intro x1 x2 x3 μ r h; exact Po_fewest_13_ok F hd ih h
def Po_fewest (μ : Mem) : Option Int32 :=
  nm ((shl 1 (rd μ 23 0 0)) - 1) fun a1 =>
  Po_fewest_13L 1000 a1 a1 0 μ
set_option maxHeartbeats 4000000 in
set_option maxRecDepth 100000 in
theorem Po_fewest_ok {φ : Fr} {d : Nat} (F : Fx φ ΩA cX3_fewest RX3 4 (some .int)) (hd : 2 ≤ d) {μ : Mem} {r : Int32} (h : Po_fewest μ = some r) : V φ ΩA 4 d 0 [some (rf φ 23 0), none, none, none] [] μ (some (.int r), μ) := by
  unfold Po_fewest at h
  refine V.iconst (v := 1) F dX3_fewest_0 (by decide) ?_
  refine V.rload_n F dX3_fewest_1 rfl rfl ?_
  refine gf_RX3_9 F dX3_fewest_2 ?_
  refine V.ishl F dX3_fewest_5 ?_
  refine V.iconst (v := 1) F dX3_fewest_6 (by decide) ?_
  refine V.isub F dX3_fewest_7 ?_
  obtain ⟨a1, ea1, h⟩ := nm_out h
  refine V.istore_n (L' := [some (rf φ 23 0), some (.int a1), none, none]) F dX3_fewest_8 rfl (by decide) rfl ea1 rfl ?_
  refine V.iload_n F dX3_fewest_9 rfl rfl ?_
  refine V.istore_n (L' := [some (rf φ 23 0), some (.int a1), some (.int a1), none]) F dX3_fewest_10 rfl (by decide) rfl rfl rfl ?_
  refine V.iconst (v := 0) F dX3_fewest_11 (by decide) ?_
  refine V.istore_n (L' := [some (rf φ 23 0), some (.int a1), some (.int a1), some (.int 0)]) F dX3_fewest_12 rfl (by decide) rfl rfl rfl ?_
  exact Po_fewest_13L_ok F hd 1000 _ _ _ _ _ h
set_option maxHeartbeats 4000000 in
set_option maxRecDepth 100000 in
theorem Po_fewest_ct {l : Launch} {G : Glo} {μ : Mem} {r : Int32} (h : Po_fewest μ = some r) : Ct l ΩA G 2 yX3_fewest cX3_fewest 4 (some .int) [.ref (G.1 23 0)] μ (some (.int r), μ) := by
  refine Ct.intro (by decide) (Nat.le_of_ble_eq_true rfl) ?_
  intro φ hl hG F
  subst hl; subst hG
  exact Po_fewest_ok F (Nat.le_refl _) h
