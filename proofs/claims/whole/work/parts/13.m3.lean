def S_inOwn_37 (k4 : Int32 → Int32 → Mem → Option Int32) (x1 : Int32) (x2 : Int32) (μ : Mem) : Option Int32 :=
  nm (x2 + 1) fun a1 =>
  k4 x1 a1 μ
set_option maxHeartbeats 4000000 in
set_option maxRecDepth 100000 in
theorem S_inOwn_37_ok {φ : Fr} {d : Nat} (F : Fx φ ΩA cX9_inOwn RX9 3 (some .int)) (hd : 1 ≤ d) {k4 : Int32 → Int32 → Mem → Option Int32} (hk4 : ∀ (x1 : Int32) (x2 : Int32) (μ : Mem) (r : Int32), k4 x1 x2 μ = some r → V φ ΩA 3 d 4 [some (rf φ 0 0), some (.int x1), some (.int x2)] [] μ (some (.int r), μ)) {x1 : Int32} {x2 : Int32} {μ : Mem} {r : Int32} (h : S_inOwn_37 k4 x1 x2 μ = some r) : V φ ΩA 3 d 37 [some (rf φ 0 0), some (.int x1), some (.int x2)] [] μ (some (.int r), μ) := by
  unfold S_inOwn_37 at h
  obtain ⟨a1, ea1, h⟩ := nm_out h
  refine V.iinc (z := 1) (L' := [some (rf φ 0 0), some (.int x1), some (.int a1)]) F dX9_inOwn_37 rfl (by decide) ea1 (by decide) rfl rfl ?_
  refine V.goto (tgt := 4) F dX9_inOwn_40 (by decide) ?_
  exact hk4 _ _ _ _ h
def S_inOwn_4 (k4 : Int32 → Int32 → Mem → Option Int32) (x1 : Int32) (x2 : Int32) (μ : Mem) : Option Int32 :=
  if x2 < (rd μ 1 0 3) then (
    chk (inb x2 6) <|
    if (rd μ 2 (ix x2) 4) = x2 then (
      nm (x1 ||| (shl 1 x2)) fun a4 =>
      S_inOwn_37 k4 a4 x2 μ)
    else (
      S_inOwn_37 k4 x1 x2 μ))
  else (
    some x1)
set_option maxHeartbeats 4000000 in
set_option maxRecDepth 100000 in
theorem S_inOwn_4_ok {φ : Fr} {d : Nat} (F : Fx φ ΩA cX9_inOwn RX9 3 (some .int)) (hd : 1 ≤ d) {k4 : Int32 → Int32 → Mem → Option Int32} (hk4 : ∀ (x1 : Int32) (x2 : Int32) (μ : Mem) (r : Int32), k4 x1 x2 μ = some r → V φ ΩA 3 d 4 [some (rf φ 0 0), some (.int x1), some (.int x2)] [] μ (some (.int r), μ)) {x1 : Int32} {x2 : Int32} {μ : Mem} {r : Int32} (h : S_inOwn_4 k4 x1 x2 μ = some r) : V φ ΩA 3 d 4 [some (rf φ 0 0), some (.int x1), some (.int x2)] [] μ (some (.int r), μ) := by
  unfold S_inOwn_4 at h
  refine V.iload_n F dX9_inOwn_4 rfl rfl ?_
  refine V.rload_n F dX9_inOwn_5 rfl rfl ?_
  refine gf_RX9_10 F dX9_inOwn_6 ?_
  refine gf_RX9_131 (by decide) F dX9_inOwn_9 ?_
  refine V.icmp_ge (tgt := 43) F dX9_inOwn_12 (by decide) (fun c1 => ?_) (fun c1 => ?_)
  · have h := f_out h c1
    refine V.iload_n F dX9_inOwn_43 rfl rfl ?_
    obtain rfl := r1_out h
    exact V.iret F dX9_inOwn_44
  · have h := t_out h c1
    refine V.rload_n F dX9_inOwn_15 rfl rfl ?_
    refine gf_RX9_10 F dX9_inOwn_16 ?_
    refine gf_RX9_112 (by decide) F dX9_inOwn_19 ?_
    refine V.iload_n F dX9_inOwn_22 rfl rfl ?_
    obtain ⟨c2, h⟩ := chk_out h
    refine V.aald (t0 := 2) (n := 6) 2 (ix x2) F (mA3 (by decide)) rfl rfl c2 rfl dX9_inOwn_23 ?_
    refine gf_RX9_137 (Nat.lt_of_lt_of_le (inb_lt c2) (by decide)) F dX9_inOwn_24 ?_
    refine V.iload_n F dX9_inOwn_27 rfl rfl ?_
    refine V.icmp_ne (tgt := 37) F dX9_inOwn_28 (by decide) (fun c3 => ?_) (fun c3 => ?_)
    · have h := f_out h c3
      exact S_inOwn_37_ok F hd hk4 h
    · have h := t_out h c3
      refine V.iload_n F dX9_inOwn_31 rfl rfl ?_
      refine V.iconst (v := 1) F dX9_inOwn_32 (by decide) ?_
      refine V.iload_n F dX9_inOwn_33 rfl rfl ?_
      refine V.ishl F dX9_inOwn_34 ?_
      refine V.ior F dX9_inOwn_35 ?_
      obtain ⟨a4, ea4, h⟩ := nm_out h
      refine V.istore_n (L' := [some (rf φ 0 0), some (.int a4), some (.int x2)]) F dX9_inOwn_36 rfl (by decide) rfl ea4 rfl ?_
      exact S_inOwn_37_ok F hd hk4 h
def S_inOwn_4L : Nat → Int32 → Int32 → Mem → Option Int32
  | 0 => fun _ _ _ => none
  | n + 1 => S_inOwn_4 (S_inOwn_4L n)
set_option maxHeartbeats 4000000 in
set_option maxRecDepth 100000 in
theorem S_inOwn_4L_ok {φ : Fr} {d : Nat} (F : Fx φ ΩA cX9_inOwn RX9 3 (some .int)) (hd : 1 ≤ d) : ∀ (n : Nat) (x1 : Int32) (x2 : Int32) (μ : Mem) (r : Int32), S_inOwn_4L n x1 x2 μ = some r → V φ ΩA 3 d 4 [some (rf φ 0 0), some (.int x1), some (.int x2)] [] μ (some (.int r), μ) := by
  intro n
  induction n with
  | zero => intro x1 x2 μ r h; cases h
  | succ n ih => intro x1 x2 μ r h; exact S_inOwn_4_ok F hd ih h
def S_inOwn (μ : Mem) : Option Int32 :=
  S_inOwn_4L 1000 0 0 μ
set_option maxHeartbeats 4000000 in
set_option maxRecDepth 100000 in
theorem S_inOwn_ok {φ : Fr} {d : Nat} (F : Fx φ ΩA cX9_inOwn RX9 3 (some .int)) (hd : 1 ≤ d) {μ : Mem} {r : Int32} (h : S_inOwn μ = some r) : V φ ΩA 3 d 0 [some (rf φ 0 0), none, none] [] μ (some (.int r), μ) := by
  unfold S_inOwn at h
  refine V.iconst (v := 0) F dX9_inOwn_0 (by decide) ?_
  refine V.istore_n (L' := [some (rf φ 0 0), some (.int 0), none]) F dX9_inOwn_1 rfl (by decide) rfl rfl rfl ?_
  refine V.iconst (v := 0) F dX9_inOwn_2 (by decide) ?_
  refine V.istore_n (L' := [some (rf φ 0 0), some (.int 0), some (.int 0)]) F dX9_inOwn_3 rfl (by decide) rfl rfl rfl ?_
  exact S_inOwn_4L_ok F hd 1000 _ _ _ _ h
set_option maxHeartbeats 4000000 in
set_option maxRecDepth 100000 in
theorem S_inOwn_ct {l : Launch} {G : Glo} {μ : Mem} {r : Int32} (h : S_inOwn μ = some r) : Ct l ΩA G 1 yX9_inOwn cX9_inOwn 3 (some .int) [.ref (G.1 0 0)] μ (some (.int r), μ) := by
  refine Ct.intro (by decide) (Nat.le_of_ble_eq_true rfl) ?_
  intro φ hl hG F
  subst hl; subst hG
  exact S_inOwn_ok F (Nat.le_refl _) h
def S_longestRing_4 (k4 : Int32 → Int32 → Mem → Option Int32) (x1 : Int32) (x2 : Int32) (μ : Mem) : Option Int32 :=
  if x2 < (rd μ 1 0 3) then (
    bnd (S_ringOf x2 μ) fun r3 =>
    nm (J_bitCount r3) fun r5 =>
    nm (imx x1 r5) fun a6 =>
    nm (x2 + 1) fun a7 =>
    k4 a6 a7 μ)
  else (
    some x1)
set_option maxHeartbeats 4000000 in
set_option maxRecDepth 100000 in
theorem S_longestRing_4_ok {φ : Fr} {d : Nat} (F : Fx φ ΩA cX9_longestRing RX9 3 (some .int)) (hd : 2 ≤ d) {k4 : Int32 → Int32 → Mem → Option Int32} (hk4 : ∀ (x1 : Int32) (x2 : Int32) (μ : Mem) (r : Int32), k4 x1 x2 μ = some r → V φ ΩA 3 d 4 [some (rf φ 0 0), some (.int x1), some (.int x2)] [] μ (some (.int r), μ)) {x1 : Int32} {x2 : Int32} {μ : Mem} {r : Int32} (h : S_longestRing_4 k4 x1 x2 μ = some r) : V φ ΩA 3 d 4 [some (rf φ 0 0), some (.int x1), some (.int x2)] [] μ (some (.int r), μ) := by
  unfold S_longestRing_4 at h
  refine V.iload_n F dX9_longestRing_4 rfl rfl ?_
  refine V.rload_n F dX9_longestRing_5 rfl rfl ?_
  refine gf_RX9_10 F dX9_longestRing_6 ?_
  refine gf_RX9_131 (by decide) F dX9_longestRing_9 ?_
  refine V.icmp_ge (tgt := 34) F dX9_longestRing_12 (by decide) (fun c1 => ?_) (fun c1 => ?_)
  · have h := f_out h c1
    refine V.iload_n F dX9_longestRing_34 rfl rfl ?_
    obtain rfl := r1_out h
    exact V.iret F dX9_longestRing_35
  · have h := t_out h c1
    refine V.iload_n F dX9_longestRing_15 rfl rfl ?_
    refine V.rload_n F dX9_longestRing_16 rfl rfl ?_
    refine V.iload_n F dX9_longestRing_17 rfl rfl ?_
    obtain ⟨r3, e2, h⟩ := bnd_out h
    refine V.callVi (f := 0) (i := 0) (As := [.int x2]) F ck_RX9_217 (S_ringOf_ct e2) (by omega) (by decide) rfl mA0 rfl rfl rfl (Nat.le_of_ble_eq_true rfl) dX9_longestRing_18 ?_
    obtain ⟨r5, e4, h⟩ := nm_out h
    refine V.callSi (As := [.int r3]) F ck_RX9_220 (J_bitCount_ct e4) (by omega) (by decide) rfl rfl (Nat.le_of_ble_eq_true rfl) dX9_longestRing_21 ?_
    refine V.mmax F ml_RX9_225 sw_mmax iw_Math cw_mmax (Nat.le_of_ble_eq_true rfl) dX9_longestRing_24 ?_
    obtain ⟨a6, ea6, h⟩ := nm_out h
    refine V.istore_n (L' := [some (rf φ 0 0), some (.int a6), some (.int x2)]) F dX9_longestRing_27 rfl (by decide) rfl ea6 rfl ?_
    obtain ⟨a7, ea7, h⟩ := nm_out h
    refine V.iinc (z := 1) (L' := [some (rf φ 0 0), some (.int a6), some (.int a7)]) F dX9_longestRing_28 rfl (by decide) ea7 (by decide) rfl rfl ?_
    refine V.goto (tgt := 4) F dX9_longestRing_31 (by decide) ?_
    exact hk4 _ _ _ _ h
def S_longestRing_4L : Nat → Int32 → Int32 → Mem → Option Int32
  | 0 => fun _ _ _ => none
  | n + 1 => S_longestRing_4 (S_longestRing_4L n)
set_option maxHeartbeats 4000000 in
set_option maxRecDepth 100000 in
theorem S_longestRing_4L_ok {φ : Fr} {d : Nat} (F : Fx φ ΩA cX9_longestRing RX9 3 (some .int)) (hd : 2 ≤ d) : ∀ (n : Nat) (x1 : Int32) (x2 : Int32) (μ : Mem) (r : Int32), S_longestRing_4L n x1 x2 μ = some r → V φ ΩA 3 d 4 [some (rf φ 0 0), some (.int x1), some (.int x2)] [] μ (some (.int r), μ) := by
  intro n
  induction n with
  | zero => intro x1 x2 μ r h; cases h
  | succ n ih => intro x1 x2 μ r h; exact S_longestRing_4_ok F hd ih h
def S_longestRing (μ : Mem) : Option Int32 :=
  S_longestRing_4L 1000 0 0 μ
set_option maxHeartbeats 4000000 in
set_option maxRecDepth 100000 in
theorem S_longestRing_ok {φ : Fr} {d : Nat} (F : Fx φ ΩA cX9_longestRing RX9 3 (some .int)) (hd : 2 ≤ d) {μ : Mem} {r : Int32} (h : S_longestRing μ = some r) : V φ ΩA 3 d 0 [some (rf φ 0 0), none, none] [] μ (some (.int r), μ) := by
  unfold S_longestRing at h
  refine V.iconst (v := 0) F dX9_longestRing_0 (by decide) ?_
  refine V.istore_n (L' := [some (rf φ 0 0), some (.int 0), none]) F dX9_longestRing_1 rfl (by decide) rfl rfl rfl ?_
  refine V.iconst (v := 0) F dX9_longestRing_2 (by decide) ?_
  refine V.istore_n (L' := [some (rf φ 0 0), some (.int 0), some (.int 0)]) F dX9_longestRing_3 rfl (by decide) rfl rfl rfl ?_
  exact S_longestRing_4L_ok F hd 1000 _ _ _ _ h
set_option maxHeartbeats 4000000 in
set_option maxRecDepth 100000 in
theorem S_longestRing_ct {l : Launch} {G : Glo} {μ : Mem} {r : Int32} (h : S_longestRing μ = some r) : Ct l ΩA G 2 yX9_longestRing cX9_longestRing 3 (some .int) [.ref (G.1 0 0)] μ (some (.int r), μ) := by
  refine Ct.intro (by decide) (Nat.le_of_ble_eq_true rfl) ?_
  intro φ hl hG F
  subst hl; subst hG
  exact S_longestRing_ok F (Nat.le_refl _) h
def S_ringCount_42 (k4 : Int32 → Int32 → Mem → Option Int32) (x1 : Int32) (x2 : Int32) (μ : Mem) : Option Int32 :=
  nm (x2 + 1) fun a1 =>
  k4 x1 a1 μ
set_option maxHeartbeats 4000000 in
set_option maxRecDepth 100000 in
theorem S_ringCount_42_ok {φ : Fr} {d : Nat} (F : Fx φ ΩA cX9_ringCount RX9 4 (some .int)) (hd : 2 ≤ d) {k4 : Int32 → Int32 → Mem → Option Int32} (hk4 : ∀ (x1 : Int32) (x2 : Int32) (μ : Mem) (r : Int32), k4 x1 x2 μ = some r → V φ ΩA 4 d 4 [some (rf φ 0 0), some (.int x1), some (.int x2), none] [] μ (some (.int r), μ)) {x1 : Int32} {x2 : Int32} {μ : Mem} {r : Int32} (h : S_ringCount_42 k4 x1 x2 μ = some r) : V φ ΩA 4 d 42 [some (rf φ 0 0), some (.int x1), some (.int x2), none] [] μ (some (.int r), μ) := by
  unfold S_ringCount_42 at h
  obtain ⟨a1, ea1, h⟩ := nm_out h
  refine V.iinc (z := 1) (L' := [some (rf φ 0 0), some (.int x1), some (.int a1), none]) F dX9_ringCount_42 rfl (by decide) ea1 (by decide) rfl rfl ?_
  refine V.goto (tgt := 4) F dX9_ringCount_45 (by decide) ?_
  exact hk4 _ _ _ _ h
def S_ringCount_34 (k4 : Int32 → Int32 → Mem → Option Int32) (x1 : Int32) (x2 : Int32) (y0 : Int32) (μ : Mem) : Option Int32 :=
  if y0 = 0 then (
    S_ringCount_42 k4 x1 x2 μ)
  else (
    nm (x1 + 1) fun a2 =>
    S_ringCount_42 k4 a2 x2 μ)
set_option maxHeartbeats 4000000 in
set_option maxRecDepth 100000 in
theorem S_ringCount_34_ok {φ : Fr} {d : Nat} (F : Fx φ ΩA cX9_ringCount RX9 4 (some .int)) (hd : 2 ≤ d) {k4 : Int32 → Int32 → Mem → Option Int32} (hk4 : ∀ (x1 : Int32) (x2 : Int32) (μ : Mem) (r : Int32), k4 x1 x2 μ = some r → V φ ΩA 4 d 4 [some (rf φ 0 0), some (.int x1), some (.int x2), none] [] μ (some (.int r), μ)) {x1 : Int32} {x2 : Int32} {y0 : Int32} {μ : Mem} {r : Int32} (h : S_ringCount_34 k4 x1 x2 y0 μ = some r) : V φ ΩA 4 d 34 [some (rf φ 0 0), some (.int x1), some (.int x2), none] [.int y0] μ (some (.int r), μ) := by
  unfold S_ringCount_34 at h
  refine V.istore_n (L' := [some (rf φ 0 0), some (.int x1), some (.int x2), some (.int y0)]) F dX9_ringCount_34 rfl (by decide) rfl rfl rfl ?_
  refine V.iload_n F dX9_ringCount_35 rfl rfl ?_
  refine V.if_eq (tgt := 42) F dX9_ringCount_36 (by decide) (fun c1 => ?_) (fun c1 => ?_)
  · have h := t_out h c1
    refine V.msk (L' := [some (rf φ 0 0), some (.int x1), some (.int x2), none]) [true, true, true, false] rfl ?_
    exact S_ringCount_42_ok F hd hk4 h
  · have h := f_out h c1
    obtain ⟨a2, ea2, h⟩ := nm_out h
    refine V.iinc (z := 1) (L' := [some (rf φ 0 0), some (.int a2), some (.int x2), some (.int y0)]) F dX9_ringCount_39 rfl (by decide) ea2 (by decide) rfl rfl ?_
    refine V.msk (L' := [some (rf φ 0 0), some (.int a2), some (.int x2), none]) [true, true, true, false] rfl ?_
    exact S_ringCount_42_ok F hd hk4 h
def S_ringCount_4 (k4 : Int32 → Int32 → Mem → Option Int32) (x1 : Int32) (x2 : Int32) (μ : Mem) : Option Int32 :=
  if x2 < (rd μ 1 0 3) then (
    bnd (S_ringOf x2 μ) fun r3 =>
    if (r3 &&& ((shl 1 x2) - 1)) = 0 then (
      S_ringCount_34 k4 x1 x2 1 μ)
    else (
      S_ringCount_34 k4 x1 x2 0 μ))
  else (
    some x1)
set_option maxHeartbeats 4000000 in
set_option maxRecDepth 100000 in
theorem S_ringCount_4_ok {φ : Fr} {d : Nat} (F : Fx φ ΩA cX9_ringCount RX9 4 (some .int)) (hd : 2 ≤ d) {k4 : Int32 → Int32 → Mem → Option Int32} (hk4 : ∀ (x1 : Int32) (x2 : Int32) (μ : Mem) (r : Int32), k4 x1 x2 μ = some r → V φ ΩA 4 d 4 [some (rf φ 0 0), some (.int x1), some (.int x2), none] [] μ (some (.int r), μ)) {x1 : Int32} {x2 : Int32} {μ : Mem} {r : Int32} (h : S_ringCount_4 k4 x1 x2 μ = some r) : V φ ΩA 4 d 4 [some (rf φ 0 0), some (.int x1), some (.int x2), none] [] μ (some (.int r), μ) := by
  unfold S_ringCount_4 at h
  refine V.iload_n F dX9_ringCount_4 rfl rfl ?_
  refine V.rload_n F dX9_ringCount_5 rfl rfl ?_
  refine gf_RX9_10 F dX9_ringCount_6 ?_
  refine gf_RX9_131 (by decide) F dX9_ringCount_9 ?_
  refine V.icmp_ge (tgt := 48) F dX9_ringCount_12 (by decide) (fun c1 => ?_) (fun c1 => ?_)
  · have h := f_out h c1
    refine V.iload_n F dX9_ringCount_48 rfl rfl ?_
    obtain rfl := r1_out h
    exact V.iret F dX9_ringCount_49
  · have h := t_out h c1
    refine V.rload_n F dX9_ringCount_15 rfl rfl ?_
    refine V.iload_n F dX9_ringCount_16 rfl rfl ?_
    obtain ⟨r3, e2, h⟩ := bnd_out h
    refine V.callVi (f := 0) (i := 0) (As := [.int x2]) F ck_RX9_217 (S_ringOf_ct e2) (by omega) (by decide) rfl mA0 rfl rfl rfl (Nat.le_of_ble_eq_true rfl) dX9_ringCount_17 ?_
    refine V.iconst (v := 1) F dX9_ringCount_20 (by decide) ?_
    refine V.iload_n F dX9_ringCount_21 rfl rfl ?_
    refine V.ishl F dX9_ringCount_22 ?_
    refine V.iconst (v := 1) F dX9_ringCount_23 (by decide) ?_
    refine V.isub F dX9_ringCount_24 ?_
    refine V.iand F dX9_ringCount_25 ?_
    refine V.if_ne (tgt := 33) F dX9_ringCount_26 (by decide) (fun c4 => ?_) (fun c4 => ?_)
    · have h := f_out h c4
      refine V.iconst (v := 0) F dX9_ringCount_33 (by decide) ?_
      exact S_ringCount_34_ok F hd hk4 h
    · have h := t_out h c4
      refine V.iconst (v := 1) F dX9_ringCount_29 (by decide) ?_
      refine V.goto (tgt := 34) F dX9_ringCount_30 (by decide) ?_
      exact S_ringCount_34_ok F hd hk4 h
def S_ringCount_4L : Nat → Int32 → Int32 → Mem → Option Int32
  | 0 => fun _ _ _ => none
  | n + 1 => S_ringCount_4 (S_ringCount_4L n)
set_option maxHeartbeats 4000000 in
set_option maxRecDepth 100000 in
theorem S_ringCount_4L_ok {φ : Fr} {d : Nat} (F : Fx φ ΩA cX9_ringCount RX9 4 (some .int)) (hd : 2 ≤ d) : ∀ (n : Nat) (x1 : Int32) (x2 : Int32) (μ : Mem) (r : Int32), S_ringCount_4L n x1 x2 μ = some r → V φ ΩA 4 d 4 [some (rf φ 0 0), some (.int x1), some (.int x2), none] [] μ (some (.int r), μ) := by
  intro n
  induction n with
  | zero => intro x1 x2 μ r h; cases h
  | succ n ih => intro x1 x2 μ r h; exact S_ringCount_4_ok F hd ih h
def S_ringCount (μ : Mem) : Option Int32 :=
  S_ringCount_4L 1000 0 0 μ
set_option maxHeartbeats 4000000 in
set_option maxRecDepth 100000 in
theorem S_ringCount_ok {φ : Fr} {d : Nat} (F : Fx φ ΩA cX9_ringCount RX9 4 (some .int)) (hd : 2 ≤ d) {μ : Mem} {r : Int32} (h : S_ringCount μ = some r) : V φ ΩA 4 d 0 [some (rf φ 0 0), none, none, none] [] μ (some (.int r), μ) := by
  unfold S_ringCount at h
  refine V.iconst (v := 0) F dX9_ringCount_0 (by decide) ?_
  refine V.istore_n (L' := [some (rf φ 0 0), some (.int 0), none, none]) F dX9_ringCount_1 rfl (by decide) rfl rfl rfl ?_
  refine V.iconst (v := 0) F dX9_ringCount_2 (by decide) ?_
  refine V.istore_n (L' := [some (rf φ 0 0), some (.int 0), some (.int 0), none]) F dX9_ringCount_3 rfl (by decide) rfl rfl rfl ?_
  exact S_ringCount_4L_ok F hd 1000 _ _ _ _ h
set_option maxHeartbeats 4000000 in
set_option maxRecDepth 100000 in
theorem S_ringCount_ct {l : Launch} {G : Glo} {μ : Mem} {r : Int32} (h : S_ringCount μ = some r) : Ct l ΩA G 2 yX9_ringCount cX9_ringCount 4 (some .int) [.ref (G.1 0 0)] μ (some (.int r), μ) := by
  refine Ct.intro (by decide) (Nat.le_of_ble_eq_true rfl) ?_
  intro φ hl hG F
  subst hl; subst hG
  exact S_ringCount_ok F (Nat.le_refl _) h
def S_rings (x1 : Int32) (μ : Mem) : Option Int32 :=
  if x1 = 0 then (
    bnd (S_ringCount μ) fun r3 =>
    some r3)
  else (
  if x1 = 1 then (
    bnd (S_longestRing μ) fun r6 =>
    some r6)
  else (
  if x1 = 2 then (
    bnd (S_ringCount μ) fun r9 =>
    some ((rd μ 1 0 3) - r9))
  else (
  if x1 = 3 then (
    bnd (S_firstChange μ) fun r12 =>
    some r12)
  else (
  if x1 = 4 then (
    bnd (S_inOwn μ) fun r15 =>
    some r15)
  else (
    some (-2))))))
set_option maxHeartbeats 4000000 in
set_option maxRecDepth 100000 in
theorem S_rings_ok {φ : Fr} {d : Nat} (F : Fx φ ΩA cX9_rings RX9 2 (some .int)) (hd : 3 ≤ d) {x1 : Int32} {μ : Mem} {r : Int32} (h : S_rings x1 μ = some r) : V φ ΩA 2 d 0 [some (rf φ 0 0), some (.int x1)] [] μ (some (.int r), μ) := by
  unfold S_rings at h
  refine V.iload_n F dX9_rings_0 rfl rfl ?_
  by_cases c1 : x1 = 0
  · have h := t_out h c1
    refine V.tabK (tgt := 36) (v := 0) F dX9_rings_1 (by rw [c1]; decide) (by decide) (by decide) rfl (by decide) ?_
    refine V.rload_n F dX9_rings_36 rfl rfl ?_
    obtain ⟨r3, e2, h⟩ := bnd_out h
    refine V.callVi (f := 0) (i := 0) (As := []) F ck_RX9_204 (S_ringCount_ct e2) (by omega) (by decide) rfl mA0 rfl rfl rfl (Nat.le_of_ble_eq_true rfl) dX9_rings_37 ?_
    obtain rfl := r1_out h
    exact V.iret F dX9_rings_40
  have h := f_out h c1
  by_cases c4 : x1 = 1
  · have h := t_out h c4
    refine V.tabK (tgt := 41) (v := 1) F dX9_rings_1 (by rw [c4]; decide) (by decide) (by decide) rfl (by decide) ?_
    refine V.rload_n F dX9_rings_41 rfl rfl ?_
    obtain ⟨r6, e5, h⟩ := bnd_out h
    refine V.callVi (f := 0) (i := 0) (As := []) F ck_RX9_208 (S_longestRing_ct e5) (by omega) (by decide) rfl mA0 rfl rfl rfl (Nat.le_of_ble_eq_true rfl) dX9_rings_42 ?_
    obtain rfl := r1_out h
    exact V.iret F dX9_rings_45
  have h := f_out h c4
  by_cases c7 : x1 = 2
  · have h := t_out h c7
    refine V.tabK (tgt := 46) (v := 2) F dX9_rings_1 (by rw [c7]; decide) (by decide) (by decide) rfl (by decide) ?_
    refine V.rload_n F dX9_rings_46 rfl rfl ?_
    refine gf_RX9_10 F dX9_rings_47 ?_
    refine gf_RX9_131 (by decide) F dX9_rings_50 ?_
    refine V.rload_n F dX9_rings_53 rfl rfl ?_
    obtain ⟨r9, e8, h⟩ := bnd_out h
    refine V.callVi (f := 0) (i := 0) (As := []) F ck_RX9_204 (S_ringCount_ct e8) (by omega) (by decide) rfl mA0 rfl rfl rfl (Nat.le_of_ble_eq_true rfl) dX9_rings_54 ?_
    refine V.isub F dX9_rings_57 ?_
    obtain rfl := r1_out h
    exact V.iret F dX9_rings_58
  have h := f_out h c7
  by_cases c10 : x1 = 3
  · have h := t_out h c10
    refine V.tabK (tgt := 59) (v := 3) F dX9_rings_1 (by rw [c10]; decide) (by decide) (by decide) rfl (by decide) ?_
    refine V.rload_n F dX9_rings_59 rfl rfl ?_
    obtain ⟨r12, e11, h⟩ := bnd_out h
    refine V.callVi (f := 0) (i := 0) (As := []) F ck_RX9_211 (S_firstChange_ct e11) (by omega) (by decide) rfl mA0 rfl rfl rfl (Nat.le_of_ble_eq_true rfl) dX9_rings_60 ?_
    obtain rfl := r1_out h
    exact V.iret F dX9_rings_63
  have h := f_out h c10
  by_cases c13 : x1 = 4
  · have h := t_out h c13
    refine V.tabK (tgt := 64) (v := 4) F dX9_rings_1 (by rw [c13]; decide) (by decide) (by decide) rfl (by decide) ?_
    refine V.rload_n F dX9_rings_64 rfl rfl ?_
    obtain ⟨r15, e14, h⟩ := bnd_out h
    refine V.callVi (f := 0) (i := 0) (As := []) F ck_RX9_214 (S_inOwn_ct e14) (by omega) (by decide) rfl mA0 rfl rfl rfl (Nat.le_of_ble_eq_true rfl) dX9_rings_65 ?_
    obtain rfl := r1_out h
    exact V.iret F dX9_rings_68
  have h := f_out h c13
  have K16 : V φ ΩA 2 d 69 [some (rf φ 0 0), some (.int x1)] [] μ (some (.int r), μ) := by
    refine V.bipush (v := (-2)) F dX9_rings_69 (by decide) ?_
    obtain rfl := r1_out h
    exact V.iret F dX9_rings_71
  exact V.tabOut (tgt := 69) F dX9_rings_1 (by have := lv_neT c1 (a := 0) (by decide); have := lv_neT c4 (a := 1) (by decide); have := lv_neT c7 (a := 2) (by decide); have := lv_neT c10 (a := 3) (by decide); have := lv_neT c13 (a := 4) (by decide); omega) (by decide) K16
set_option maxHeartbeats 4000000 in
set_option maxRecDepth 100000 in
theorem S_rings_ct {l : Launch} {G : Glo} {x1 : Int32} {μ : Mem} {r : Int32} (h : S_rings x1 μ = some r) : Ct l ΩA G 3 yX9_rings cX9_rings 2 (some .int) [.ref (G.1 0 0), .int x1] μ (some (.int r), μ) := by
  refine Ct.intro (by decide) (Nat.le_of_ble_eq_true rfl) ?_
  intro φ hl hG F
  subst hl; subst hG
  exact S_rings_ok F (Nat.le_refl _) h
def S_ring (x1 : Int32) (μ : Mem) : Option Int32 :=
  nm (S_isGroom x1 μ) fun r2 =>
  if r2 = 0 then (
    some (-2))
  else (
    bnd (S_ringOf x1 μ) fun r5 =>
    some r5)
set_option maxHeartbeats 4000000 in
set_option maxRecDepth 100000 in
theorem S_ring_ok {φ : Fr} {d : Nat} (F : Fx φ ΩA cX9_ring RX9 2 (some .int)) (hd : 2 ≤ d) {x1 : Int32} {μ : Mem} {r : Int32} (h : S_ring x1 μ = some r) : V φ ΩA 2 d 0 [some (rf φ 0 0), some (.int x1)] [] μ (some (.int r), μ) := by
  unfold S_ring at h
  refine V.rload_n F dX9_ring_0 rfl rfl ?_
  refine V.iload_n F dX9_ring_1 rfl rfl ?_
  obtain ⟨r2, e1, h⟩ := nm_out h
  refine V.callVi (f := 0) (i := 0) (As := [.int x1]) F ck_RX9_140 (S_isGroom_ct e1) (by omega) (by decide) rfl mA0 rfl rfl rfl (Nat.le_of_ble_eq_true rfl) dX9_ring_2 ?_
  refine V.if_eq (tgt := 16) F dX9_ring_5 (by decide) (fun c3 => ?_) (fun c3 => ?_)
  · have h := t_out h c3
    refine V.bipush (v := (-2)) F dX9_ring_16 (by decide) ?_
    obtain rfl := r1_out h
    exact V.iret F dX9_ring_18
  · have h := f_out h c3
    refine V.rload_n F dX9_ring_8 rfl rfl ?_
    refine V.iload_n F dX9_ring_9 rfl rfl ?_
    obtain ⟨r5, e4, h⟩ := bnd_out h
    refine V.callVi (f := 0) (i := 0) (As := [.int x1]) F ck_RX9_217 (S_ringOf_ct e4) (by omega) (by decide) rfl mA0 rfl rfl rfl (Nat.le_of_ble_eq_true rfl) dX9_ring_10 ?_
    refine V.goto (tgt := 18) F dX9_ring_13 (by decide) ?_
    obtain rfl := r1_out h
    exact V.iret F dX9_ring_18
set_option maxHeartbeats 4000000 in
set_option maxRecDepth 100000 in
theorem S_ring_ct {l : Launch} {G : Glo} {x1 : Int32} {μ : Mem} {r : Int32} (h : S_ring x1 μ = some r) : Ct l ΩA G 2 yX9_ring cX9_ring 2 (some .int) [.ref (G.1 0 0), .int x1] μ (some (.int r), μ) := by
  refine Ct.intro (by decide) (Nat.le_of_ble_eq_true rfl) ?_
  intro φ hl hG F
  subst hl; subst hG
  exact S_ring_ok F (Nat.le_refl _) h
def S_foreseeTempers_15 (k2 : Int32 → Int32 → Mem → Option Mem) (k15 : Int32 → Int32 → Int32 → Mem → Option Mem) (x1 : Int32) (x2 : Int32) (x3 : Int32) (μ : Mem) : Option Mem :=
  if x3 < (rd μ 1 0 3) then (
    bnd (S_seeIn x2 x3 μ) fun μ4 =>
    bnd (S_rule μ4) fun r6 =>
    chk (r6 < 6) <|
    bnd (Ma_lives r6 (rd μ4 1 0 1) x1 μ4) fun μ9 =>
    chk (inb x2 6) <|
    chk (inb x3 6) <|
    nm (up μ9 28 (ix x2) (ix x3) (rd μ9 18 0 3)) fun μ12 =>
    nm (x3 + 1) fun a13 =>
    k15 x1 x2 a13 μ12)
  else (
    nm (x2 + 1) fun a2 =>
    k2 x1 a2 μ)
set_option maxHeartbeats 4000000 in
set_option maxRecDepth 100000 in
theorem S_foreseeTempers_15_ok {φ : Fr} {d : Nat} (F : Fx φ ΩA cX9_foreseeTempers RX9 4 (none)) (hd : 6 ≤ d) {k2 : Int32 → Int32 → Mem → Option Mem} (hk2 : ∀ (x1 : Int32) (x2 : Int32) (μ : Mem)  (μ' : Mem), k2 x1 x2 μ = some μ' → V φ ΩA 4 d 2 [some (rf φ 0 0), some (.int x1), some (.int x2), none] [] μ (none, μ')) {k15 : Int32 → Int32 → Int32 → Mem → Option Mem} (hk15 : ∀ (x1 : Int32) (x2 : Int32) (x3 : Int32) (μ : Mem)  (μ' : Mem), k15 x1 x2 x3 μ = some μ' → V φ ΩA 4 d 15 [some (rf φ 0 0), some (.int x1), some (.int x2), some (.int x3)] [] μ (none, μ')) {x1 : Int32} {x2 : Int32} {x3 : Int32} {μ : Mem}  {μ' : Mem} (h : S_foreseeTempers_15 k2 k15 x1 x2 x3 μ = some μ') : V φ ΩA 4 d 15 [some (rf φ 0 0), some (.int x1), some (.int x2), some (.int x3)] [] μ (none, μ') := by
  unfold S_foreseeTempers_15 at h
  refine V.iload_n F dX9_foreseeTempers_15 rfl rfl ?_
  refine V.rload_n F dX9_foreseeTempers_16 rfl rfl ?_
  refine gf_RX9_10 F dX9_foreseeTempers_17 ?_
  refine gf_RX9_131 (by decide) F dX9_foreseeTempers_20 ?_
  refine V.icmp_ge (tgt := 72) F dX9_foreseeTempers_23 (by decide) (fun c1 => ?_) (fun c1 => ?_)
  · have h := f_out h c1
    obtain ⟨a2, ea2, h⟩ := nm_out h
    refine V.iinc (z := 1) (L' := [some (rf φ 0 0), some (.int x1), some (.int a2), some (.int x3)]) F dX9_foreseeTempers_72 rfl (by decide) ea2 (by decide) rfl rfl ?_
    refine V.goto (tgt := 2) F dX9_foreseeTempers_75 (by decide) ?_
    refine V.msk (L' := [some (rf φ 0 0), some (.int x1), some (.int a2), none]) [true, true, true, false] rfl ?_
    exact hk2 _ _ _ _ h
  · have h := t_out h c1
    refine V.rload_n F dX9_foreseeTempers_26 rfl rfl ?_
    refine V.iload_n F dX9_foreseeTempers_27 rfl rfl ?_
    refine V.iload_n F dX9_foreseeTempers_28 rfl rfl ?_
    obtain ⟨μ4, e3, h⟩ := bnd_out h
    refine V.callVv (f := 0) (i := 0) (As := [.int x2, .int x3]) F ck_RX9_179 (S_seeIn_ct e3) (by omega) (by decide) rfl mA0 rfl rfl rfl (Nat.le_of_ble_eq_true rfl) dX9_foreseeTempers_29 ?_
    refine V.rload_n F dX9_foreseeTempers_32 rfl rfl ?_
    refine gf_RX9_49 F dX9_foreseeTempers_33 ?_
    refine V.rload_n F dX9_foreseeTempers_36 rfl rfl ?_
    obtain ⟨r6, e5, h⟩ := bnd_out h
    refine V.callVr (f := 0) (i := 0) (As := []) 5 r6 F ck_RX9_154 (S_rule_ct e5) (by omega) (by decide) rfl mA0 rfl rfl rfl (Nat.le_of_ble_eq_true rfl) dX9_foreseeTempers_37 ?_
    obtain ⟨c7, h⟩ := chk_out h
    refine V.rload_n F dX9_foreseeTempers_40 rfl rfl ?_
    refine gf_RX9_10 F dX9_foreseeTempers_41 ?_
    refine gf_RX9_109 (by decide) F dX9_foreseeTempers_44 ?_
    refine V.iload_n F dX9_foreseeTempers_47 rfl rfl ?_
    obtain ⟨μ9, e8, h⟩ := bnd_out h
    refine V.callVv (f := 18) (i := 0) (As := [rf φ 5 r6, .int (rd μ4 1 0 1), .int x1]) F ck_RX9_194 (Ma_lives_ct c7 e8) (by omega) (by decide) rfl mA18 rfl rfl rfl (Nat.le_of_ble_eq_true rfl) dX9_foreseeTempers_48 ?_
    refine V.rload_n F dX9_foreseeTempers_51 rfl rfl ?_
    refine gf_RX9_69 F dX9_foreseeTempers_52 ?_
    refine V.iload_n F dX9_foreseeTempers_55 rfl rfl ?_
    obtain ⟨c10, h⟩ := chk_out h
    refine V.gald (t0 := 5) (n := 6) 28 (ix x2) F mA27 rfl rfl c10 rfl dX9_foreseeTempers_56 ?_
    refine V.iload_n F dX9_foreseeTempers_57 rfl rfl ?_
    refine V.rload_n F dX9_foreseeTempers_58 rfl rfl ?_
    refine gf_RX9_49 F dX9_foreseeTempers_59 ?_
    refine gf_RX9_170 F dX9_foreseeTempers_62 ?_
    obtain ⟨c11, h⟩ := chk_out h
    obtain ⟨μ12, eμ12, h⟩ := nm_out h
    refine V.iast (t0 := 0) (n := 6) F (mA28 (inb_lt c10)) (fun _ => rfl) rfl c11 eμ12 dX9_foreseeTempers_65 ?_
    obtain ⟨a13, ea13, h⟩ := nm_out h
    refine V.iinc (z := 1) (L' := [some (rf φ 0 0), some (.int x1), some (.int x2), some (.int a13)]) F dX9_foreseeTempers_66 rfl (by decide) ea13 (by decide) rfl rfl ?_
    refine V.goto (tgt := 15) F dX9_foreseeTempers_69 (by decide) ?_
    exact hk15 _ _ _ _ _ h
def S_foreseeTempers_15L (k2 : Int32 → Int32 → Mem → Option Mem) : Nat → Int32 → Int32 → Int32 → Mem → Option Mem
  | 0 => fun _ _ _ _ => none
  | n + 1 => S_foreseeTempers_15 k2 (S_foreseeTempers_15L k2 n)
set_option maxHeartbeats 4000000 in
set_option maxRecDepth 100000 in
theorem S_foreseeTempers_15L_ok {φ : Fr} {d : Nat} (F : Fx φ ΩA cX9_foreseeTempers RX9 4 (none)) (hd : 6 ≤ d) {k2 : Int32 → Int32 → Mem → Option Mem} (hk2 : ∀ (x1 : Int32) (x2 : Int32) (μ : Mem)  (μ' : Mem), k2 x1 x2 μ = some μ' → V φ ΩA 4 d 2 [some (rf φ 0 0), some (.int x1), some (.int x2), none] [] μ (none, μ')) : ∀ (n : Nat) (x1 : Int32) (x2 : Int32) (x3 : Int32) (μ : Mem)  (μ' : Mem), S_foreseeTempers_15L k2 n x1 x2 x3 μ = some μ' → V φ ΩA 4 d 15 [some (rf φ 0 0), some (.int x1), some (.int x2), some (.int x3)] [] μ (none, μ') := by
  intro n
  induction n with
  | zero => intro x1 x2 x3 μ μ' h; cases h
  | succ n ih => intro x1 x2 x3 μ μ' h; exact S_foreseeTempers_15_ok F hd hk2 ih h
def S_foreseeTempers_2 (k2 : Int32 → Int32 → Mem → Option Mem) (x1 : Int32) (x2 : Int32) (μ : Mem) : Option Mem :=
  if x2 < (rd μ 1 0 3) then (
    S_foreseeTempers_15L k2 1000 x1 x2 0 μ)
  else (
    some μ)
set_option maxHeartbeats 4000000 in
set_option maxRecDepth 100000 in
theorem S_foreseeTempers_2_ok {φ : Fr} {d : Nat} (F : Fx φ ΩA cX9_foreseeTempers RX9 4 (none)) (hd : 6 ≤ d) {k2 : Int32 → Int32 → Mem → Option Mem} (hk2 : ∀ (x1 : Int32) (x2 : Int32) (μ : Mem)  (μ' : Mem), k2 x1 x2 μ = some μ' → V φ ΩA 4 d 2 [some (rf φ 0 0), some (.int x1), some (.int x2), none] [] μ (none, μ')) {x1 : Int32} {x2 : Int32} {μ : Mem}  {μ' : Mem} (h : S_foreseeTempers_2 k2 x1 x2 μ = some μ') : V φ ΩA 4 d 2 [some (rf φ 0 0), some (.int x1), some (.int x2), none] [] μ (none, μ') := by
  unfold S_foreseeTempers_2 at h
  refine V.iload_n F dX9_foreseeTempers_2 rfl rfl ?_
  refine V.rload_n F dX9_foreseeTempers_3 rfl rfl ?_
  refine gf_RX9_10 F dX9_foreseeTempers_4 ?_
  refine gf_RX9_131 (by decide) F dX9_foreseeTempers_7 ?_
  refine V.icmp_ge (tgt := 78) F dX9_foreseeTempers_10 (by decide) (fun c1 => ?_) (fun c1 => ?_)
  · have h := f_out h c1
    obtain rfl := r1_out h
    exact V.vret F dX9_foreseeTempers_78
  · have h := t_out h c1
    refine V.iconst (v := 0) F dX9_foreseeTempers_13 (by decide) ?_
    refine V.istore_n (L' := [some (rf φ 0 0), some (.int x1), some (.int x2), some (.int 0)]) F dX9_foreseeTempers_14 rfl (by decide) rfl rfl rfl ?_
    exact S_foreseeTempers_15L_ok F hd hk2 1000 _ _ _ _ _ h
def S_foreseeTempers_2L : Nat → Int32 → Int32 → Mem → Option Mem
  | 0 => fun _ _ _ => none
  | n + 1 => S_foreseeTempers_2 (S_foreseeTempers_2L n)
set_option maxHeartbeats 4000000 in
set_option maxRecDepth 100000 in
theorem S_foreseeTempers_2L_ok {φ : Fr} {d : Nat} (F : Fx φ ΩA cX9_foreseeTempers RX9 4 (none)) (hd : 6 ≤ d) : ∀ (n : Nat) (x1 : Int32) (x2 : Int32) (μ : Mem)  (μ' : Mem), S_foreseeTempers_2L n x1 x2 μ = some μ' → V φ ΩA 4 d 2 [some (rf φ 0 0), some (.int x1), some (.int x2), none] [] μ (none, μ') := by
  intro n
  induction n with
  | zero => intro x1 x2 μ μ' h; cases h
  | succ n ih => intro x1 x2 μ μ' h; exact S_foreseeTempers_2_ok F hd ih h
def S_foreseeTempers (x1 : Int32) (μ : Mem) : Option Mem :=
  S_foreseeTempers_2L 1000 x1 0 μ
set_option maxHeartbeats 4000000 in
set_option maxRecDepth 100000 in
theorem S_foreseeTempers_ok {φ : Fr} {d : Nat} (F : Fx φ ΩA cX9_foreseeTempers RX9 4 (none)) (hd : 6 ≤ d) {x1 : Int32} {μ : Mem}  {μ' : Mem} (h : S_foreseeTempers x1 μ = some μ') : V φ ΩA 4 d 0 [some (rf φ 0 0), some (.int x1), none, none] [] μ (none, μ') := by
  unfold S_foreseeTempers at h
  refine V.iconst (v := 0) F dX9_foreseeTempers_0 (by decide) ?_
  refine V.istore_n (L' := [some (rf φ 0 0), some (.int x1), some (.int 0), none]) F dX9_foreseeTempers_1 rfl (by decide) rfl rfl rfl ?_
  exact S_foreseeTempers_2L_ok F hd 1000 _ _ _ _ h
set_option maxHeartbeats 4000000 in
set_option maxRecDepth 100000 in
theorem S_foreseeTempers_ct {l : Launch} {G : Glo} {x1 : Int32} {μ : Mem}  {μ' : Mem} (h : S_foreseeTempers x1 μ = some μ') : Ct l ΩA G 6 yX9_foreseeTempers cX9_foreseeTempers 4 (none) [.ref (G.1 0 0), .int x1] μ (none, μ') := by
  refine Ct.intro (by decide) (Nat.le_of_ble_eq_true rfl) ?_
  intro φ hl hG F
  subst hl; subst hG
  exact S_foreseeTempers_ok F (Nat.le_refl _) h
def S_warmerBy (x1 : Int32) (x2 : Int32) (μ : Mem) : Option Int32 :=
  chk (inb x1 6) <|
  nm (rd μ 2 (ix x1) 4) fun a2 =>
  chk (inb x2 6) <|
  nm (rd μ 2 (ix x2) 4) fun a4 =>
  chk (inb x1 6) <|
  chk (inb a4 6) <|
  chk (inb x2 6) <|
  chk (inb a2 6) <|
  chk (inb x1 6) <|
  chk (inb a2 6) <|
  chk (inb x2 6) <|
  chk (inb a4 6) <|
  some ((((rd μ 28 (ix x1) (ix a4)) + (rd μ 28 (ix x2) (ix a2))) - (rd μ 28 (ix x1) (ix a2))) - (rd μ 28 (ix x2) (ix a4)))
set_option maxHeartbeats 4000000 in
set_option maxRecDepth 100000 in
theorem S_warmerBy_ok {φ : Fr} {d : Nat} (F : Fx φ ΩA cX9_warmerBy RX9 5 (some .int)) (hd : 1 ≤ d) {x1 : Int32} {x2 : Int32} {μ : Mem} {r : Int32} (h : S_warmerBy x1 x2 μ = some r) : V φ ΩA 5 d 0 [some (rf φ 0 0), some (.int x1), some (.int x2), none, none] [] μ (some (.int r), μ) := by
  unfold S_warmerBy at h
  refine V.rload_n F dX9_warmerBy_0 rfl rfl ?_
  refine gf_RX9_10 F dX9_warmerBy_1 ?_
  refine gf_RX9_112 (by decide) F dX9_warmerBy_4 ?_
  refine V.iload_n F dX9_warmerBy_7 rfl rfl ?_
  obtain ⟨c1, h⟩ := chk_out h
  refine V.aald (t0 := 2) (n := 6) 2 (ix x1) F (mA3 (by decide)) rfl rfl c1 rfl dX9_warmerBy_8 ?_
  refine gf_RX9_137 (Nat.lt_of_lt_of_le (inb_lt c1) (by decide)) F dX9_warmerBy_9 ?_
  obtain ⟨a2, ea2, h⟩ := nm_out h
  refine V.istore_n (L' := [some (rf φ 0 0), some (.int x1), some (.int x2), some (.int a2), none]) F dX9_warmerBy_12 rfl (by decide) rfl ea2 rfl ?_
  refine V.rload_n F dX9_warmerBy_13 rfl rfl ?_
  refine gf_RX9_10 F dX9_warmerBy_14 ?_
  refine gf_RX9_112 (by decide) F dX9_warmerBy_17 ?_
  refine V.iload_n F dX9_warmerBy_20 rfl rfl ?_
  obtain ⟨c3, h⟩ := chk_out h
  refine V.aald (t0 := 2) (n := 6) 2 (ix x2) F (mA3 (by decide)) rfl rfl c3 rfl dX9_warmerBy_21 ?_
  refine gf_RX9_137 (Nat.lt_of_lt_of_le (inb_lt c3) (by decide)) F dX9_warmerBy_22 ?_
  obtain ⟨a4, ea4, h⟩ := nm_out h
  refine V.istore (L' := [some (rf φ 0 0), some (.int x1), some (.int x2), some (.int a2), some (.int a4)]) F dX9_warmerBy_25 (by decide) rfl ea4 rfl ?_
  refine V.rload_n F dX9_warmerBy_27 rfl rfl ?_
  refine gf_RX9_69 F dX9_warmerBy_28 ?_
  refine V.iload_n F dX9_warmerBy_31 rfl rfl ?_
  obtain ⟨c5, h⟩ := chk_out h
  refine V.gald (t0 := 5) (n := 6) 28 (ix x1) F mA27 rfl rfl c5 rfl dX9_warmerBy_32 ?_
  refine V.iload F dX9_warmerBy_33 rfl ?_
  obtain ⟨c6, h⟩ := chk_out h
  refine V.iald (t0 := 0) (n := 6) F (mA28 (inb_lt c5)) rfl rfl c6 dX9_warmerBy_35 ?_
  refine V.rload_n F dX9_warmerBy_36 rfl rfl ?_
  refine gf_RX9_69 F dX9_warmerBy_37 ?_
  refine V.iload_n F dX9_warmerBy_40 rfl rfl ?_
  obtain ⟨c7, h⟩ := chk_out h
  refine V.gald (t0 := 5) (n := 6) 28 (ix x2) F mA27 rfl rfl c7 rfl dX9_warmerBy_41 ?_
  refine V.iload_n F dX9_warmerBy_42 rfl rfl ?_
  obtain ⟨c8, h⟩ := chk_out h
  refine V.iald (t0 := 0) (n := 6) F (mA28 (inb_lt c7)) rfl rfl c8 dX9_warmerBy_43 ?_
  refine V.iadd F dX9_warmerBy_44 ?_
  refine V.rload_n F dX9_warmerBy_45 rfl rfl ?_
  refine gf_RX9_69 F dX9_warmerBy_46 ?_
  refine V.iload_n F dX9_warmerBy_49 rfl rfl ?_
  obtain ⟨c9, h⟩ := chk_out h
  refine V.gald (t0 := 5) (n := 6) 28 (ix x1) F mA27 rfl rfl c9 rfl dX9_warmerBy_50 ?_
  refine V.iload_n F dX9_warmerBy_51 rfl rfl ?_
  obtain ⟨c10, h⟩ := chk_out h
  refine V.iald (t0 := 0) (n := 6) F (mA28 (inb_lt c9)) rfl rfl c10 dX9_warmerBy_52 ?_
  refine V.isub F dX9_warmerBy_53 ?_
  refine V.rload_n F dX9_warmerBy_54 rfl rfl ?_
  refine gf_RX9_69 F dX9_warmerBy_55 ?_
  refine V.iload_n F dX9_warmerBy_58 rfl rfl ?_
  obtain ⟨c11, h⟩ := chk_out h
  refine V.gald (t0 := 5) (n := 6) 28 (ix x2) F mA27 rfl rfl c11 rfl dX9_warmerBy_59 ?_
  refine V.iload F dX9_warmerBy_60 rfl ?_
  obtain ⟨c12, h⟩ := chk_out h
  refine V.iald (t0 := 0) (n := 6) F (mA28 (inb_lt c11)) rfl rfl c12 dX9_warmerBy_62 ?_
  refine V.isub F dX9_warmerBy_63 ?_
  obtain rfl := r1_out h
  exact V.iret F dX9_warmerBy_64
set_option maxHeartbeats 4000000 in
set_option maxRecDepth 100000 in
theorem S_warmerBy_ct {l : Launch} {G : Glo} {x1 : Int32} {x2 : Int32} {μ : Mem} {r : Int32} (h : S_warmerBy x1 x2 μ = some r) : Ct l ΩA G 1 yX9_warmerBy cX9_warmerBy 5 (some .int) [.ref (G.1 0 0), .int x1, .int x2] μ (some (.int r), μ) := by
  refine Ct.intro (by decide) (Nat.le_of_ble_eq_true rfl) ?_
  intro φ hl hG F
  subst hl; subst hG
  exact S_warmerBy_ok F (Nat.le_refl _) h
def S_better_145 (k82 : Int32 → Int32 → Int32 → Int32 → Int32 → Mem → Option (Int32 × Mem)) (k100 : Int32 → Int32 → Int32 → Int32 → Int32 → Int32 → Mem → Option (Int32 × Mem)) (x2 : Int32) (x3 : Int32) (x4 : Int32) (x5 : Int32) (x6 : Int32) (x7 : Int32) (μ : Mem) : Option (Int32 × Mem) :=
  nm (x7 + 1) fun a1 =>
  k100 x2 x3 x4 x5 x6 a1 μ
set_option maxHeartbeats 4000000 in
set_option maxRecDepth 100000 in
theorem S_better_145_ok {φ : Fr} {d : Nat} (F : Fx φ ΩA cX9_better RX9 9 (some .int)) (hd : 7 ≤ d) {k82 : Int32 → Int32 → Int32 → Int32 → Int32 → Mem → Option (Int32 × Mem)} (hk82 : ∀ (x2 : Int32) (x3 : Int32) (x4 : Int32) (x5 : Int32) (x6 : Int32) (μ : Mem) (r : Int32) (μ' : Mem), k82 x2 x3 x4 x5 x6 μ = some (r, μ') → V φ ΩA 9 d 82 [some (rf φ 0 0), none, some (.int x2), some (.int x3), some (.int x4), some (.int x5), some (.int x6), none, none] [] μ (some (.int r), μ')) {k100 : Int32 → Int32 → Int32 → Int32 → Int32 → Int32 → Mem → Option (Int32 × Mem)} (hk100 : ∀ (x2 : Int32) (x3 : Int32) (x4 : Int32) (x5 : Int32) (x6 : Int32) (x7 : Int32) (μ : Mem) (r : Int32) (μ' : Mem), k100 x2 x3 x4 x5 x6 x7 μ = some (r, μ') → V φ ΩA 9 d 100 [some (rf φ 0 0), none, some (.int x2), some (.int x3), some (.int x4), some (.int x5), some (.int x6), some (.int x7), none] [] μ (some (.int r), μ')) {x2 : Int32} {x3 : Int32} {x4 : Int32} {x5 : Int32} {x6 : Int32} {x7 : Int32} {μ : Mem} {r : Int32} {μ' : Mem} (h : S_better_145 k82 k100 x2 x3 x4 x5 x6 x7 μ = some (r, μ')) : V φ ΩA 9 d 145 [some (rf φ 0 0), none, some (.int x2), some (.int x3), some (.int x4), some (.int x5), some (.int x6), some (.int x7), none] [] μ (some (.int r), μ') := by
  unfold S_better_145 at h
  obtain ⟨a1, ea1, h⟩ := nm_out h
  refine V.iinc (z := 1) (L' := [some (rf φ 0 0), none, some (.int x2), some (.int x3), some (.int x4), some (.int x5), some (.int x6), some (.int a1), none]) F dX9_better_145 rfl (by decide) ea1 (by decide) rfl rfl ?_
  refine V.goto (tgt := 100) F dX9_better_148 (by decide) ?_
  exact hk100 _ _ _ _ _ _ _ _ _ h
def S_better_100 (k82 : Int32 → Int32 → Int32 → Int32 → Int32 → Mem → Option (Int32 × Mem)) (k100 : Int32 → Int32 → Int32 → Int32 → Int32 → Int32 → Mem → Option (Int32 × Mem)) (x2 : Int32) (x3 : Int32) (x4 : Int32) (x5 : Int32) (x6 : Int32) (x7 : Int32) (μ : Mem) : Option (Int32 × Mem) :=
  if x7 < (rd μ 1 0 3) then (
    bnd (S_warmerBy x6 x7 μ) fun r4 =>
    nm (x3 + r4) fun a5 =>
    if a5 < x4 then (
      nm ((10 * x6) + x7) fun a7 =>
      S_better_145 k82 k100 x2 x3 a5 a7 x6 x7 μ)
    else (
      S_better_145 k82 k100 x2 x3 x4 x5 x6 x7 μ))
  else (
    nm (x6 + 1) fun a2 =>
    k82 x2 x3 x4 x5 a2 μ)
set_option maxHeartbeats 4000000 in
set_option maxRecDepth 100000 in
theorem S_better_100_ok {φ : Fr} {d : Nat} (F : Fx φ ΩA cX9_better RX9 9 (some .int)) (hd : 7 ≤ d) {k82 : Int32 → Int32 → Int32 → Int32 → Int32 → Mem → Option (Int32 × Mem)} (hk82 : ∀ (x2 : Int32) (x3 : Int32) (x4 : Int32) (x5 : Int32) (x6 : Int32) (μ : Mem) (r : Int32) (μ' : Mem), k82 x2 x3 x4 x5 x6 μ = some (r, μ') → V φ ΩA 9 d 82 [some (rf φ 0 0), none, some (.int x2), some (.int x3), some (.int x4), some (.int x5), some (.int x6), none, none] [] μ (some (.int r), μ')) {k100 : Int32 → Int32 → Int32 → Int32 → Int32 → Int32 → Mem → Option (Int32 × Mem)} (hk100 : ∀ (x2 : Int32) (x3 : Int32) (x4 : Int32) (x5 : Int32) (x6 : Int32) (x7 : Int32) (μ : Mem) (r : Int32) (μ' : Mem), k100 x2 x3 x4 x5 x6 x7 μ = some (r, μ') → V φ ΩA 9 d 100 [some (rf φ 0 0), none, some (.int x2), some (.int x3), some (.int x4), some (.int x5), some (.int x6), some (.int x7), none] [] μ (some (.int r), μ')) {x2 : Int32} {x3 : Int32} {x4 : Int32} {x5 : Int32} {x6 : Int32} {x7 : Int32} {μ : Mem} {r : Int32} {μ' : Mem} (h : S_better_100 k82 k100 x2 x3 x4 x5 x6 x7 μ = some (r, μ')) : V φ ΩA 9 d 100 [some (rf φ 0 0), none, some (.int x2), some (.int x3), some (.int x4), some (.int x5), some (.int x6), some (.int x7), none] [] μ (some (.int r), μ') := by
  unfold S_better_100 at h
  refine V.iload F dX9_better_100 rfl ?_
  refine V.rload_n F dX9_better_102 rfl rfl ?_
  refine gf_RX9_10 F dX9_better_103 ?_
  refine gf_RX9_131 (by decide) F dX9_better_106 ?_
  refine V.icmp_ge (tgt := 151) F dX9_better_109 (by decide) (fun c1 => ?_) (fun c1 => ?_)
  · have h := f_out h c1
    obtain ⟨a2, ea2, h⟩ := nm_out h
    refine V.iinc (z := 1) (L' := [some (rf φ 0 0), none, some (.int x2), some (.int x3), some (.int x4), some (.int x5), some (.int a2), some (.int x7), none]) F dX9_better_151 rfl (by decide) ea2 (by decide) rfl rfl ?_
    refine V.goto (tgt := 82) F dX9_better_154 (by decide) ?_
    refine V.msk (L' := [some (rf φ 0 0), none, some (.int x2), some (.int x3), some (.int x4), some (.int x5), some (.int a2), none, none]) [true, false, true, true, true, true, true, false, false] rfl ?_
    exact hk82 _ _ _ _ _ _ _ _ h
  · have h := t_out h c1
    refine V.iload_n F dX9_better_112 rfl rfl ?_
    refine V.rload_n F dX9_better_113 rfl rfl ?_
    refine V.iload F dX9_better_114 rfl ?_
    refine V.iload F dX9_better_116 rfl ?_
    obtain ⟨r4, e3, h⟩ := bnd_out h
    refine V.callVi (f := 0) (i := 0) (As := [.int x6, .int x7]) F ck_RX9_233 (S_warmerBy_ct e3) (by omega) (by decide) rfl mA0 rfl rfl rfl (Nat.le_of_ble_eq_true rfl) dX9_better_118 ?_
    refine V.iadd F dX9_better_121 ?_
    obtain ⟨a5, ea5, h⟩ := nm_out h
    refine V.istore (L' := [some (rf φ 0 0), none, some (.int x2), some (.int x3), some (.int x4), some (.int x5), some (.int x6), some (.int x7), some (.int a5)]) F dX9_better_122 (by decide) rfl ea5 rfl ?_
    refine V.iload F dX9_better_124 rfl ?_
    refine V.iload F dX9_better_126 rfl ?_
    refine V.icmp_ge (tgt := 145) F dX9_better_128 (by decide) (fun c6 => ?_) (fun c6 => ?_)
    · have h := f_out h c6
      refine V.msk (L' := [some (rf φ 0 0), none, some (.int x2), some (.int x3), some (.int x4), some (.int x5), some (.int x6), some (.int x7), none]) [true, false, true, true, true, true, true, true, false] rfl ?_
      exact S_better_145_ok F hd hk82 hk100 h
    · have h := t_out h c6
      refine V.iload F dX9_better_131 rfl ?_
      refine V.istore (L' := [some (rf φ 0 0), none, some (.int x2), some (.int x3), some (.int a5), some (.int x5), some (.int x6), some (.int x7), some (.int a5)]) F dX9_better_133 (by decide) rfl rfl rfl ?_
      refine V.bipush (v := 10) F dX9_better_135 (by decide) ?_
      refine V.iload F dX9_better_137 rfl ?_
      refine V.imul F dX9_better_139 ?_
      refine V.iload F dX9_better_140 rfl ?_
      refine V.iadd F dX9_better_142 ?_
      obtain ⟨a7, ea7, h⟩ := nm_out h
      refine V.istore (L' := [some (rf φ 0 0), none, some (.int x2), some (.int x3), some (.int a5), some (.int a7), some (.int x6), some (.int x7), some (.int a5)]) F dX9_better_143 (by decide) rfl ea7 rfl ?_
      refine V.msk (L' := [some (rf φ 0 0), none, some (.int x2), some (.int x3), some (.int a5), some (.int a7), some (.int x6), some (.int x7), none]) [true, false, true, true, true, true, true, true, false] rfl ?_
      exact S_better_145_ok F hd hk82 hk100 h
def S_better_100L (k82 : Int32 → Int32 → Int32 → Int32 → Int32 → Mem → Option (Int32 × Mem)) : Nat → Int32 → Int32 → Int32 → Int32 → Int32 → Int32 → Mem → Option (Int32 × Mem)
  | 0 => fun _ _ _ _ _ _ _ => none
  | n + 1 => S_better_100 k82 (S_better_100L k82 n)
set_option maxHeartbeats 4000000 in
set_option maxRecDepth 100000 in
theorem S_better_100L_ok {φ : Fr} {d : Nat} (F : Fx φ ΩA cX9_better RX9 9 (some .int)) (hd : 7 ≤ d) {k82 : Int32 → Int32 → Int32 → Int32 → Int32 → Mem → Option (Int32 × Mem)} (hk82 : ∀ (x2 : Int32) (x3 : Int32) (x4 : Int32) (x5 : Int32) (x6 : Int32) (μ : Mem) (r : Int32) (μ' : Mem), k82 x2 x3 x4 x5 x6 μ = some (r, μ') → V φ ΩA 9 d 82 [some (rf φ 0 0), none, some (.int x2), some (.int x3), some (.int x4), some (.int x5), some (.int x6), none, none] [] μ (some (.int r), μ')) : ∀ (n : Nat) (x2 : Int32) (x3 : Int32) (x4 : Int32) (x5 : Int32) (x6 : Int32) (x7 : Int32) (μ : Mem) (r : Int32) (μ' : Mem), S_better_100L k82 n x2 x3 x4 x5 x6 x7 μ = some (r, μ') → V φ ΩA 9 d 100 [some (rf φ 0 0), none, some (.int x2), some (.int x3), some (.int x4), some (.int x5), some (.int x6), some (.int x7), none] [] μ (some (.int r), μ') := by
  intro n
  induction n with
  | zero => intro x2 x3 x4 x5 x6 x7 μ r μ' h; cases h
  | succ n ih => intro x2 x3 x4 x5 x6 x7 μ r μ' h; exact S_better_100_ok F hd hk82 ih h
def S_better_82 (k82 : Int32 → Int32 → Int32 → Int32 → Int32 → Mem → Option (Int32 × Mem)) (x2 : Int32) (x3 : Int32) (x4 : Int32) (x5 : Int32) (x6 : Int32) (μ : Mem) : Option (Int32 × Mem) :=
  if x6 < (rd μ 1 0 3) then (
    nm (x6 + 1) fun a3 =>
    S_better_100L k82 1000 x2 x3 x4 x5 x6 a3 μ)
  else (
    if x2 = 0 then (
      some (x5, μ))
    else (
      some (x4, μ)))
set_option maxHeartbeats 4000000 in
set_option maxRecDepth 100000 in
theorem S_better_82_ok {φ : Fr} {d : Nat} (F : Fx φ ΩA cX9_better RX9 9 (some .int)) (hd : 7 ≤ d) {k82 : Int32 → Int32 → Int32 → Int32 → Int32 → Mem → Option (Int32 × Mem)} (hk82 : ∀ (x2 : Int32) (x3 : Int32) (x4 : Int32) (x5 : Int32) (x6 : Int32) (μ : Mem) (r : Int32) (μ' : Mem), k82 x2 x3 x4 x5 x6 μ = some (r, μ') → V φ ΩA 9 d 82 [some (rf φ 0 0), none, some (.int x2), some (.int x3), some (.int x4), some (.int x5), some (.int x6), none, none] [] μ (some (.int r), μ')) {x2 : Int32} {x3 : Int32} {x4 : Int32} {x5 : Int32} {x6 : Int32} {μ : Mem} {r : Int32} {μ' : Mem} (h : S_better_82 k82 x2 x3 x4 x5 x6 μ = some (r, μ')) : V φ ΩA 9 d 82 [some (rf φ 0 0), none, some (.int x2), some (.int x3), some (.int x4), some (.int x5), some (.int x6), none, none] [] μ (some (.int r), μ') := by
  unfold S_better_82 at h
  refine V.iload F dX9_better_82 rfl ?_
  refine V.rload_n F dX9_better_84 rfl rfl ?_
  refine gf_RX9_10 F dX9_better_85 ?_
  refine gf_RX9_131 (by decide) F dX9_better_88 ?_
  refine V.icmp_ge (tgt := 157) F dX9_better_91 (by decide) (fun c1 => ?_) (fun c1 => ?_)
  · have h := f_out h c1
    refine V.iload_n F dX9_better_157 rfl rfl ?_
    refine V.if_ne (tgt := 166) F dX9_better_158 (by decide) (fun c2 => ?_) (fun c2 => ?_)
    · have h := f_out h c2
      refine V.iload F dX9_better_166 rfl ?_
      obtain ⟨rfl, rfl⟩ := r2_out h
      exact V.iret F dX9_better_168
    · have h := t_out h c2
      refine V.iload F dX9_better_161 rfl ?_
      refine V.goto (tgt := 168) F dX9_better_163 (by decide) ?_
      obtain ⟨rfl, rfl⟩ := r2_out h
      exact V.iret F dX9_better_168
  · have h := t_out h c1
    refine V.iload F dX9_better_94 rfl ?_
    refine V.iconst (v := 1) F dX9_better_96 (by decide) ?_
    refine V.iadd F dX9_better_97 ?_
    obtain ⟨a3, ea3, h⟩ := nm_out h
    refine V.istore (L' := [some (rf φ 0 0), none, some (.int x2), some (.int x3), some (.int x4), some (.int x5), some (.int x6), some (.int a3), none]) F dX9_better_98 (by decide) rfl ea3 rfl ?_
    exact S_better_100L_ok F hd hk82 1000 _ _ _ _ _ _ _ _ _ h
def S_better_82L : Nat → Int32 → Int32 → Int32 → Int32 → Int32 → Mem → Option (Int32 × Mem)
  | 0 => fun _ _ _ _ _ _ => none
  | n + 1 => S_better_82 (S_better_82L n)
set_option maxHeartbeats 4000000 in
set_option maxRecDepth 100000 in
theorem S_better_82L_ok {φ : Fr} {d : Nat} (F : Fx φ ΩA cX9_better RX9 9 (some .int)) (hd : 7 ≤ d) : ∀ (n : Nat) (x2 : Int32) (x3 : Int32) (x4 : Int32) (x5 : Int32) (x6 : Int32) (μ : Mem) (r : Int32) (μ' : Mem), S_better_82L n x2 x3 x4 x5 x6 μ = some (r, μ') → V φ ΩA 9 d 82 [some (rf φ 0 0), none, some (.int x2), some (.int x3), some (.int x4), some (.int x5), some (.int x6), none, none] [] μ (some (.int r), μ') := by
  intro n
  induction n with
  | zero => intro x2 x3 x4 x5 x6 μ r μ' h; cases h
  | succ n ih => intro x2 x3 x4 x5 x6 μ r μ' h; exact S_better_82_ok F hd ih h
def S_better_31 (k31 : Int32 → Int32 → Int32 → Mem → Option (Int32 × Mem)) (x2 : Int32) (x3 : Int32) (x4 : Int32) (μ : Mem) : Option (Int32 × Mem) :=
  if x4 < (rd μ 1 0 3) then (
    chk (inb x4 6) <|
    chk (inb x4 6) <|
    chk (inb (rd μ 2 (ix x4) 4) 6) <|
    nm (x3 + (rd μ 28 (ix x4) (ix (rd μ 2 (ix x4) 4)))) fun a5 =>
    nm (x4 + 1) fun a6 =>
    k31 x2 a5 a6 μ)
  else (
    S_better_82L 1000 x2 x3 x3 (-1) 0 μ)
set_option maxHeartbeats 4000000 in
set_option maxRecDepth 100000 in
theorem S_better_31_ok {φ : Fr} {d : Nat} (F : Fx φ ΩA cX9_better RX9 9 (some .int)) (hd : 7 ≤ d) {k31 : Int32 → Int32 → Int32 → Mem → Option (Int32 × Mem)} (hk31 : ∀ (x2 : Int32) (x3 : Int32) (x4 : Int32) (μ : Mem) (r : Int32) (μ' : Mem), k31 x2 x3 x4 μ = some (r, μ') → V φ ΩA 9 d 31 [some (rf φ 0 0), none, some (.int x2), some (.int x3), some (.int x4), none, none, none, none] [] μ (some (.int r), μ')) {x2 : Int32} {x3 : Int32} {x4 : Int32} {μ : Mem} {r : Int32} {μ' : Mem} (h : S_better_31 k31 x2 x3 x4 μ = some (r, μ')) : V φ ΩA 9 d 31 [some (rf φ 0 0), none, some (.int x2), some (.int x3), some (.int x4), none, none, none, none] [] μ (some (.int r), μ') := by
  unfold S_better_31 at h
  refine V.iload F dX9_better_31 rfl ?_
  refine V.rload_n F dX9_better_33 rfl rfl ?_
  refine gf_RX9_10 F dX9_better_34 ?_
  refine gf_RX9_131 (by decide) F dX9_better_37 ?_
  refine V.icmp_ge (tgt := 73) F dX9_better_40 (by decide) (fun c1 => ?_) (fun c1 => ?_)
  · have h := f_out h c1
    refine V.iload_n F dX9_better_73 rfl rfl ?_
    refine V.istore (L' := [some (rf φ 0 0), none, some (.int x2), some (.int x3), some (.int x3), none, none, none, none]) F dX9_better_74 (by decide) rfl rfl rfl ?_
    refine V.iconst (v := (-1)) F dX9_better_76 (by decide) ?_
    refine V.istore (L' := [some (rf φ 0 0), none, some (.int x2), some (.int x3), some (.int x3), some (.int (-1)), none, none, none]) F dX9_better_77 (by decide) rfl rfl rfl ?_
    refine V.iconst (v := 0) F dX9_better_79 (by decide) ?_
    refine V.istore (L' := [some (rf φ 0 0), none, some (.int x2), some (.int x3), some (.int x3), some (.int (-1)), some (.int 0), none, none]) F dX9_better_80 (by decide) rfl rfl rfl ?_
    exact S_better_82L_ok F hd 1000 _ _ _ _ _ _ _ _ h
  · have h := t_out h c1
    refine V.iload_n F dX9_better_43 rfl rfl ?_
    refine V.rload_n F dX9_better_44 rfl rfl ?_
    refine gf_RX9_69 F dX9_better_45 ?_
    refine V.iload F dX9_better_48 rfl ?_
    obtain ⟨c2, h⟩ := chk_out h
    refine V.gald (t0 := 5) (n := 6) 28 (ix x4) F mA27 rfl rfl c2 rfl dX9_better_50 ?_
    refine V.rload_n F dX9_better_51 rfl rfl ?_
    refine gf_RX9_10 F dX9_better_52 ?_
    refine gf_RX9_112 (by decide) F dX9_better_55 ?_
    refine V.iload F dX9_better_58 rfl ?_
    obtain ⟨c3, h⟩ := chk_out h
    refine V.aald (t0 := 2) (n := 6) 2 (ix x4) F (mA3 (by decide)) rfl rfl c3 rfl dX9_better_60 ?_
    refine gf_RX9_137 (Nat.lt_of_lt_of_le (inb_lt c3) (by decide)) F dX9_better_61 ?_
    obtain ⟨c4, h⟩ := chk_out h
    refine V.iald (t0 := 0) (n := 6) F (mA28 (inb_lt c2)) rfl rfl c4 dX9_better_64 ?_
    refine V.iadd F dX9_better_65 ?_
    obtain ⟨a5, ea5, h⟩ := nm_out h
    refine V.istore_n (L' := [some (rf φ 0 0), none, some (.int x2), some (.int a5), some (.int x4), none, none, none, none]) F dX9_better_66 rfl (by decide) rfl ea5 rfl ?_
    obtain ⟨a6, ea6, h⟩ := nm_out h
    refine V.iinc (z := 1) (L' := [some (rf φ 0 0), none, some (.int x2), some (.int a5), some (.int a6), none, none, none, none]) F dX9_better_67 rfl (by decide) ea6 (by decide) rfl rfl ?_
    refine V.goto (tgt := 31) F dX9_better_70 (by decide) ?_
    exact hk31 _ _ _ _ _ _ h
def S_better_31L : Nat → Int32 → Int32 → Int32 → Mem → Option (Int32 × Mem)
  | 0 => fun _ _ _ _ => none
  | n + 1 => S_better_31 (S_better_31L n)
set_option maxHeartbeats 4000000 in
set_option maxRecDepth 100000 in
theorem S_better_31L_ok {φ : Fr} {d : Nat} (F : Fx φ ΩA cX9_better RX9 9 (some .int)) (hd : 7 ≤ d) : ∀ (n : Nat) (x2 : Int32) (x3 : Int32) (x4 : Int32) (μ : Mem) (r : Int32) (μ' : Mem), S_better_31L n x2 x3 x4 μ = some (r, μ') → V φ ΩA 9 d 31 [some (rf φ 0 0), none, some (.int x2), some (.int x3), some (.int x4), none, none, none, none] [] μ (some (.int r), μ') := by
  intro n
  induction n with
  | zero => intro x2 x3 x4 μ r μ' h; cases h
  | succ n ih => intro x2 x3 x4 μ r μ' h; exact S_better_31_ok F hd ih h
def S_better_21 (x1 : Int32) (x2 : Int32) (μ : Mem) : Option (Int32 × Mem) :=
  bnd (S_foreseeTempers x1 μ) fun μ2 =>
  S_better_31L 1000 x2 0 0 μ2
set_option maxHeartbeats 4000000 in
set_option maxRecDepth 100000 in
theorem S_better_21_ok {φ : Fr} {d : Nat} (F : Fx φ ΩA cX9_better RX9 9 (some .int)) (hd : 7 ≤ d) {x1 : Int32} {x2 : Int32} {μ : Mem} {r : Int32} {μ' : Mem} (h : S_better_21 x1 x2 μ = some (r, μ')) : V φ ΩA 9 d 21 [some (rf φ 0 0), some (.int x1), some (.int x2), none, none, none, none, none, none] [] μ (some (.int r), μ') := by
  unfold S_better_21 at h
  refine V.rload_n F dX9_better_21 rfl rfl ?_
  refine V.iload_n F dX9_better_22 rfl rfl ?_
  obtain ⟨μ2, e1, h⟩ := bnd_out h
  refine V.callVv (f := 0) (i := 0) (As := [.int x1]) F ck_RX9_230 (S_foreseeTempers_ct e1) (by omega) (by decide) rfl mA0 rfl rfl rfl (Nat.le_of_ble_eq_true rfl) dX9_better_23 ?_
  refine V.iconst (v := 0) F dX9_better_26 (by decide) ?_
  refine V.istore_n (L' := [some (rf φ 0 0), some (.int x1), some (.int x2), some (.int 0), none, none, none, none, none]) F dX9_better_27 rfl (by decide) rfl rfl rfl ?_
  refine V.iconst (v := 0) F dX9_better_28 (by decide) ?_
  refine V.istore (L' := [some (rf φ 0 0), some (.int x1), some (.int x2), some (.int 0), some (.int 0), none, none, none, none]) F dX9_better_29 (by decide) rfl rfl rfl ?_
  refine V.msk (L' := [some (rf φ 0 0), none, some (.int x2), some (.int 0), some (.int 0), none, none, none, none]) [true, false, true, true, true, false, false, false, false] rfl ?_
  exact S_better_31L_ok F hd 1000 _ _ _ _ _ _ h
def S_better (x1 : Int32) (x2 : Int32) (μ : Mem) : Option (Int32 × Mem) :=
  nm (S_isDays x1 40) fun r2 =>
  if r2 = 0 then (
    some ((-2), μ))
  else (
    if x2 = 0 then (
      S_better_21 x1 x2 μ)
    else (
      if x2 = 1 then (
        S_better_21 x1 x2 μ)
      else (
        some ((-2), μ))))
set_option maxHeartbeats 4000000 in
set_option maxRecDepth 100000 in
theorem S_better_ok {φ : Fr} {d : Nat} (F : Fx φ ΩA cX9_better RX9 9 (some .int)) (hd : 7 ≤ d) {x1 : Int32} {x2 : Int32} {μ : Mem} {r : Int32} {μ' : Mem} (h : S_better x1 x2 μ = some (r, μ')) : V φ ΩA 9 d 0 [some (rf φ 0 0), some (.int x1), some (.int x2), none, none, none, none, none, none] [] μ (some (.int r), μ') := by
  unfold S_better at h
  refine V.iload_n F dX9_better_0 rfl rfl ?_
  refine V.bipush (v := 40) F dX9_better_1 (by decide) ?_
  obtain ⟨r2, e1, h⟩ := nm_out h
  refine V.callSi (As := [.int x1, .int 40]) F ck_RX9_191 (S_isDays_ct e1) (by omega) (by decide) rfl rfl (Nat.le_of_ble_eq_true rfl) dX9_better_3 ?_
  refine V.if_eq (tgt := 18) F dX9_better_6 (by decide) (fun c3 => ?_) (fun c3 => ?_)
  · have h := t_out h c3
    refine V.bipush (v := (-2)) F dX9_better_18 (by decide) ?_
    obtain ⟨rfl, rfl⟩ := r2_out h
    exact V.iret F dX9_better_20
  · have h := f_out h c3
    refine V.iload_n F dX9_better_9 rfl rfl ?_
    refine V.if_eq (tgt := 21) F dX9_better_10 (by decide) (fun c4 => ?_) (fun c4 => ?_)
    · have h := t_out h c4
      exact S_better_21_ok F hd h
    · have h := f_out h c4
      refine V.iload_n F dX9_better_13 rfl rfl ?_
      refine V.iconst (v := 1) F dX9_better_14 (by decide) ?_
      refine V.icmp_eq (tgt := 21) F dX9_better_15 (by decide) (fun c5 => ?_) (fun c5 => ?_)
      · have h := t_out h c5
        exact S_better_21_ok F hd h
      · have h := f_out h c5
        refine V.bipush (v := (-2)) F dX9_better_18 (by decide) ?_
        obtain ⟨rfl, rfl⟩ := r2_out h
        exact V.iret F dX9_better_20
set_option maxHeartbeats 4000000 in
set_option maxRecDepth 100000 in
theorem S_better_ct {l : Launch} {G : Glo} {x1 : Int32} {x2 : Int32} {μ : Mem} {r : Int32} {μ' : Mem} (h : S_better x1 x2 μ = some (r, μ')) : Ct l ΩA G 7 yX9_better cX9_better 9 (some .int) [.ref (G.1 0 0), .int x1, .int x2] μ (some (.int r), μ') := by
  refine Ct.intro (by decide) (Nat.le_of_ble_eq_true rfl) ?_
  intro φ hl hG F
  subst hl; subst hG
  exact S_better_ok F (Nat.le_refl _) h
def S_best_130 (k48 : Int32 → Int32 → Int32 → Int32 → Mem → Option (Int32 × Mem)) (x2 : Int32) (x3 : Int32) (x4 : Int32) (x5 : Int32) (μ : Mem) : Option (Int32 × Mem) :=
  bnd (Wa_step μ) fun μ2 =>
  nm (x5 + 1) fun a3 =>
  k48 x2 x3 x4 a3 μ2
set_option maxHeartbeats 4000000 in
set_option maxRecDepth 100000 in
theorem S_best_130_ok {φ : Fr} {d : Nat} (F : Fx φ ΩA cX9_best RX9 8 (some .int)) (hd : 7 ≤ d) {k48 : Int32 → Int32 → Int32 → Int32 → Mem → Option (Int32 × Mem)} (hk48 : ∀ (x2 : Int32) (x3 : Int32) (x4 : Int32) (x5 : Int32) (μ : Mem) (r : Int32) (μ' : Mem), k48 x2 x3 x4 x5 μ = some (r, μ') → V φ ΩA 8 d 48 [some (rf φ 0 0), none, some (.int x2), some (.int x3), some (.int x4), some (.int x5), none, none] [] μ (some (.int r), μ')) {x2 : Int32} {x3 : Int32} {x4 : Int32} {x5 : Int32} {μ : Mem} {r : Int32} {μ' : Mem} (h : S_best_130 k48 x2 x3 x4 x5 μ = some (r, μ')) : V φ ΩA 8 d 130 [some (rf φ 0 0), none, some (.int x2), some (.int x3), some (.int x4), some (.int x5), none, none] [] μ (some (.int r), μ') := by
  unfold S_best_130 at h
  refine V.rload_n F dX9_best_130 rfl rfl ?_
  refine gf_RX9_56 F dX9_best_131 ?_
  obtain ⟨μ2, e1, h⟩ := bnd_out h
  refine V.callVv (f := 20) (i := 0) (As := []) F ck_RX9_248 (Wa_step_ct e1) (by omega) (by decide) rfl mA20 rfl rfl rfl (Nat.le_of_ble_eq_true rfl) dX9_best_134 ?_
  obtain ⟨a3, ea3, h⟩ := nm_out h
  refine V.iinc (z := 1) (L' := [some (rf φ 0 0), none, some (.int x2), some (.int x3), some (.int x4), some (.int a3), none, none]) F dX9_best_137 rfl (by decide) ea3 (by decide) rfl rfl ?_
  refine V.goto (tgt := 48) F dX9_best_140 (by decide) ?_
  exact hk48 _ _ _ _ _ _ _ h
def S_best_118 (k48 : Int32 → Int32 → Int32 → Int32 → Mem → Option (Int32 × Mem)) (x2 : Int32) (x5 : Int32) (x6 : Int32) (μ : Mem) : Option (Int32 × Mem) :=
  bnd (Wa_digits μ) fun r2 =>
  S_best_130 k48 x2 x6 r2 x5 μ
set_option maxHeartbeats 4000000 in
set_option maxRecDepth 100000 in
theorem S_best_118_ok {φ : Fr} {d : Nat} (F : Fx φ ΩA cX9_best RX9 8 (some .int)) (hd : 7 ≤ d) {k48 : Int32 → Int32 → Int32 → Int32 → Mem → Option (Int32 × Mem)} (hk48 : ∀ (x2 : Int32) (x3 : Int32) (x4 : Int32) (x5 : Int32) (μ : Mem) (r : Int32) (μ' : Mem), k48 x2 x3 x4 x5 μ = some (r, μ') → V φ ΩA 8 d 48 [some (rf φ 0 0), none, some (.int x2), some (.int x3), some (.int x4), some (.int x5), none, none] [] μ (some (.int r), μ')) {x2 : Int32} {x5 : Int32} {x6 : Int32} {μ : Mem} {r : Int32} {μ' : Mem} (h : S_best_118 k48 x2 x5 x6 μ = some (r, μ')) : V φ ΩA 8 d 118 [some (rf φ 0 0), none, some (.int x2), none, none, some (.int x5), some (.int x6), none] [] μ (some (.int r), μ') := by
  unfold S_best_118 at h
  refine V.iload F dX9_best_118 rfl ?_
  refine V.istore_n (L' := [some (rf φ 0 0), none, some (.int x2), some (.int x6), none, some (.int x5), some (.int x6), none]) F dX9_best_120 rfl (by decide) rfl rfl rfl ?_
  refine V.rload_n F dX9_best_121 rfl rfl ?_
  refine gf_RX9_56 F dX9_best_122 ?_
  obtain ⟨r2, e1, h⟩ := bnd_out h
  refine V.callVi (f := 20) (i := 0) (As := []) F ck_RX9_245 (Wa_digits_ct e1) (by omega) (by decide) rfl mA20 rfl rfl rfl (Nat.le_of_ble_eq_true rfl) dX9_best_125 ?_
  refine V.istore (L' := [some (rf φ 0 0), none, some (.int x2), some (.int x6), some (.int r2), some (.int x5), some (.int x6), none]) F dX9_best_128 (by decide) rfl rfl rfl ?_
  refine V.msk (L' := [some (rf φ 0 0), none, some (.int x2), some (.int x6), some (.int r2), some (.int x5), none, none]) [true, false, true, true, true, true, false, false] rfl ?_
  exact S_best_130_ok F hd hk48 h
def S_best_66 (k48 : Int32 → Int32 → Int32 → Int32 → Mem → Option (Int32 × Mem)) (k66 : Int32 → Int32 → Int32 → Int32 → Int32 → Int32 → Mem → Option (Int32 × Mem)) (x2 : Int32) (x3 : Int32) (x4 : Int32) (x5 : Int32) (x6 : Int32) (x7 : Int32) (μ : Mem) : Option (Int32 × Mem) :=
  if x7 < (rd μ 1 0 3) then (
    chk (inb x7 6) <|
    chk (inb x7 6) <|
    chk (inb (rd μ 21 0 (ix x7)) 6) <|
    nm (x6 + (rd μ 28 (ix x7) (ix (rd μ 21 0 (ix x7))))) fun a7 =>
    nm (x7 + 1) fun a8 =>
    k66 x2 x3 x4 x5 a7 a8 μ)
  else (
    if x5 = 0 then (
      S_best_118 k48 x2 x5 x6 μ)
    else (
      if x6 < x3 then (
        S_best_118 k48 x2 x5 x6 μ)
      else (
        S_best_130 k48 x2 x3 x4 x5 μ)))
set_option maxHeartbeats 4000000 in
set_option maxRecDepth 100000 in
theorem S_best_66_ok {φ : Fr} {d : Nat} (F : Fx φ ΩA cX9_best RX9 8 (some .int)) (hd : 7 ≤ d) {k48 : Int32 → Int32 → Int32 → Int32 → Mem → Option (Int32 × Mem)} (hk48 : ∀ (x2 : Int32) (x3 : Int32) (x4 : Int32) (x5 : Int32) (μ : Mem) (r : Int32) (μ' : Mem), k48 x2 x3 x4 x5 μ = some (r, μ') → V φ ΩA 8 d 48 [some (rf φ 0 0), none, some (.int x2), some (.int x3), some (.int x4), some (.int x5), none, none] [] μ (some (.int r), μ')) {k66 : Int32 → Int32 → Int32 → Int32 → Int32 → Int32 → Mem → Option (Int32 × Mem)} (hk66 : ∀ (x2 : Int32) (x3 : Int32) (x4 : Int32) (x5 : Int32) (x6 : Int32) (x7 : Int32) (μ : Mem) (r : Int32) (μ' : Mem), k66 x2 x3 x4 x5 x6 x7 μ = some (r, μ') → V φ ΩA 8 d 66 [some (rf φ 0 0), none, some (.int x2), some (.int x3), some (.int x4), some (.int x5), some (.int x6), some (.int x7)] [] μ (some (.int r), μ')) {x2 : Int32} {x3 : Int32} {x4 : Int32} {x5 : Int32} {x6 : Int32} {x7 : Int32} {μ : Mem} {r : Int32} {μ' : Mem} (h : S_best_66 k48 k66 x2 x3 x4 x5 x6 x7 μ = some (r, μ')) : V φ ΩA 8 d 66 [some (rf φ 0 0), none, some (.int x2), some (.int x3), some (.int x4), some (.int x5), some (.int x6), some (.int x7)] [] μ (some (.int r), μ') := by
  unfold S_best_66 at h
  refine V.iload F dX9_best_66 rfl ?_
  refine V.rload_n F dX9_best_68 rfl rfl ?_
  refine gf_RX9_10 F dX9_best_69 ?_
  refine gf_RX9_131 (by decide) F dX9_best_72 ?_
  refine V.icmp_ge (tgt := 107) F dX9_best_75 (by decide) (fun c1 => ?_) (fun c1 => ?_)
  · have h := f_out h c1
    refine V.iload F dX9_best_107 rfl ?_
    refine V.if_eq (tgt := 118) F dX9_best_109 (by decide) (fun c2 => ?_) (fun c2 => ?_)
    · have h := t_out h c2
      refine V.msk (L' := [some (rf φ 0 0), none, some (.int x2), none, none, some (.int x5), some (.int x6), none]) [true, false, true, false, false, true, true, false] rfl ?_
      exact S_best_118_ok F hd hk48 h
    · have h := f_out h c2
      refine V.iload F dX9_best_112 rfl ?_
      refine V.iload_n F dX9_best_114 rfl rfl ?_
      refine V.icmp_ge (tgt := 130) F dX9_best_115 (by decide) (fun c3 => ?_) (fun c3 => ?_)
      · have h := f_out h c3
        refine V.msk (L' := [some (rf φ 0 0), none, some (.int x2), some (.int x3), some (.int x4), some (.int x5), none, none]) [true, false, true, true, true, true, false, false] rfl ?_
        exact S_best_130_ok F hd hk48 h
      · have h := t_out h c3
        refine V.msk (L' := [some (rf φ 0 0), none, some (.int x2), none, none, some (.int x5), some (.int x6), none]) [true, false, true, false, false, true, true, false] rfl ?_
        exact S_best_118_ok F hd hk48 h
  · have h := t_out h c1
    refine V.iload F dX9_best_78 rfl ?_
    refine V.rload_n F dX9_best_80 rfl rfl ?_
    refine gf_RX9_69 F dX9_best_81 ?_
    refine V.iload F dX9_best_84 rfl ?_
    obtain ⟨c4, h⟩ := chk_out h
    refine V.gald (t0 := 5) (n := 6) 28 (ix x7) F mA27 rfl rfl c4 rfl dX9_best_86 ?_
    refine V.rload_n F dX9_best_87 rfl rfl ?_
    refine gf_RX9_56 F dX9_best_88 ?_
    refine gf_RX9_242 F dX9_best_91 ?_
    refine V.iload F dX9_best_94 rfl ?_
    obtain ⟨c5, h⟩ := chk_out h
    refine V.iald (t0 := 0) (n := 6) F mA21 rfl rfl c5 dX9_best_96 ?_
    obtain ⟨c6, h⟩ := chk_out h
    refine V.iald (t0 := 0) (n := 6) F (mA28 (inb_lt c4)) rfl rfl c6 dX9_best_97 ?_
    refine V.iadd F dX9_best_98 ?_
    obtain ⟨a7, ea7, h⟩ := nm_out h
    refine V.istore (L' := [some (rf φ 0 0), none, some (.int x2), some (.int x3), some (.int x4), some (.int x5), some (.int a7), some (.int x7)]) F dX9_best_99 (by decide) rfl ea7 rfl ?_
    obtain ⟨a8, ea8, h⟩ := nm_out h
    refine V.iinc (z := 1) (L' := [some (rf φ 0 0), none, some (.int x2), some (.int x3), some (.int x4), some (.int x5), some (.int a7), some (.int a8)]) F dX9_best_101 rfl (by decide) ea8 (by decide) rfl rfl ?_
    refine V.goto (tgt := 66) F dX9_best_104 (by decide) ?_
    exact hk66 _ _ _ _ _ _ _ _ _ h
def S_best_66L (k48 : Int32 → Int32 → Int32 → Int32 → Mem → Option (Int32 × Mem)) : Nat → Int32 → Int32 → Int32 → Int32 → Int32 → Int32 → Mem → Option (Int32 × Mem)
  | 0 => fun _ _ _ _ _ _ _ => none
  | n + 1 => S_best_66 k48 (S_best_66L k48 n)
set_option maxHeartbeats 4000000 in
set_option maxRecDepth 100000 in
theorem S_best_66L_ok {φ : Fr} {d : Nat} (F : Fx φ ΩA cX9_best RX9 8 (some .int)) (hd : 7 ≤ d) {k48 : Int32 → Int32 → Int32 → Int32 → Mem → Option (Int32 × Mem)} (hk48 : ∀ (x2 : Int32) (x3 : Int32) (x4 : Int32) (x5 : Int32) (μ : Mem) (r : Int32) (μ' : Mem), k48 x2 x3 x4 x5 μ = some (r, μ') → V φ ΩA 8 d 48 [some (rf φ 0 0), none, some (.int x2), some (.int x3), some (.int x4), some (.int x5), none, none] [] μ (some (.int r), μ')) : ∀ (n : Nat) (x2 : Int32) (x3 : Int32) (x4 : Int32) (x5 : Int32) (x6 : Int32) (x7 : Int32) (μ : Mem) (r : Int32) (μ' : Mem), S_best_66L k48 n x2 x3 x4 x5 x6 x7 μ = some (r, μ') → V φ ΩA 8 d 66 [some (rf φ 0 0), none, some (.int x2), some (.int x3), some (.int x4), some (.int x5), some (.int x6), some (.int x7)] [] μ (some (.int r), μ') := by
  intro n
  induction n with
  | zero => intro x2 x3 x4 x5 x6 x7 μ r μ' h; cases h
  | succ n ih => intro x2 x3 x4 x5 x6 x7 μ r μ' h; exact S_best_66_ok F hd hk48 ih h
def S_best_48 (k48 : Int32 → Int32 → Int32 → Int32 → Mem → Option (Int32 × Mem)) (x2 : Int32) (x3 : Int32) (x4 : Int32) (x5 : Int32) (μ : Mem) : Option (Int32 × Mem) :=
  if x5 < (rd μ 20 0 1) then (
    S_best_66L k48 1000 x2 x3 x4 x5 0 0 μ)
  else (
    if x2 = 0 then (
      some (x4, μ))
    else (
      some (x3, μ)))
set_option maxHeartbeats 4000000 in
set_option maxRecDepth 100000 in
theorem S_best_48_ok {φ : Fr} {d : Nat} (F : Fx φ ΩA cX9_best RX9 8 (some .int)) (hd : 7 ≤ d) {k48 : Int32 → Int32 → Int32 → Int32 → Mem → Option (Int32 × Mem)} (hk48 : ∀ (x2 : Int32) (x3 : Int32) (x4 : Int32) (x5 : Int32) (μ : Mem) (r : Int32) (μ' : Mem), k48 x2 x3 x4 x5 μ = some (r, μ') → V φ ΩA 8 d 48 [some (rf φ 0 0), none, some (.int x2), some (.int x3), some (.int x4), some (.int x5), none, none] [] μ (some (.int r), μ')) {x2 : Int32} {x3 : Int32} {x4 : Int32} {x5 : Int32} {μ : Mem} {r : Int32} {μ' : Mem} (h : S_best_48 k48 x2 x3 x4 x5 μ = some (r, μ')) : V φ ΩA 8 d 48 [some (rf φ 0 0), none, some (.int x2), some (.int x3), some (.int x4), some (.int x5), none, none] [] μ (some (.int r), μ') := by
  unfold S_best_48 at h
  refine V.iload F dX9_best_48 rfl ?_
  refine V.rload_n F dX9_best_50 rfl rfl ?_
  refine gf_RX9_56 F dX9_best_51 ?_
  refine gf_RX9_239 F dX9_best_54 ?_
  refine V.icmp_ge (tgt := 143) F dX9_best_57 (by decide) (fun c1 => ?_) (fun c1 => ?_)
  · have h := f_out h c1
    refine V.iload_n F dX9_best_143 rfl rfl ?_
    refine V.if_ne (tgt := 152) F dX9_best_144 (by decide) (fun c2 => ?_) (fun c2 => ?_)
    · have h := f_out h c2
      refine V.iload_n F dX9_best_152 rfl rfl ?_
      obtain ⟨rfl, rfl⟩ := r2_out h
      exact V.iret F dX9_best_153
    · have h := t_out h c2
      refine V.iload F dX9_best_147 rfl ?_
      refine V.goto (tgt := 153) F dX9_best_149 (by decide) ?_
      obtain ⟨rfl, rfl⟩ := r2_out h
      exact V.iret F dX9_best_153
  · have h := t_out h c1
    refine V.iconst (v := 0) F dX9_best_60 (by decide) ?_
    refine V.istore (L' := [some (rf φ 0 0), none, some (.int x2), some (.int x3), some (.int x4), some (.int x5), some (.int 0), none]) F dX9_best_61 (by decide) rfl rfl rfl ?_
    refine V.iconst (v := 0) F dX9_best_63 (by decide) ?_
    refine V.istore (L' := [some (rf φ 0 0), none, some (.int x2), some (.int x3), some (.int x4), some (.int x5), some (.int 0), some (.int 0)]) F dX9_best_64 (by decide) rfl rfl rfl ?_
    exact S_best_66L_ok F hd hk48 1000 _ _ _ _ _ _ _ _ _ h
def S_best_48L : Nat → Int32 → Int32 → Int32 → Int32 → Mem → Option (Int32 × Mem)
  | 0 => fun _ _ _ _ _ => none
  | n + 1 => S_best_48 (S_best_48L n)
set_option maxHeartbeats 4000000 in
set_option maxRecDepth 100000 in
theorem S_best_48L_ok {φ : Fr} {d : Nat} (F : Fx φ ΩA cX9_best RX9 8 (some .int)) (hd : 7 ≤ d) : ∀ (n : Nat) (x2 : Int32) (x3 : Int32) (x4 : Int32) (x5 : Int32) (μ : Mem) (r : Int32) (μ' : Mem), S_best_48L n x2 x3 x4 x5 μ = some (r, μ') → V φ ΩA 8 d 48 [some (rf φ 0 0), none, some (.int x2), some (.int x3), some (.int x4), some (.int x5), none, none] [] μ (some (.int r), μ') := by
  intro n
  induction n with
  | zero => intro x2 x3 x4 x5 μ r μ' h; cases h
  | succ n ih => intro x2 x3 x4 x5 μ r μ' h; exact S_best_48_ok F hd ih h
def S_best_21 (x1 : Int32) (x2 : Int32) (μ : Mem) : Option (Int32 × Mem) :=
  bnd (S_foreseeTempers x1 μ) fun μ2 =>
  bnd (Wa_begin (rd μ2 1 0 3) μ2) fun μ4 =>
  S_best_48L 1000 x2 0 0 0 μ4
set_option maxHeartbeats 4000000 in
set_option maxRecDepth 100000 in
theorem S_best_21_ok {φ : Fr} {d : Nat} (F : Fx φ ΩA cX9_best RX9 8 (some .int)) (hd : 7 ≤ d) {x1 : Int32} {x2 : Int32} {μ : Mem} {r : Int32} {μ' : Mem} (h : S_best_21 x1 x2 μ = some (r, μ')) : V φ ΩA 8 d 21 [some (rf φ 0 0), some (.int x1), some (.int x2), none, none, none, none, none] [] μ (some (.int r), μ') := by
  unfold S_best_21 at h
  refine V.rload_n F dX9_best_21 rfl rfl ?_
  refine V.iload_n F dX9_best_22 rfl rfl ?_
  obtain ⟨μ2, e1, h⟩ := bnd_out h
  refine V.callVv (f := 0) (i := 0) (As := [.int x1]) F ck_RX9_230 (S_foreseeTempers_ct e1) (by omega) (by decide) rfl mA0 rfl rfl rfl (Nat.le_of_ble_eq_true rfl) dX9_best_23 ?_
  refine V.rload_n F dX9_best_26 rfl rfl ?_
  refine gf_RX9_56 F dX9_best_27 ?_
  refine V.rload_n F dX9_best_30 rfl rfl ?_
  refine gf_RX9_10 F dX9_best_31 ?_
  refine gf_RX9_131 (by decide) F dX9_best_34 ?_
  obtain ⟨μ4, e3, h⟩ := bnd_out h
  refine V.callVv (f := 20) (i := 0) (As := [.int (rd μ2 1 0 3)]) F ck_RX9_236 (Wa_begin_ct e3) (by omega) (by decide) rfl mA20 rfl rfl rfl (Nat.le_of_ble_eq_true rfl) dX9_best_37 ?_
  refine V.iconst (v := 0) F dX9_best_40 (by decide) ?_
  refine V.istore_n (L' := [some (rf φ 0 0), some (.int x1), some (.int x2), some (.int 0), none, none, none, none]) F dX9_best_41 rfl (by decide) rfl rfl rfl ?_
  refine V.iconst (v := 0) F dX9_best_42 (by decide) ?_
  refine V.istore (L' := [some (rf φ 0 0), some (.int x1), some (.int x2), some (.int 0), some (.int 0), none, none, none]) F dX9_best_43 (by decide) rfl rfl rfl ?_
  refine V.iconst (v := 0) F dX9_best_45 (by decide) ?_
  refine V.istore (L' := [some (rf φ 0 0), some (.int x1), some (.int x2), some (.int 0), some (.int 0), some (.int 0), none, none]) F dX9_best_46 (by decide) rfl rfl rfl ?_
  refine V.msk (L' := [some (rf φ 0 0), none, some (.int x2), some (.int 0), some (.int 0), some (.int 0), none, none]) [true, false, true, true, true, true, false, false] rfl ?_
  exact S_best_48L_ok F hd 1000 _ _ _ _ _ _ _ h
def S_best (x1 : Int32) (x2 : Int32) (μ : Mem) : Option (Int32 × Mem) :=
  nm (S_isDays x1 10) fun r2 =>
  if r2 = 0 then (
    some ((-2), μ))
  else (
    if x2 = 0 then (
      S_best_21 x1 x2 μ)
    else (
      if x2 = 1 then (
        S_best_21 x1 x2 μ)
      else (
        some ((-2), μ))))
set_option maxHeartbeats 4000000 in
set_option maxRecDepth 100000 in
theorem S_best_ok {φ : Fr} {d : Nat} (F : Fx φ ΩA cX9_best RX9 8 (some .int)) (hd : 7 ≤ d) {x1 : Int32} {x2 : Int32} {μ : Mem} {r : Int32} {μ' : Mem} (h : S_best x1 x2 μ = some (r, μ')) : V φ ΩA 8 d 0 [some (rf φ 0 0), some (.int x1), some (.int x2), none, none, none, none, none] [] μ (some (.int r), μ') := by
  unfold S_best at h
  refine V.iload_n F dX9_best_0 rfl rfl ?_
  refine V.bipush (v := 10) F dX9_best_1 (by decide) ?_
  obtain ⟨r2, e1, h⟩ := nm_out h
  refine V.callSi (As := [.int x1, .int 10]) F ck_RX9_191 (S_isDays_ct e1) (by omega) (by decide) rfl rfl (Nat.le_of_ble_eq_true rfl) dX9_best_3 ?_
  refine V.if_eq (tgt := 18) F dX9_best_6 (by decide) (fun c3 => ?_) (fun c3 => ?_)
  · have h := t_out h c3
    refine V.bipush (v := (-2)) F dX9_best_18 (by decide) ?_
    obtain ⟨rfl, rfl⟩ := r2_out h
    exact V.iret F dX9_best_20
  · have h := f_out h c3
    refine V.iload_n F dX9_best_9 rfl rfl ?_
    refine V.if_eq (tgt := 21) F dX9_best_10 (by decide) (fun c4 => ?_) (fun c4 => ?_)
    · have h := t_out h c4
      exact S_best_21_ok F hd h
    · have h := f_out h c4
      refine V.iload_n F dX9_best_13 rfl rfl ?_
      refine V.iconst (v := 1) F dX9_best_14 (by decide) ?_
      refine V.icmp_eq (tgt := 21) F dX9_best_15 (by decide) (fun c5 => ?_) (fun c5 => ?_)
      · have h := t_out h c5
        exact S_best_21_ok F hd h
      · have h := f_out h c5
        refine V.bipush (v := (-2)) F dX9_best_18 (by decide) ?_
        obtain ⟨rfl, rfl⟩ := r2_out h
        exact V.iret F dX9_best_20
set_option maxHeartbeats 4000000 in
set_option maxRecDepth 100000 in
theorem S_best_ct {l : Launch} {G : Glo} {x1 : Int32} {x2 : Int32} {μ : Mem} {r : Int32} {μ' : Mem} (h : S_best x1 x2 μ = some (r, μ')) : Ct l ΩA G 7 yX9_best cX9_best 8 (some .int) [.ref (G.1 0 0), .int x1, .int x2] μ (some (.int r), μ') := by
  refine Ct.intro (by decide) (Nat.le_of_ble_eq_true rfl) ?_
  intro φ hl hG F
  subst hl; subst hG
  exact S_best_ok F (Nat.le_refl _) h
def S_fillPockets_16 (k16 : Int32 → Mem → Option Mem) (x1 : Int32) (μ : Mem) : Option Mem :=
  if x1 < (rd μ 1 0 3) then (
    chk (inb x1 6) <|
    chk (inb x1 6) <|
    nm (up μ 24 0 (ix x1) (rd μ 2 (ix x1) 1)) fun μ4 =>
    chk (inb x1 6) <|
    chk (inb x1 6) <|
    nm (up μ4 25 0 (ix x1) (rd μ4 2 (ix x1) 2)) fun μ7 =>
    nm (x1 + 1) fun a8 =>
    k16 a8 μ7)
  else (
    some μ)
set_option maxHeartbeats 4000000 in
set_option maxRecDepth 100000 in
theorem S_fillPockets_16_ok {φ : Fr} {d : Nat} (F : Fx φ ΩA cX9_fillPockets RX9 2 (none)) (hd : 1 ≤ d) {k16 : Int32 → Mem → Option Mem} (hk16 : ∀ (x1 : Int32) (μ : Mem)  (μ' : Mem), k16 x1 μ = some μ' → V φ ΩA 2 d 16 [some (rf φ 0 0), some (.int x1)] [] μ (none, μ')) {x1 : Int32} {μ : Mem}  {μ' : Mem} (h : S_fillPockets_16 k16 x1 μ = some μ') : V φ ΩA 2 d 16 [some (rf φ 0 0), some (.int x1)] [] μ (none, μ') := by
  unfold S_fillPockets_16 at h
  refine V.iload_n F dX9_fillPockets_16 rfl rfl ?_
  refine V.rload_n F dX9_fillPockets_17 rfl rfl ?_
  refine gf_RX9_10 F dX9_fillPockets_18 ?_
  refine gf_RX9_131 (by decide) F dX9_fillPockets_21 ?_
  refine V.icmp_ge (tgt := 75) F dX9_fillPockets_24 (by decide) (fun c1 => ?_) (fun c1 => ?_)
  · have h := f_out h c1
    obtain rfl := r1_out h
    exact V.vret F dX9_fillPockets_75
  · have h := t_out h c1
    refine V.rload_n F dX9_fillPockets_27 rfl rfl ?_
    refine gf_RX9_63 F dX9_fillPockets_28 ?_
    refine gf_RX9_270 F dX9_fillPockets_31 ?_
    refine V.iload_n F dX9_fillPockets_34 rfl rfl ?_
    refine V.rload_n F dX9_fillPockets_35 rfl rfl ?_
    refine gf_RX9_10 F dX9_fillPockets_36 ?_
    refine gf_RX9_112 (by decide) F dX9_fillPockets_39 ?_
    refine V.iload_n F dX9_fillPockets_42 rfl rfl ?_
    obtain ⟨c2, h⟩ := chk_out h
    refine V.aald (t0 := 2) (n := 6) 2 (ix x1) F (mA3 (by decide)) rfl rfl c2 rfl dX9_fillPockets_43 ?_
    refine gf_RX9_116 (Nat.lt_of_lt_of_le (inb_lt c2) (by decide)) F dX9_fillPockets_44 ?_
    obtain ⟨c3, h⟩ := chk_out h
    obtain ⟨μ4, eμ4, h⟩ := nm_out h
    refine V.iast (t0 := 0) (n := 6) F mA24 (fun _ => rfl) rfl c3 eμ4 dX9_fillPockets_47 ?_
    refine V.rload_n F dX9_fillPockets_48 rfl rfl ?_
    refine gf_RX9_63 F dX9_fillPockets_49 ?_
    refine gf_RX9_273 F dX9_fillPockets_52 ?_
    refine V.iload_n F dX9_fillPockets_55 rfl rfl ?_
    refine V.rload_n F dX9_fillPockets_56 rfl rfl ?_
    refine gf_RX9_10 F dX9_fillPockets_57 ?_
    refine gf_RX9_112 (by decide) F dX9_fillPockets_60 ?_
    refine V.iload_n F dX9_fillPockets_63 rfl rfl ?_
    obtain ⟨c5, h⟩ := chk_out h
    refine V.aald (t0 := 2) (n := 6) 2 (ix x1) F (mA3 (by decide)) rfl rfl c5 rfl dX9_fillPockets_64 ?_
    refine gf_RX9_121 (Nat.lt_of_lt_of_le (inb_lt c5) (by decide)) F dX9_fillPockets_65 ?_
    obtain ⟨c6, h⟩ := chk_out h
    obtain ⟨μ7, eμ7, h⟩ := nm_out h
    refine V.iast (t0 := 0) (n := 6) F mA25 (fun _ => rfl) rfl c6 eμ7 dX9_fillPockets_68 ?_
    obtain ⟨a8, ea8, h⟩ := nm_out h
    refine V.iinc (z := 1) (L' := [some (rf φ 0 0), some (.int a8)]) F dX9_fillPockets_69 rfl (by decide) ea8 (by decide) rfl rfl ?_
    refine V.goto (tgt := 16) F dX9_fillPockets_72 (by decide) ?_
    exact hk16 _ _ _ h
def S_fillPockets_16L : Nat → Int32 → Mem → Option Mem
  | 0 => fun _ _ => none
  | n + 1 => S_fillPockets_16 (S_fillPockets_16L n)
set_option maxHeartbeats 4000000 in
set_option maxRecDepth 100000 in
theorem S_fillPockets_16L_ok {φ : Fr} {d : Nat} (F : Fx φ ΩA cX9_fillPockets RX9 2 (none)) (hd : 1 ≤ d) : ∀ (n : Nat) (x1 : Int32) (μ : Mem)  (μ' : Mem), S_fillPockets_16L n x1 μ = some μ' → V φ ΩA 2 d 16 [some (rf φ 0 0), some (.int x1)] [] μ (none, μ') := by
  intro n
  induction n with
  | zero => intro x1 μ μ' h; cases h
  | succ n ih => intro x1 μ μ' h; exact S_fillPockets_16_ok F hd ih h
def S_fillPockets (μ : Mem) : Option Mem :=
  nm (up μ 23 0 0 (rd μ 1 0 3)) fun μ1 =>
  S_fillPockets_16L 1000 0 μ1
set_option maxHeartbeats 4000000 in
set_option maxRecDepth 100000 in
theorem S_fillPockets_ok {φ : Fr} {d : Nat} (F : Fx φ ΩA cX9_fillPockets RX9 2 (none)) (hd : 1 ≤ d) {μ : Mem}  {μ' : Mem} (h : S_fillPockets μ = some μ') : V φ ΩA 2 d 0 [some (rf φ 0 0), none] [] μ (none, μ') := by
  unfold S_fillPockets at h
  refine V.rload_n F dX9_fillPockets_0 rfl rfl ?_
  refine gf_RX9_63 F dX9_fillPockets_1 ?_
  refine V.rload_n F dX9_fillPockets_4 rfl rfl ?_
  refine gf_RX9_10 F dX9_fillPockets_5 ?_
  refine gf_RX9_131 (by decide) F dX9_fillPockets_8 ?_
  obtain ⟨μ1, eμ1, h⟩ := nm_out h
  refine pf_RX9_269 F eμ1 dX9_fillPockets_11 ?_
  refine V.iconst (v := 0) F dX9_fillPockets_14 (by decide) ?_
  refine V.istore_n (L' := [some (rf φ 0 0), some (.int 0)]) F dX9_fillPockets_15 rfl (by decide) rfl rfl rfl ?_
  exact S_fillPockets_16L_ok F hd 1000 _ _ _ h
set_option maxHeartbeats 4000000 in
set_option maxRecDepth 100000 in
theorem S_fillPockets_ct {l : Launch} {G : Glo} {μ : Mem}  {μ' : Mem} (h : S_fillPockets μ = some μ') : Ct l ΩA G 1 yX9_fillPockets cX9_fillPockets 2 (none) [.ref (G.1 0 0)] μ (none, μ') := by
  refine Ct.intro (by decide) (Nat.le_of_ble_eq_true rfl) ?_
  intro φ hl hG F
  subst hl; subst hG
  exact S_fillPockets_ok F (Nat.le_refl _) h
def S_from (x1 : Int32) (μ : Mem) : Option (Int32 × Mem) :=
  nm (S_isGroom x1 μ) fun r2 =>
  if r2 = 0 then (
    some ((-2), μ))
  else (
    bnd (S_fillPockets μ) fun μ5 =>
    bnd (Po_open μ5) fun μ7 =>
    chk (inb x1 6) <|
    some (rd μ7 26 0 (ix x1), μ7))
set_option maxHeartbeats 4000000 in
set_option maxRecDepth 100000 in
theorem S_from_ok {φ : Fr} {d : Nat} (F : Fx φ ΩA cX9_from RX9 2 (some .int)) (hd : 3 ≤ d) {x1 : Int32} {μ : Mem} {r : Int32} {μ' : Mem} (h : S_from x1 μ = some (r, μ')) : V φ ΩA 2 d 0 [some (rf φ 0 0), some (.int x1)] [] μ (some (.int r), μ') := by
  unfold S_from at h
  refine V.rload_n F dX9_from_0 rfl rfl ?_
  refine V.iload_n F dX9_from_1 rfl rfl ?_
  obtain ⟨r2, e1, h⟩ := nm_out h
  refine V.callVi (f := 0) (i := 0) (As := [.int x1]) F ck_RX9_140 (S_isGroom_ct e1) (by omega) (by decide) rfl mA0 rfl rfl rfl (Nat.le_of_ble_eq_true rfl) dX9_from_2 ?_
  refine V.if_ne (tgt := 11) F dX9_from_5 (by decide) (fun c3 => ?_) (fun c3 => ?_)
  · have h := f_out h c3
    refine V.rload_n F dX9_from_11 rfl rfl ?_
    obtain ⟨μ5, e4, h⟩ := bnd_out h
    refine V.callVv (f := 0) (i := 0) (As := []) F ck_RX9_251 (S_fillPockets_ct e4) (by omega) (by decide) rfl mA0 rfl rfl rfl (Nat.le_of_ble_eq_true rfl) dX9_from_12 ?_
    refine V.rload_n F dX9_from_15 rfl rfl ?_
    refine gf_RX9_63 F dX9_from_16 ?_
    obtain ⟨μ7, e6, h⟩ := bnd_out h
    refine V.callVv (f := 23) (i := 0) (As := []) F ck_RX9_254 (Po_open_ct e6) (by omega) (by decide) rfl mA23 rfl rfl rfl (Nat.le_of_ble_eq_true rfl) dX9_from_19 ?_
    refine V.rload_n F dX9_from_22 rfl rfl ?_
    refine gf_RX9_63 F dX9_from_23 ?_
    refine gf_RX9_257 F dX9_from_26 ?_
    refine V.iload_n F dX9_from_29 rfl rfl ?_
    obtain ⟨c8, h⟩ := chk_out h
    refine V.iald (t0 := 0) (n := 6) F mA26 rfl rfl c8 dX9_from_30 ?_
    obtain ⟨rfl, rfl⟩ := r2_out h
    exact V.iret F dX9_from_31
  · have h := t_out h c3
    refine V.bipush (v := (-2)) F dX9_from_8 (by decide) ?_
    obtain ⟨rfl, rfl⟩ := r2_out h
    exact V.iret F dX9_from_10
set_option maxHeartbeats 4000000 in
set_option maxRecDepth 100000 in
theorem S_from_ct {l : Launch} {G : Glo} {x1 : Int32} {μ : Mem} {r : Int32} {μ' : Mem} (h : S_from x1 μ = some (r, μ')) : Ct l ΩA G 3 yX9_from cX9_from 2 (some .int) [.ref (G.1 0 0), .int x1] μ (some (.int r), μ') := by
  refine Ct.intro (by decide) (Nat.le_of_ble_eq_true rfl) ?_
  intro φ hl hG F
  subst hl; subst hG
  exact S_from_ok F (Nat.le_refl _) h
def S_keys (x1 : Int32) (μ : Mem) : Option (Int32 × Mem) :=
  bnd (S_fillPockets μ) fun μ2 =>
  bnd (Po_open μ2) fun μ4 =>
  if x1 = 0 then (
    bnd (Po_key μ4) fun r7 =>
    some (r7, μ4))
  else (
  if x1 = 1 then (
    bnd (Po_mostOpened μ4) fun r10 =>
    some (r10, μ4))
  else (
  if x1 = 2 then (
    bnd (Po_fewest μ4) fun r13 =>
    some (r13, μ4))
  else (
  if x1 = 3 then (
    bnd (Po_fewest μ4) fun r16 =>
    nm (J_bitCount r16) fun r18 =>
    some (r18, μ4))
  else (
    some ((-2), μ4)))))
set_option maxHeartbeats 4000000 in
set_option maxRecDepth 100000 in
theorem S_keys_ok {φ : Fr} {d : Nat} (F : Fx φ ΩA cX9_keys RX9 2 (some .int)) (hd : 3 ≤ d) {x1 : Int32} {μ : Mem} {r : Int32} {μ' : Mem} (h : S_keys x1 μ = some (r, μ')) : V φ ΩA 2 d 0 [some (rf φ 0 0), some (.int x1)] [] μ (some (.int r), μ') := by
  unfold S_keys at h
  refine V.rload_n F dX9_keys_0 rfl rfl ?_
  obtain ⟨μ2, e1, h⟩ := bnd_out h
  refine V.callVv (f := 0) (i := 0) (As := []) F ck_RX9_251 (S_fillPockets_ct e1) (by omega) (by decide) rfl mA0 rfl rfl rfl (Nat.le_of_ble_eq_true rfl) dX9_keys_1 ?_
  refine V.rload_n F dX9_keys_4 rfl rfl ?_
  refine gf_RX9_63 F dX9_keys_5 ?_
  obtain ⟨μ4, e3, h⟩ := bnd_out h
  refine V.callVv (f := 23) (i := 0) (As := []) F ck_RX9_254 (Po_open_ct e3) (by omega) (by decide) rfl mA23 rfl rfl rfl (Nat.le_of_ble_eq_true rfl) dX9_keys_8 ?_
  refine V.iload_n F dX9_keys_11 rfl rfl ?_
  by_cases c5 : x1 = 0
  · have h := t_out h c5
    refine V.tabK (tgt := 44) (v := 0) F dX9_keys_12 (by rw [c5]; decide) (by decide) (by decide) rfl (by decide) ?_
    refine V.rload_n F dX9_keys_44 rfl rfl ?_
    refine gf_RX9_63 F dX9_keys_45 ?_
    obtain ⟨r7, e6, h⟩ := bnd_out h
    refine V.callVi (f := 23) (i := 0) (As := []) F ck_RX9_260 (Po_key_ct e6) (by omega) (by decide) rfl mA23 rfl rfl rfl (Nat.le_of_ble_eq_true rfl) dX9_keys_48 ?_
    obtain ⟨rfl, rfl⟩ := r2_out h
    exact V.iret F dX9_keys_51
  have h := f_out h c5
  by_cases c8 : x1 = 1
  · have h := t_out h c8
    refine V.tabK (tgt := 52) (v := 1) F dX9_keys_12 (by rw [c8]; decide) (by decide) (by decide) rfl (by decide) ?_
    refine V.rload_n F dX9_keys_52 rfl rfl ?_
    refine gf_RX9_63 F dX9_keys_53 ?_
    obtain ⟨r10, e9, h⟩ := bnd_out h
    refine V.callVi (f := 23) (i := 0) (As := []) F ck_RX9_263 (Po_mostOpened_ct e9) (by omega) (by decide) rfl mA23 rfl rfl rfl (Nat.le_of_ble_eq_true rfl) dX9_keys_56 ?_
    obtain ⟨rfl, rfl⟩ := r2_out h
    exact V.iret F dX9_keys_59
  have h := f_out h c8
  by_cases c11 : x1 = 2
  · have h := t_out h c11
    refine V.tabK (tgt := 60) (v := 2) F dX9_keys_12 (by rw [c11]; decide) (by decide) (by decide) rfl (by decide) ?_
    refine V.rload_n F dX9_keys_60 rfl rfl ?_
    refine gf_RX9_63 F dX9_keys_61 ?_
    obtain ⟨r13, e12, h⟩ := bnd_out h
    refine V.callVi (f := 23) (i := 0) (As := []) F ck_RX9_266 (Po_fewest_ct e12) (by omega) (by decide) rfl mA23 rfl rfl rfl (Nat.le_of_ble_eq_true rfl) dX9_keys_64 ?_
    obtain ⟨rfl, rfl⟩ := r2_out h
    exact V.iret F dX9_keys_67
  have h := f_out h c11
  by_cases c14 : x1 = 3
  · have h := t_out h c14
    refine V.tabK (tgt := 68) (v := 3) F dX9_keys_12 (by rw [c14]; decide) (by decide) (by decide) rfl (by decide) ?_
    refine V.rload_n F dX9_keys_68 rfl rfl ?_
    refine gf_RX9_63 F dX9_keys_69 ?_
    obtain ⟨r16, e15, h⟩ := bnd_out h
    refine V.callVi (f := 23) (i := 0) (As := []) F ck_RX9_266 (Po_fewest_ct e15) (by omega) (by decide) rfl mA23 rfl rfl rfl (Nat.le_of_ble_eq_true rfl) dX9_keys_72 ?_
    obtain ⟨r18, e17, h⟩ := nm_out h
    refine V.callSi (As := [.int r16]) F ck_RX9_220 (J_bitCount_ct e17) (by omega) (by decide) rfl rfl (Nat.le_of_ble_eq_true rfl) dX9_keys_75 ?_
    obtain ⟨rfl, rfl⟩ := r2_out h
    exact V.iret F dX9_keys_78
  have h := f_out h c14
  have K19 : V φ ΩA 2 d 79 [some (rf φ 0 0), some (.int x1)] [] μ4 (some (.int r), μ') := by
    refine V.bipush (v := (-2)) F dX9_keys_79 (by decide) ?_
    obtain ⟨rfl, rfl⟩ := r2_out h
    exact V.iret F dX9_keys_81
  exact V.tabOut (tgt := 79) F dX9_keys_12 (by have := lv_neT c5 (a := 0) (by decide); have := lv_neT c8 (a := 1) (by decide); have := lv_neT c11 (a := 2) (by decide); have := lv_neT c14 (a := 3) (by decide); omega) (by decide) K19
set_option maxHeartbeats 4000000 in
set_option maxRecDepth 100000 in
theorem S_keys_ct {l : Launch} {G : Glo} {x1 : Int32} {μ : Mem} {r : Int32} {μ' : Mem} (h : S_keys x1 μ = some (r, μ')) : Ct l ΩA G 3 yX9_keys cX9_keys 2 (some .int) [.ref (G.1 0 0), .int x1] μ (some (.int r), μ') := by
  refine Ct.intro (by decide) (Nat.le_of_ble_eq_true rfl) ?_
  intro φ hl hG F
  subst hl; subst hG
  exact S_keys_ok F (Nat.le_refl _) h
def S_isSheet (x0 : Int32) : Int32 :=
  if x0 < 0 then (
    0)
  else (
    if x0 < 4 then (
      1)
    else (
      0))
set_option maxHeartbeats 4000000 in
set_option maxRecDepth 100000 in
theorem S_isSheet_ok {φ : Fr} {d : Nat} (F : Fx φ ΩA cX9_isSheet RX9 1 (some .boolean)) (hd : 1 ≤ d) {x0 : Int32} {μ : Mem} {r : Int32} (h : S_isSheet x0 = r) : V φ ΩA 1 d 0 [some (.int x0)] [] μ (some (.int r), μ) := by
  unfold S_isSheet at h
  refine V.iload_n F dX9_isSheet_0 rfl rfl ?_
  refine V.if_lt (tgt := 13) F dX9_isSheet_1 (by decide) (fun c1 => ?_) (fun c1 => ?_)
  · have h := t_out h c1
    refine V.iconst (v := 0) F dX9_isSheet_13 (by decide) ?_
    obtain rfl := h
    exact V.zret F (by decide) dX9_isSheet_14
  · have h := f_out h c1
    refine V.iload_n F dX9_isSheet_4 rfl rfl ?_
    refine V.iconst (v := 4) F dX9_isSheet_5 (by decide) ?_
    refine V.icmp_ge (tgt := 13) F dX9_isSheet_6 (by decide) (fun c2 => ?_) (fun c2 => ?_)
    · have h := f_out h c2
      refine V.iconst (v := 0) F dX9_isSheet_13 (by decide) ?_
      obtain rfl := h
      exact V.zret F (by decide) dX9_isSheet_14
    · have h := t_out h c2
      refine V.iconst (v := 1) F dX9_isSheet_9 (by decide) ?_
      refine V.goto (tgt := 14) F dX9_isSheet_10 (by decide) ?_
      obtain rfl := h
      exact V.zret F (by decide) dX9_isSheet_14
set_option maxHeartbeats 4000000 in
set_option maxRecDepth 100000 in
theorem S_isSheet_ct {l : Launch} {G : Glo} {x0 : Int32} {μ : Mem} {r : Int32} (h : S_isSheet x0 = r) : Ct l ΩA G 1 yX9_isSheet cX9_isSheet 1 (some .boolean) [.int x0] μ (some (.int r), μ) := by
  refine Ct.intro (by decide) (Nat.le_of_ble_eq_true rfl) ?_
  intro φ hl hG F
  subst hl; subst hG
  exact S_isSheet_ok F (Nat.le_refl _) h
def S_otherwise_48 (k5 : Nat → Nat → Int32 → Int32 → Mem → Option (Int32 × Mem)) (t1 : Nat) (t2 : Nat) (x3 : Int32) (x4 : Int32) (μ : Mem) : Option (Int32 × Mem) :=
  nm (x4 + 1) fun a1 =>
  k5 t1 t2 x3 a1 μ
set_option maxHeartbeats 4000000 in
set_option maxRecDepth 100000 in
theorem S_otherwise_48_ok {φ : Fr} {d : Nat} (F : Fx φ ΩA cX9_otherwise RX9 5 (some .int)) (hd : 4 ≤ d) {k5 : Nat → Nat → Int32 → Int32 → Mem → Option (Int32 × Mem)} (hk5 : ∀ (t1 : Nat) (t2 : Nat) (x3 : Int32) (x4 : Int32) (ht1 : t1 < 4) (ht2 : t2 < 6) (μ : Mem) (r : Int32) (μ' : Mem), k5 t1 t2 x3 x4 μ = some (r, μ') → V φ ΩA 5 d 5 [some (rf φ 0 0), some (rf φ 16 t1), some (rf φ 5 t2), some (.int x3), some (.int x4)] [] μ (some (.int r), μ')) {t1 : Nat} {t2 : Nat} {x3 : Int32} {x4 : Int32} (ht1 : t1 < 4) (ht2 : t2 < 6) {μ : Mem} {r : Int32} {μ' : Mem} (h : S_otherwise_48 k5 t1 t2 x3 x4 μ = some (r, μ')) : V φ ΩA 5 d 48 [some (rf φ 0 0), some (rf φ 16 t1), some (rf φ 5 t2), some (.int x3), some (.int x4)] [] μ (some (.int r), μ') := by
  unfold S_otherwise_48 at h
  obtain ⟨a1, ea1, h⟩ := nm_out h
  refine V.iinc (z := 1) (L' := [some (rf φ 0 0), some (rf φ 16 t1), some (rf φ 5 t2), some (.int x3), some (.int a1)]) F dX9_otherwise_48 rfl (by decide) ea1 (by decide) rfl rfl ?_
  refine V.goto (tgt := 5) F dX9_otherwise_51 (by decide) ?_
  exact hk5 _ _ _ _ ht1 ht2 _ _ _ h
def S_otherwise_5 (k5 : Nat → Nat → Int32 → Int32 → Mem → Option (Int32 × Mem)) (t1 : Nat) (t2 : Nat) (x3 : Int32) (x4 : Int32) (μ : Mem) : Option (Int32 × Mem) :=
  if x4 < (rd μ 1 0 3) then (
    bnd (S_seeAsIs x4 μ) fun μ3 =>
    bnd2 (Ma_feels t2 μ3) fun r5 μ6 =>
    chk (inb x4 40) <|
    if r5 = (rd μ6 17 t1 (ix x4)) then (
      S_otherwise_48 k5 t1 t2 x3 x4 μ6)
    else (
      nm (x3 ||| (shl 1 x4)) fun a9 =>
      S_otherwise_48 k5 t1 t2 a9 x4 μ6))
  else (
    some (x3, μ))
set_option maxHeartbeats 4000000 in
set_option maxRecDepth 100000 in
theorem S_otherwise_5_ok {φ : Fr} {d : Nat} (F : Fx φ ΩA cX9_otherwise RX9 5 (some .int)) (hd : 4 ≤ d) {k5 : Nat → Nat → Int32 → Int32 → Mem → Option (Int32 × Mem)} (hk5 : ∀ (t1 : Nat) (t2 : Nat) (x3 : Int32) (x4 : Int32) (ht1 : t1 < 4) (ht2 : t2 < 6) (μ : Mem) (r : Int32) (μ' : Mem), k5 t1 t2 x3 x4 μ = some (r, μ') → V φ ΩA 5 d 5 [some (rf φ 0 0), some (rf φ 16 t1), some (rf φ 5 t2), some (.int x3), some (.int x4)] [] μ (some (.int r), μ')) {t1 : Nat} {t2 : Nat} {x3 : Int32} {x4 : Int32} (ht1 : t1 < 4) (ht2 : t2 < 6) {μ : Mem} {r : Int32} {μ' : Mem} (h : S_otherwise_5 k5 t1 t2 x3 x4 μ = some (r, μ')) : V φ ΩA 5 d 5 [some (rf φ 0 0), some (rf φ 16 t1), some (rf φ 5 t2), some (.int x3), some (.int x4)] [] μ (some (.int r), μ') := by
  unfold S_otherwise_5 at h
  refine V.iload F dX9_otherwise_5 rfl ?_
  refine V.rload_n F dX9_otherwise_7 rfl rfl ?_
  refine gf_RX9_10 F dX9_otherwise_8 ?_
  refine gf_RX9_131 (by decide) F dX9_otherwise_11 ?_
  refine V.icmp_ge (tgt := 54) F dX9_otherwise_14 (by decide) (fun c1 => ?_) (fun c1 => ?_)
  · have h := f_out h c1
    refine V.iload_n F dX9_otherwise_54 rfl rfl ?_
    obtain ⟨rfl, rfl⟩ := r2_out h
    exact V.iret F dX9_otherwise_55
  · have h := t_out h c1
    refine V.rload_n F dX9_otherwise_17 rfl rfl ?_
    refine V.iload F dX9_otherwise_18 rfl ?_
    obtain ⟨μ3, e2, h⟩ := bnd_out h
    refine V.callVv (f := 0) (i := 0) (As := [.int x4]) F ck_RX9_143 (S_seeAsIs_ct e2) (by omega) (by decide) rfl mA0 rfl rfl rfl (Nat.le_of_ble_eq_true rfl) dX9_otherwise_20 ?_
    refine V.rload_n F dX9_otherwise_23 rfl rfl ?_
    refine gf_RX9_49 F dX9_otherwise_24 ?_
    refine V.rload_n F dX9_otherwise_27 rfl rfl ?_
    obtain ⟨r5, μ6, e4, h⟩ := bnd2_out h
    refine V.callVi (f := 18) (i := 0) (As := [rf φ 5 t2]) F ck_RX9_164 (Ma_feels_ct ht2 e4) (by omega) (by decide) rfl mA18 rfl rfl rfl (Nat.le_of_ble_eq_true rfl) dX9_otherwise_28 ?_
    refine V.rload_n F dX9_otherwise_31 rfl rfl ?_
    refine gf_RX9_300 ht1 F dX9_otherwise_32 ?_
    refine V.iload F dX9_otherwise_35 rfl ?_
    obtain ⟨c7, h⟩ := chk_out h
    refine V.iald (t0 := 0) (n := 40) F (mA17 ht1) rfl rfl c7 dX9_otherwise_37 ?_
    refine V.icmp_eq (tgt := 48) F dX9_otherwise_38 (by decide) (fun c8 => ?_) (fun c8 => ?_)
    · have h := t_out h c8
      exact S_otherwise_48_ok F hd hk5 ht1 ht2 h
    · have h := f_out h c8
      refine V.iload_n F dX9_otherwise_41 rfl rfl ?_
      refine V.iconst (v := 1) F dX9_otherwise_42 (by decide) ?_
      refine V.iload F dX9_otherwise_43 rfl ?_
      refine V.ishl F dX9_otherwise_45 ?_
      refine V.ior F dX9_otherwise_46 ?_
      obtain ⟨a9, ea9, h⟩ := nm_out h
      refine V.istore_n (L' := [some (rf φ 0 0), some (rf φ 16 t1), some (rf φ 5 t2), some (.int a9), some (.int x4)]) F dX9_otherwise_47 rfl (by decide) rfl ea9 rfl ?_
      exact S_otherwise_48_ok F hd hk5 ht1 ht2 h
def S_otherwise_5L : Nat → Nat → Nat → Int32 → Int32 → Mem → Option (Int32 × Mem)
  | 0 => fun _ _ _ _ _ => none
  | n + 1 => S_otherwise_5 (S_otherwise_5L n)
set_option maxHeartbeats 4000000 in
set_option maxRecDepth 100000 in
theorem S_otherwise_5L_ok {φ : Fr} {d : Nat} (F : Fx φ ΩA cX9_otherwise RX9 5 (some .int)) (hd : 4 ≤ d) : ∀ (n : Nat) (t1 : Nat) (t2 : Nat) (x3 : Int32) (x4 : Int32) (ht1 : t1 < 4) (ht2 : t2 < 6) (μ : Mem) (r : Int32) (μ' : Mem), S_otherwise_5L n t1 t2 x3 x4 μ = some (r, μ') → V φ ΩA 5 d 5 [some (rf φ 0 0), some (rf φ 16 t1), some (rf φ 5 t2), some (.int x3), some (.int x4)] [] μ (some (.int r), μ') := by
  intro n
  induction n with
  | zero => intro t1 t2 x3 x4 ht1 ht2 μ r μ' h; cases h
  | succ n ih => intro t1 t2 x3 x4 ht1 ht2 μ r μ' h; exact S_otherwise_5_ok F hd ih ht1 ht2 h
def S_otherwise (t1 : Nat) (t2 : Nat) (μ : Mem) : Option (Int32 × Mem) :=
  S_otherwise_5L 1000 t1 t2 0 0 μ
set_option maxHeartbeats 4000000 in
set_option maxRecDepth 100000 in
theorem S_otherwise_ok {φ : Fr} {d : Nat} (F : Fx φ ΩA cX9_otherwise RX9 5 (some .int)) (hd : 4 ≤ d) {t1 : Nat} {t2 : Nat} (ht1 : t1 < 4) (ht2 : t2 < 6) {μ : Mem} {r : Int32} {μ' : Mem} (h : S_otherwise t1 t2 μ = some (r, μ')) : V φ ΩA 5 d 0 [some (rf φ 0 0), some (rf φ 16 t1), some (rf φ 5 t2), none, none] [] μ (some (.int r), μ') := by
  unfold S_otherwise at h
  refine V.iconst (v := 0) F dX9_otherwise_0 (by decide) ?_
  refine V.istore_n (L' := [some (rf φ 0 0), some (rf φ 16 t1), some (rf φ 5 t2), some (.int 0), none]) F dX9_otherwise_1 rfl (by decide) rfl rfl rfl ?_
  refine V.iconst (v := 0) F dX9_otherwise_2 (by decide) ?_
  refine V.istore (L' := [some (rf φ 0 0), some (rf φ 16 t1), some (rf φ 5 t2), some (.int 0), some (.int 0)]) F dX9_otherwise_3 (by decide) rfl rfl rfl ?_
  exact S_otherwise_5L_ok F hd 1000 _ _ _ _ ht1 ht2 _ _ _ h
set_option maxHeartbeats 4000000 in
set_option maxRecDepth 100000 in
theorem S_otherwise_ct {l : Launch} {G : Glo} {t1 : Nat} {t2 : Nat} (ht1 : t1 < 4) (ht2 : t2 < 6) {μ : Mem} {r : Int32} {μ' : Mem} (h : S_otherwise t1 t2 μ = some (r, μ')) : Ct l ΩA G 4 yX9_otherwise cX9_otherwise 5 (some .int) [.ref (G.1 0 0), .ref (G.1 16 t1), .ref (G.1 5 t2)] μ (some (.int r), μ') := by
  refine Ct.intro (by decide) (Nat.le_of_ble_eq_true rfl) ?_
  intro φ hl hG F
  subst hl; subst hG
  exact S_otherwise_ok F (Nat.le_refl _) ht1 ht2 h
def S_textsBy_32 (k4 : Nat → Int32 → Int32 → Mem → Option (Int32 × Mem)) (t1 : Nat) (x2 : Int32) (x3 : Int32) (μ : Mem) : Option (Int32 × Mem) :=
  nm (x3 + 1) fun a1 =>
  k4 t1 x2 a1 μ
set_option maxHeartbeats 4000000 in
set_option maxRecDepth 100000 in
theorem S_textsBy_32_ok {φ : Fr} {d : Nat} (F : Fx φ ΩA cX9_textsBy RX9 4 (some .int)) (hd : 5 ≤ d) {k4 : Nat → Int32 → Int32 → Mem → Option (Int32 × Mem)} (hk4 : ∀ (t1 : Nat) (x2 : Int32) (x3 : Int32) (ht1 : t1 < 4) (μ : Mem) (r : Int32) (μ' : Mem), k4 t1 x2 x3 μ = some (r, μ') → V φ ΩA 4 d 4 [some (rf φ 0 0), some (rf φ 16 t1), some (.int x2), some (.int x3)] [] μ (some (.int r), μ')) {t1 : Nat} {x2 : Int32} {x3 : Int32} (ht1 : t1 < 4) {μ : Mem} {r : Int32} {μ' : Mem} (h : S_textsBy_32 k4 t1 x2 x3 μ = some (r, μ')) : V φ ΩA 4 d 32 [some (rf φ 0 0), some (rf φ 16 t1), some (.int x2), some (.int x3)] [] μ (some (.int r), μ') := by
  unfold S_textsBy_32 at h
  obtain ⟨a1, ea1, h⟩ := nm_out h
  refine V.iinc (z := 1) (L' := [some (rf φ 0 0), some (rf φ 16 t1), some (.int x2), some (.int a1)]) F dX9_textsBy_32 rfl (by decide) ea1 (by decide) rfl rfl ?_
  refine V.goto (tgt := 4) F dX9_textsBy_35 (by decide) ?_
  exact hk4 _ _ _ ht1 _ _ _ h
def S_textsBy_4 (k4 : Nat → Int32 → Int32 → Mem → Option (Int32 × Mem)) (t1 : Nat) (x2 : Int32) (x3 : Int32) (μ : Mem) : Option (Int32 × Mem) :=
  if x3 < (rd μ 0 0 4) then (
    chk (inb x3 6) <|
    bnd2 (S_otherwise t1 (ix x3) μ) fun r4 μ5 =>
    if r4 = 0 then (
      nm (x2 ||| (shl 1 x3)) fun a7 =>
      S_textsBy_32 k4 t1 a7 x3 μ5)
    else (
      S_textsBy_32 k4 t1 x2 x3 μ5))
  else (
    some (x2, μ))
set_option maxHeartbeats 4000000 in
set_option maxRecDepth 100000 in
theorem S_textsBy_4_ok {φ : Fr} {d : Nat} (F : Fx φ ΩA cX9_textsBy RX9 4 (some .int)) (hd : 5 ≤ d) {k4 : Nat → Int32 → Int32 → Mem → Option (Int32 × Mem)} (hk4 : ∀ (t1 : Nat) (x2 : Int32) (x3 : Int32) (ht1 : t1 < 4) (μ : Mem) (r : Int32) (μ' : Mem), k4 t1 x2 x3 μ = some (r, μ') → V φ ΩA 4 d 4 [some (rf φ 0 0), some (rf φ 16 t1), some (.int x2), some (.int x3)] [] μ (some (.int r), μ')) {t1 : Nat} {x2 : Int32} {x3 : Int32} (ht1 : t1 < 4) {μ : Mem} {r : Int32} {μ' : Mem} (h : S_textsBy_4 k4 t1 x2 x3 μ = some (r, μ')) : V φ ΩA 4 d 4 [some (rf φ 0 0), some (rf φ 16 t1), some (.int x2), some (.int x3)] [] μ (some (.int r), μ') := by
  unfold S_textsBy_4 at h
  refine V.iload_n F dX9_textsBy_4 rfl rfl ?_
  refine V.rload_n F dX9_textsBy_5 rfl rfl ?_
  refine gf_RX9_29 F dX9_textsBy_6 ?_
  refine V.icmp_ge (tgt := 38) F dX9_textsBy_9 (by decide) (fun c1 => ?_) (fun c1 => ?_)
  · have h := f_out h c1
    refine V.iload_n F dX9_textsBy_38 rfl rfl ?_
    obtain ⟨rfl, rfl⟩ := r2_out h
    exact V.iret F dX9_textsBy_39
  · have h := t_out h c1
    refine V.rload_n F dX9_textsBy_12 rfl rfl ?_
    refine V.rload_n F dX9_textsBy_13 rfl rfl ?_
    refine V.rload_n F dX9_textsBy_14 rfl rfl ?_
    refine gf_RX9_25 F dX9_textsBy_15 ?_
    refine V.iload_n F dX9_textsBy_18 rfl rfl ?_
    obtain ⟨c2, h⟩ := chk_out h
    refine V.aald (t0 := 3) (n := 6) 5 (ix x3) F mA4 rfl rfl c2 rfl dX9_textsBy_19 ?_
    obtain ⟨r4, μ5, e3, h⟩ := bnd2_out h
    refine V.callVi (f := 0) (i := 0) (As := [rf φ 16 t1, rf φ 5 (ix x3)]) F ck_RX9_288 (S_otherwise_ct ht1 (inb_lt c2) e3) (by omega) (by decide) rfl mA0 rfl rfl rfl (Nat.le_of_ble_eq_true rfl) dX9_textsBy_20 ?_
    refine V.if_ne (tgt := 32) F dX9_textsBy_23 (by decide) (fun c6 => ?_) (fun c6 => ?_)
    · have h := f_out h c6
      exact S_textsBy_32_ok F hd hk4 ht1 h
    · have h := t_out h c6
      refine V.iload_n F dX9_textsBy_26 rfl rfl ?_
      refine V.iconst (v := 1) F dX9_textsBy_27 (by decide) ?_
      refine V.iload_n F dX9_textsBy_28 rfl rfl ?_
      refine V.ishl F dX9_textsBy_29 ?_
      refine V.ior F dX9_textsBy_30 ?_
      obtain ⟨a7, ea7, h⟩ := nm_out h
      refine V.istore_n (L' := [some (rf φ 0 0), some (rf φ 16 t1), some (.int a7), some (.int x3)]) F dX9_textsBy_31 rfl (by decide) rfl ea7 rfl ?_
      exact S_textsBy_32_ok F hd hk4 ht1 h
def S_textsBy_4L : Nat → Nat → Int32 → Int32 → Mem → Option (Int32 × Mem)
  | 0 => fun _ _ _ _ => none
  | n + 1 => S_textsBy_4 (S_textsBy_4L n)
set_option maxHeartbeats 4000000 in
set_option maxRecDepth 100000 in
theorem S_textsBy_4L_ok {φ : Fr} {d : Nat} (F : Fx φ ΩA cX9_textsBy RX9 4 (some .int)) (hd : 5 ≤ d) : ∀ (n : Nat) (t1 : Nat) (x2 : Int32) (x3 : Int32) (ht1 : t1 < 4) (μ : Mem) (r : Int32) (μ' : Mem), S_textsBy_4L n t1 x2 x3 μ = some (r, μ') → V φ ΩA 4 d 4 [some (rf φ 0 0), some (rf φ 16 t1), some (.int x2), some (.int x3)] [] μ (some (.int r), μ') := by
  intro n
  induction n with
  | zero => intro t1 x2 x3 ht1 μ r μ' h; cases h
  | succ n ih => intro t1 x2 x3 ht1 μ r μ' h; exact S_textsBy_4_ok F hd ih ht1 h
def S_textsBy (t1 : Nat) (μ : Mem) : Option (Int32 × Mem) :=
  S_textsBy_4L 1000 t1 0 0 μ
set_option maxHeartbeats 4000000 in
set_option maxRecDepth 100000 in
theorem S_textsBy_ok {φ : Fr} {d : Nat} (F : Fx φ ΩA cX9_textsBy RX9 4 (some .int)) (hd : 5 ≤ d) {t1 : Nat} (ht1 : t1 < 4) {μ : Mem} {r : Int32} {μ' : Mem} (h : S_textsBy t1 μ = some (r, μ')) : V φ ΩA 4 d 0 [some (rf φ 0 0), some (rf φ 16 t1), none, none] [] μ (some (.int r), μ') := by
  unfold S_textsBy at h
  refine V.iconst (v := 0) F dX9_textsBy_0 (by decide) ?_
  refine V.istore_n (L' := [some (rf φ 0 0), some (rf φ 16 t1), some (.int 0), none]) F dX9_textsBy_1 rfl (by decide) rfl rfl rfl ?_
  refine V.iconst (v := 0) F dX9_textsBy_2 (by decide) ?_
  refine V.istore_n (L' := [some (rf φ 0 0), some (rf φ 16 t1), some (.int 0), some (.int 0)]) F dX9_textsBy_3 rfl (by decide) rfl rfl rfl ?_
  exact S_textsBy_4L_ok F hd 1000 _ _ _ ht1 _ _ _ h
set_option maxHeartbeats 4000000 in
set_option maxRecDepth 100000 in
theorem S_textsBy_ct {l : Launch} {G : Glo} {t1 : Nat} (ht1 : t1 < 4) {μ : Mem} {r : Int32} {μ' : Mem} (h : S_textsBy t1 μ = some (r, μ')) : Ct l ΩA G 5 yX9_textsBy cX9_textsBy 4 (some .int) [.ref (G.1 0 0), .ref (G.1 16 t1)] μ (some (.int r), μ') := by
  refine Ct.intro (by decide) (Nat.le_of_ble_eq_true rfl) ?_
  intro φ hl hG F
  subst hl; subst hG
  exact S_textsBy_ok F (Nat.le_refl _) ht1 h
def S_fitCoats_71 (k2 : Nat → Int32 → Mem → Option Mem) (k22 : Nat → Int32 → Int32 → Mem → Option Mem) (t1 : Nat) (x2 : Int32) (x3 : Int32) (μ : Mem) : Option Mem :=
  nm (x3 + 1) fun a1 =>
  k22 t1 x2 a1 μ
set_option maxHeartbeats 4000000 in
set_option maxRecDepth 100000 in
theorem S_fitCoats_71_ok {φ : Fr} {d : Nat} (F : Fx φ ΩA cX9_fitCoats RX9 4 (none)) (hd : 4 ≤ d) {k2 : Nat → Int32 → Mem → Option Mem} (hk2 : ∀ (t1 : Nat) (x2 : Int32) (ht1 : t1 < 4) (μ : Mem)  (μ' : Mem), k2 t1 x2 μ = some μ' → V φ ΩA 4 d 2 [some (rf φ 0 0), some (rf φ 16 t1), some (.int x2), none] [] μ (none, μ')) {k22 : Nat → Int32 → Int32 → Mem → Option Mem} (hk22 : ∀ (t1 : Nat) (x2 : Int32) (x3 : Int32) (ht1 : t1 < 4) (μ : Mem)  (μ' : Mem), k22 t1 x2 x3 μ = some μ' → V φ ΩA 4 d 22 [some (rf φ 0 0), some (rf φ 16 t1), some (.int x2), some (.int x3)] [] μ (none, μ')) {t1 : Nat} {x2 : Int32} {x3 : Int32} (ht1 : t1 < 4) {μ : Mem}  {μ' : Mem} (h : S_fitCoats_71 k2 k22 t1 x2 x3 μ = some μ') : V φ ΩA 4 d 71 [some (rf φ 0 0), some (rf φ 16 t1), some (.int x2), some (.int x3)] [] μ (none, μ') := by
  unfold S_fitCoats_71 at h
  obtain ⟨a1, ea1, h⟩ := nm_out h
  refine V.iinc (z := 1) (L' := [some (rf φ 0 0), some (rf φ 16 t1), some (.int x2), some (.int a1)]) F dX9_fitCoats_71 rfl (by decide) ea1 (by decide) rfl rfl ?_
  refine V.goto (tgt := 22) F dX9_fitCoats_74 (by decide) ?_
  exact hk22 _ _ _ ht1 _ _ h
def S_fitCoats_22 (k2 : Nat → Int32 → Mem → Option Mem) (k22 : Nat → Int32 → Int32 → Mem → Option Mem) (t1 : Nat) (x2 : Int32) (x3 : Int32) (μ : Mem) : Option Mem :=
  if x3 < (rd μ 1 0 3) then (
    bnd (S_seeIn x2 x3 μ) fun μ4 =>
    bnd (S_rule μ4) fun r6 =>
    chk (r6 < 6) <|
    bnd2 (Ma_feels r6 μ4) fun r9 μ10 =>
    chk (inb x2 40) <|
    if r9 = (rd μ10 17 t1 (ix x2)) then (
      chk (inb x2 6) <|
      chk (inb x2 6) <|
      nm (up μ10 29 0 (ix x2) ((rd μ10 29 0 (ix x2)) ||| (shl 1 x3))) fun μ15 =>
      S_fitCoats_71 k2 k22 t1 x2 x3 μ15)
    else (
      S_fitCoats_71 k2 k22 t1 x2 x3 μ10))
  else (
    nm (x2 + 1) fun a2 =>
    k2 t1 a2 μ)
set_option maxHeartbeats 4000000 in
set_option maxRecDepth 100000 in
theorem S_fitCoats_22_ok {φ : Fr} {d : Nat} (F : Fx φ ΩA cX9_fitCoats RX9 4 (none)) (hd : 4 ≤ d) {k2 : Nat → Int32 → Mem → Option Mem} (hk2 : ∀ (t1 : Nat) (x2 : Int32) (ht1 : t1 < 4) (μ : Mem)  (μ' : Mem), k2 t1 x2 μ = some μ' → V φ ΩA 4 d 2 [some (rf φ 0 0), some (rf φ 16 t1), some (.int x2), none] [] μ (none, μ')) {k22 : Nat → Int32 → Int32 → Mem → Option Mem} (hk22 : ∀ (t1 : Nat) (x2 : Int32) (x3 : Int32) (ht1 : t1 < 4) (μ : Mem)  (μ' : Mem), k22 t1 x2 x3 μ = some μ' → V φ ΩA 4 d 22 [some (rf φ 0 0), some (rf φ 16 t1), some (.int x2), some (.int x3)] [] μ (none, μ')) {t1 : Nat} {x2 : Int32} {x3 : Int32} (ht1 : t1 < 4) {μ : Mem}  {μ' : Mem} (h : S_fitCoats_22 k2 k22 t1 x2 x3 μ = some μ') : V φ ΩA 4 d 22 [some (rf φ 0 0), some (rf φ 16 t1), some (.int x2), some (.int x3)] [] μ (none, μ') := by
  unfold S_fitCoats_22 at h
  refine V.iload_n F dX9_fitCoats_22 rfl rfl ?_
  refine V.rload_n F dX9_fitCoats_23 rfl rfl ?_
  refine gf_RX9_10 F dX9_fitCoats_24 ?_
  refine gf_RX9_131 (by decide) F dX9_fitCoats_27 ?_
  refine V.icmp_ge (tgt := 77) F dX9_fitCoats_30 (by decide) (fun c1 => ?_) (fun c1 => ?_)
  · have h := f_out h c1
    obtain ⟨a2, ea2, h⟩ := nm_out h
    refine V.iinc (z := 1) (L' := [some (rf φ 0 0), some (rf φ 16 t1), some (.int a2), some (.int x3)]) F dX9_fitCoats_77 rfl (by decide) ea2 (by decide) rfl rfl ?_
    refine V.goto (tgt := 2) F dX9_fitCoats_80 (by decide) ?_
    refine V.msk (L' := [some (rf φ 0 0), some (rf φ 16 t1), some (.int a2), none]) [true, true, true, false] rfl ?_
    exact hk2 _ _ ht1 _ _ h
  · have h := t_out h c1
    refine V.rload_n F dX9_fitCoats_33 rfl rfl ?_
    refine V.iload_n F dX9_fitCoats_34 rfl rfl ?_
    refine V.iload_n F dX9_fitCoats_35 rfl rfl ?_
    obtain ⟨μ4, e3, h⟩ := bnd_out h
    refine V.callVv (f := 0) (i := 0) (As := [.int x2, .int x3]) F ck_RX9_179 (S_seeIn_ct e3) (by omega) (by decide) rfl mA0 rfl rfl rfl (Nat.le_of_ble_eq_true rfl) dX9_fitCoats_36 ?_
    refine V.rload_n F dX9_fitCoats_39 rfl rfl ?_
    refine gf_RX9_49 F dX9_fitCoats_40 ?_
    refine V.rload_n F dX9_fitCoats_43 rfl rfl ?_
    obtain ⟨r6, e5, h⟩ := bnd_out h
    refine V.callVr (f := 0) (i := 0) (As := []) 5 r6 F ck_RX9_154 (S_rule_ct e5) (by omega) (by decide) rfl mA0 rfl rfl rfl (Nat.le_of_ble_eq_true rfl) dX9_fitCoats_44 ?_
    obtain ⟨c7, h⟩ := chk_out h
    obtain ⟨r9, μ10, e8, h⟩ := bnd2_out h
    refine V.callVi (f := 18) (i := 0) (As := [rf φ 5 r6]) F ck_RX9_164 (Ma_feels_ct c7 e8) (by omega) (by decide) rfl mA18 rfl rfl rfl (Nat.le_of_ble_eq_true rfl) dX9_fitCoats_47 ?_
    refine V.rload_n F dX9_fitCoats_50 rfl rfl ?_
    refine gf_RX9_300 ht1 F dX9_fitCoats_51 ?_
    refine V.iload_n F dX9_fitCoats_54 rfl rfl ?_
    obtain ⟨c11, h⟩ := chk_out h
    refine V.iald (t0 := 0) (n := 40) F (mA17 ht1) rfl rfl c11 dX9_fitCoats_55 ?_
    refine V.icmp_ne (tgt := 71) F dX9_fitCoats_56 (by decide) (fun c12 => ?_) (fun c12 => ?_)
    · have h := f_out h c12
      exact S_fitCoats_71_ok F hd hk2 hk22 ht1 h
    · have h := t_out h c12
      refine V.rload_n F dX9_fitCoats_59 rfl rfl ?_
      refine gf_RX9_72 F dX9_fitCoats_60 ?_
      refine V.iload_n F dX9_fitCoats_63 rfl rfl ?_
      refine V.dup2 F dX9_fitCoats_64 rfl rfl ?_
      obtain ⟨c13, h⟩ := chk_out h
      refine V.iald (t0 := 0) (n := 6) F mA29 rfl rfl c13 dX9_fitCoats_65 ?_
      refine V.iconst (v := 1) F dX9_fitCoats_66 (by decide) ?_
      refine V.iload_n F dX9_fitCoats_67 rfl rfl ?_
      refine V.ishl F dX9_fitCoats_68 ?_
      refine V.ior F dX9_fitCoats_69 ?_
      obtain ⟨c14, h⟩ := chk_out h
      obtain ⟨μ15, eμ15, h⟩ := nm_out h
      refine V.iast (t0 := 0) (n := 6) F mA29 (fun _ => rfl) rfl c14 eμ15 dX9_fitCoats_70 ?_
      exact S_fitCoats_71_ok F hd hk2 hk22 ht1 h
def S_fitCoats_22L (k2 : Nat → Int32 → Mem → Option Mem) : Nat → Nat → Int32 → Int32 → Mem → Option Mem
  | 0 => fun _ _ _ _ => none
  | n + 1 => S_fitCoats_22 k2 (S_fitCoats_22L k2 n)
set_option maxHeartbeats 4000000 in
set_option maxRecDepth 100000 in
theorem S_fitCoats_22L_ok {φ : Fr} {d : Nat} (F : Fx φ ΩA cX9_fitCoats RX9 4 (none)) (hd : 4 ≤ d) {k2 : Nat → Int32 → Mem → Option Mem} (hk2 : ∀ (t1 : Nat) (x2 : Int32) (ht1 : t1 < 4) (μ : Mem)  (μ' : Mem), k2 t1 x2 μ = some μ' → V φ ΩA 4 d 2 [some (rf φ 0 0), some (rf φ 16 t1), some (.int x2), none] [] μ (none, μ')) : ∀ (n : Nat) (t1 : Nat) (x2 : Int32) (x3 : Int32) (ht1 : t1 < 4) (μ : Mem)  (μ' : Mem), S_fitCoats_22L k2 n t1 x2 x3 μ = some μ' → V φ ΩA 4 d 22 [some (rf φ 0 0), some (rf φ 16 t1), some (.int x2), some (.int x3)] [] μ (none, μ') := by
  intro n
  induction n with
  | zero => intro t1 x2 x3 ht1 μ μ' h; cases h
  | succ n ih => intro t1 x2 x3 ht1 μ μ' h; exact S_fitCoats_22_ok F hd hk2 ih ht1 h
def S_fitCoats_2 (k2 : Nat → Int32 → Mem → Option Mem) (t1 : Nat) (x2 : Int32) (μ : Mem) : Option Mem :=
  if x2 < (rd μ 1 0 3) then (
    chk (inb x2 6) <|
    nm (up μ 29 0 (ix x2) 0) fun μ3 =>
    S_fitCoats_22L k2 1000 t1 x2 0 μ3)
  else (
    some μ)
set_option maxHeartbeats 4000000 in
set_option maxRecDepth 100000 in
theorem S_fitCoats_2_ok {φ : Fr} {d : Nat} (F : Fx φ ΩA cX9_fitCoats RX9 4 (none)) (hd : 4 ≤ d) {k2 : Nat → Int32 → Mem → Option Mem} (hk2 : ∀ (t1 : Nat) (x2 : Int32) (ht1 : t1 < 4) (μ : Mem)  (μ' : Mem), k2 t1 x2 μ = some μ' → V φ ΩA 4 d 2 [some (rf φ 0 0), some (rf φ 16 t1), some (.int x2), none] [] μ (none, μ')) {t1 : Nat} {x2 : Int32} (ht1 : t1 < 4) {μ : Mem}  {μ' : Mem} (h : S_fitCoats_2 k2 t1 x2 μ = some μ') : V φ ΩA 4 d 2 [some (rf φ 0 0), some (rf φ 16 t1), some (.int x2), none] [] μ (none, μ') := by
  unfold S_fitCoats_2 at h
  refine V.iload_n F dX9_fitCoats_2 rfl rfl ?_
  refine V.rload_n F dX9_fitCoats_3 rfl rfl ?_
  refine gf_RX9_10 F dX9_fitCoats_4 ?_
  refine gf_RX9_131 (by decide) F dX9_fitCoats_7 ?_
  refine V.icmp_ge (tgt := 83) F dX9_fitCoats_10 (by decide) (fun c1 => ?_) (fun c1 => ?_)
  · have h := f_out h c1
    obtain rfl := r1_out h
    exact V.vret F dX9_fitCoats_83
  · have h := t_out h c1
    refine V.rload_n F dX9_fitCoats_13 rfl rfl ?_
    refine gf_RX9_72 F dX9_fitCoats_14 ?_
    refine V.iload_n F dX9_fitCoats_17 rfl rfl ?_
    refine V.iconst (v := 0) F dX9_fitCoats_18 (by decide) ?_
    obtain ⟨c2, h⟩ := chk_out h
    obtain ⟨μ3, eμ3, h⟩ := nm_out h
    refine V.iast (t0 := 0) (n := 6) F mA29 (fun _ => rfl) rfl c2 eμ3 dX9_fitCoats_19 ?_
    refine V.iconst (v := 0) F dX9_fitCoats_20 (by decide) ?_
    refine V.istore_n (L' := [some (rf φ 0 0), some (rf φ 16 t1), some (.int x2), some (.int 0)]) F dX9_fitCoats_21 rfl (by decide) rfl rfl rfl ?_
    exact S_fitCoats_22L_ok F hd hk2 1000 _ _ _ ht1 _ _ h
def S_fitCoats_2L : Nat → Nat → Int32 → Mem → Option Mem
  | 0 => fun _ _ _ => none
  | n + 1 => S_fitCoats_2 (S_fitCoats_2L n)
set_option maxHeartbeats 4000000 in
set_option maxRecDepth 100000 in
theorem S_fitCoats_2L_ok {φ : Fr} {d : Nat} (F : Fx φ ΩA cX9_fitCoats RX9 4 (none)) (hd : 4 ≤ d) : ∀ (n : Nat) (t1 : Nat) (x2 : Int32) (ht1 : t1 < 4) (μ : Mem)  (μ' : Mem), S_fitCoats_2L n t1 x2 μ = some μ' → V φ ΩA 4 d 2 [some (rf φ 0 0), some (rf φ 16 t1), some (.int x2), none] [] μ (none, μ') := by
  intro n
  induction n with
  | zero => intro t1 x2 ht1 μ μ' h; cases h
  | succ n ih => intro t1 x2 ht1 μ μ' h; exact S_fitCoats_2_ok F hd ih ht1 h
def S_fitCoats (t1 : Nat) (μ : Mem) : Option Mem :=
  S_fitCoats_2L 1000 t1 0 μ
set_option maxHeartbeats 4000000 in
set_option maxRecDepth 100000 in
theorem S_fitCoats_ok {φ : Fr} {d : Nat} (F : Fx φ ΩA cX9_fitCoats RX9 4 (none)) (hd : 4 ≤ d) {t1 : Nat} (ht1 : t1 < 4) {μ : Mem}  {μ' : Mem} (h : S_fitCoats t1 μ = some μ') : V φ ΩA 4 d 0 [some (rf φ 0 0), some (rf φ 16 t1), none, none] [] μ (none, μ') := by
  unfold S_fitCoats at h
  refine V.iconst (v := 0) F dX9_fitCoats_0 (by decide) ?_
  refine V.istore_n (L' := [some (rf φ 0 0), some (rf φ 16 t1), some (.int 0), none]) F dX9_fitCoats_1 rfl (by decide) rfl rfl rfl ?_
  exact S_fitCoats_2L_ok F hd 1000 _ _ ht1 _ _ h
set_option maxHeartbeats 4000000 in
set_option maxRecDepth 100000 in
theorem S_fitCoats_ct {l : Launch} {G : Glo} {t1 : Nat} (ht1 : t1 < 4) {μ : Mem}  {μ' : Mem} (h : S_fitCoats t1 μ = some μ') : Ct l ΩA G 4 yX9_fitCoats cX9_fitCoats 4 (none) [.ref (G.1 0 0), .ref (G.1 16 t1)] μ (none, μ') := by
  refine Ct.intro (by decide) (Nat.le_of_ble_eq_true rfl) ?_
  intro φ hl hG F
  subst hl; subst hG
  exact S_fitCoats_ok F (Nat.le_refl _) ht1 h
def S_waysBy_102 (k40 : Int32 → Int32 → Int32 → Int32 → Int32 → Mem → Option (Int32 × Mem)) (x2 : Int32) (x3 : Int32) (x4 : Int32) (x5 : Int32) (x6 : Int32) (μ : Mem) : Option (Int32 × Mem) :=
  bnd (Wa_step μ) fun μ2 =>
  nm (x6 + 1) fun a3 =>
  k40 x2 x3 x4 x5 a3 μ2
set_option maxHeartbeats 4000000 in
set_option maxRecDepth 100000 in
theorem S_waysBy_102_ok {φ : Fr} {d : Nat} (F : Fx φ ΩA cX9_waysBy RX9 7 (some .int)) (hd : 5 ≤ d) {k40 : Int32 → Int32 → Int32 → Int32 → Int32 → Mem → Option (Int32 × Mem)} (hk40 : ∀ (x2 : Int32) (x3 : Int32) (x4 : Int32) (x5 : Int32) (x6 : Int32) (μ : Mem) (r : Int32) (μ' : Mem), k40 x2 x3 x4 x5 x6 μ = some (r, μ') → V φ ΩA 7 d 40 [some (rf φ 0 0), none, some (.int x2), some (.int x3), some (.int x4), some (.int x5), some (.int x6)] [] μ (some (.int r), μ')) {x2 : Int32} {x3 : Int32} {x4 : Int32} {x5 : Int32} {x6 : Int32} {μ : Mem} {r : Int32} {μ' : Mem} (h : S_waysBy_102 k40 x2 x3 x4 x5 x6 μ = some (r, μ')) : V φ ΩA 7 d 102 [some (rf φ 0 0), none, some (.int x2), some (.int x3), some (.int x4), some (.int x5), some (.int x6)] [] μ (some (.int r), μ') := by
  unfold S_waysBy_102 at h
  refine V.rload_n F dX9_waysBy_102 rfl rfl ?_
  refine gf_RX9_56 F dX9_waysBy_103 ?_
  obtain ⟨μ2, e1, h⟩ := bnd_out h
  refine V.callVv (f := 20) (i := 0) (As := []) F ck_RX9_248 (Wa_step_ct e1) (by omega) (by decide) rfl mA20 rfl rfl rfl (Nat.le_of_ble_eq_true rfl) dX9_waysBy_106 ?_
  obtain ⟨a3, ea3, h⟩ := nm_out h
  refine V.iinc (z := 1) (L' := [some (rf φ 0 0), none, some (.int x2), some (.int x3), some (.int x4), some (.int x5), some (.int a3)]) F dX9_waysBy_109 rfl (by decide) ea3 (by decide) rfl rfl ?_
  refine V.goto (tgt := 40) F dX9_waysBy_112 (by decide) ?_
  exact hk40 _ _ _ _ _ _ _ _ h
def S_waysBy_90 (k40 : Int32 → Int32 → Int32 → Int32 → Int32 → Mem → Option (Int32 × Mem)) (x2 : Int32) (x3 : Int32) (x4 : Int32) (x5 : Int32) (x6 : Int32) (μ : Mem) : Option (Int32 × Mem) :=
  bnd (Wa_asMarked μ) fun r2 =>
  nm (x5 &&& r2) fun a3 =>
  S_waysBy_102 k40 x2 x3 x4 a3 x6 μ
set_option maxHeartbeats 4000000 in
set_option maxRecDepth 100000 in
theorem S_waysBy_90_ok {φ : Fr} {d : Nat} (F : Fx φ ΩA cX9_waysBy RX9 7 (some .int)) (hd : 5 ≤ d) {k40 : Int32 → Int32 → Int32 → Int32 → Int32 → Mem → Option (Int32 × Mem)} (hk40 : ∀ (x2 : Int32) (x3 : Int32) (x4 : Int32) (x5 : Int32) (x6 : Int32) (μ : Mem) (r : Int32) (μ' : Mem), k40 x2 x3 x4 x5 x6 μ = some (r, μ') → V φ ΩA 7 d 40 [some (rf φ 0 0), none, some (.int x2), some (.int x3), some (.int x4), some (.int x5), some (.int x6)] [] μ (some (.int r), μ')) {x2 : Int32} {x3 : Int32} {x4 : Int32} {x5 : Int32} {x6 : Int32} {μ : Mem} {r : Int32} {μ' : Mem} (h : S_waysBy_90 k40 x2 x3 x4 x5 x6 μ = some (r, μ')) : V φ ΩA 7 d 90 [some (rf φ 0 0), none, some (.int x2), some (.int x3), some (.int x4), some (.int x5), some (.int x6)] [] μ (some (.int r), μ') := by
  unfold S_waysBy_90 at h
  refine V.iload F dX9_waysBy_90 rfl ?_
  refine V.rload_n F dX9_waysBy_92 rfl rfl ?_
  refine gf_RX9_56 F dX9_waysBy_93 ?_
  obtain ⟨r2, e1, h⟩ := bnd_out h
  refine V.callVi (f := 20) (i := 0) (As := []) F ck_RX9_317 (Wa_asMarked_ct e1) (by omega) (by decide) rfl mA20 rfl rfl rfl (Nat.le_of_ble_eq_true rfl) dX9_waysBy_96 ?_
  refine V.iand F dX9_waysBy_99 ?_
  obtain ⟨a3, ea3, h⟩ := nm_out h
  refine V.istore (L' := [some (rf φ 0 0), none, some (.int x2), some (.int x3), some (.int x4), some (.int a3), some (.int x6)]) F dX9_waysBy_100 (by decide) rfl ea3 rfl ?_
  exact S_waysBy_102_ok F hd hk40 h
def S_waysBy_40 (k40 : Int32 → Int32 → Int32 → Int32 → Int32 → Mem → Option (Int32 × Mem)) (x2 : Int32) (x3 : Int32) (x4 : Int32) (x5 : Int32) (x6 : Int32) (μ : Mem) : Option (Int32 × Mem) :=
  if x6 < (rd μ 20 0 1) then (
    bnd (Wa_isAmong μ) fun r6 =>
    if r6 = 0 then (
      S_waysBy_102 k40 x2 x3 x4 x5 x6 μ)
    else (
      nm (x3 + 1) fun a8 =>
      if a8 = 1 then (
        bnd (Wa_digits μ) fun r11 =>
        bnd (Wa_mark μ) fun μ13 =>
        S_waysBy_90 k40 x2 a8 r11 x5 x6 μ13)
      else (
        S_waysBy_90 k40 x2 a8 x4 x5 x6 μ)))
  else (
    if x2 = 1 then (
      some (x3, μ))
    else (
    if x2 = 2 then (
      some (x4, μ))
    else (
    if x3 = 0 then (
      some (0, μ))
    else (
      some (x5, μ)))))
set_option maxHeartbeats 4000000 in
set_option maxRecDepth 100000 in
theorem S_waysBy_40_ok {φ : Fr} {d : Nat} (F : Fx φ ΩA cX9_waysBy RX9 7 (some .int)) (hd : 5 ≤ d) {k40 : Int32 → Int32 → Int32 → Int32 → Int32 → Mem → Option (Int32 × Mem)} (hk40 : ∀ (x2 : Int32) (x3 : Int32) (x4 : Int32) (x5 : Int32) (x6 : Int32) (μ : Mem) (r : Int32) (μ' : Mem), k40 x2 x3 x4 x5 x6 μ = some (r, μ') → V φ ΩA 7 d 40 [some (rf φ 0 0), none, some (.int x2), some (.int x3), some (.int x4), some (.int x5), some (.int x6)] [] μ (some (.int r), μ')) {x2 : Int32} {x3 : Int32} {x4 : Int32} {x5 : Int32} {x6 : Int32} {μ : Mem} {r : Int32} {μ' : Mem} (h : S_waysBy_40 k40 x2 x3 x4 x5 x6 μ = some (r, μ')) : V φ ΩA 7 d 40 [some (rf φ 0 0), none, some (.int x2), some (.int x3), some (.int x4), some (.int x5), some (.int x6)] [] μ (some (.int r), μ') := by
  unfold S_waysBy_40 at h
  refine V.iload F dX9_waysBy_40 rfl ?_
  refine V.rload_n F dX9_waysBy_42 rfl rfl ?_
  refine gf_RX9_56 F dX9_waysBy_43 ?_
  refine gf_RX9_239 F dX9_waysBy_46 ?_
  refine V.icmp_ge (tgt := 115) F dX9_waysBy_49 (by decide) (fun c1 => ?_) (fun c1 => ?_)
  · have h := f_out h c1
    refine V.iload_n F dX9_waysBy_115 rfl rfl ?_
    by_cases c2 : x2 = 1
    · have h := t_out h c2
      refine V.lookup (tgt := 144) (off := 28) F dX9_waysBy_116 (by decide) (by rw [c2]; try rfl) (by decide) ?_
      refine V.iload_n F dX9_waysBy_144 rfl rfl ?_
      obtain ⟨rfl, rfl⟩ := r2_out h
      exact V.iret F dX9_waysBy_145
    have h := f_out h c2
    by_cases c3 : x2 = 2
    · have h := t_out h c3
      refine V.lookup (tgt := 146) (off := 30) F dX9_waysBy_116 (by decide) (by rw [c3]; try rfl) (by decide) ?_
      refine V.iload F dX9_waysBy_146 rfl ?_
      obtain ⟨rfl, rfl⟩ := r2_out h
      exact V.iret F dX9_waysBy_148
    have h := f_out h c3
    refine V.lookup (tgt := 149) (off := 33) F dX9_waysBy_116 (by decide) (by show Op.lookupswitch.offset [(1, 28), (2, 30)] _ _ = _; rw [lv_osw c2 (by decide), lv_osw c3 (by decide)]; try rfl) (by decide) ?_
    refine V.iload_n F dX9_waysBy_149 rfl rfl ?_
    refine V.if_ne (tgt := 157) F dX9_waysBy_150 (by decide) (fun c4 => ?_) (fun c4 => ?_)
    · have h := f_out h c4
      refine V.iload F dX9_waysBy_157 rfl ?_
      obtain ⟨rfl, rfl⟩ := r2_out h
      exact V.iret F dX9_waysBy_159
    · have h := t_out h c4
      refine V.iconst (v := 0) F dX9_waysBy_153 (by decide) ?_
      refine V.goto (tgt := 159) F dX9_waysBy_154 (by decide) ?_
      obtain ⟨rfl, rfl⟩ := r2_out h
      exact V.iret F dX9_waysBy_159
  · have h := t_out h c1
    refine V.rload_n F dX9_waysBy_52 rfl rfl ?_
    refine gf_RX9_56 F dX9_waysBy_53 ?_
    refine V.rload_n F dX9_waysBy_56 rfl rfl ?_
    refine gf_RX9_72 F dX9_waysBy_57 ?_
    obtain ⟨r6, e5, h⟩ := bnd_out h
    refine V.callVi (f := 20) (i := 0) (As := [rf φ 29 0]) F ck_RX9_310 (Wa_isAmong_ct e5) (by omega) (by decide) rfl mA20 rfl rfl rfl (Nat.le_of_ble_eq_true rfl) dX9_waysBy_60 ?_
    refine V.if_eq (tgt := 102) F dX9_waysBy_63 (by decide) (fun c7 => ?_) (fun c7 => ?_)
    · have h := t_out h c7
      exact S_waysBy_102_ok F hd hk40 h
    · have h := f_out h c7
      obtain ⟨a8, ea8, h⟩ := nm_out h
      refine V.iinc (z := 1) (L' := [some (rf φ 0 0), none, some (.int x2), some (.int a8), some (.int x4), some (.int x5), some (.int x6)]) F dX9_waysBy_66 rfl (by decide) ea8 (by decide) rfl rfl ?_
      refine V.iload_n F dX9_waysBy_69 rfl rfl ?_
      refine V.iconst (v := 1) F dX9_waysBy_70 (by decide) ?_
      refine V.icmp_ne (tgt := 90) F dX9_waysBy_71 (by decide) (fun c9 => ?_) (fun c9 => ?_)
      · have h := f_out h c9
        exact S_waysBy_90_ok F hd hk40 h
      · have h := t_out h c9
        refine V.rload_n F dX9_waysBy_74 rfl rfl ?_
        refine gf_RX9_56 F dX9_waysBy_75 ?_
        obtain ⟨r11, e10, h⟩ := bnd_out h
        refine V.callVi (f := 20) (i := 0) (As := []) F ck_RX9_245 (Wa_digits_ct e10) (by omega) (by decide) rfl mA20 rfl rfl rfl (Nat.le_of_ble_eq_true rfl) dX9_waysBy_78 ?_
        refine V.istore (L' := [some (rf φ 0 0), none, some (.int x2), some (.int a8), some (.int r11), some (.int x5), some (.int x6)]) F dX9_waysBy_81 (by decide) rfl rfl rfl ?_
        refine V.rload_n F dX9_waysBy_83 rfl rfl ?_
        refine gf_RX9_56 F dX9_waysBy_84 ?_
        obtain ⟨μ13, e12, h⟩ := bnd_out h
        refine V.callVv (f := 20) (i := 0) (As := []) F ck_RX9_314 (Wa_mark_ct e12) (by omega) (by decide) rfl mA20 rfl rfl rfl (Nat.le_of_ble_eq_true rfl) dX9_waysBy_87 ?_
        exact S_waysBy_90_ok F hd hk40 h
def S_waysBy_40L : Nat → Int32 → Int32 → Int32 → Int32 → Int32 → Mem → Option (Int32 × Mem)
  | 0 => fun _ _ _ _ _ _ => none
  | n + 1 => S_waysBy_40 (S_waysBy_40L n)
set_option maxHeartbeats 4000000 in
set_option maxRecDepth 100000 in
theorem S_waysBy_40L_ok {φ : Fr} {d : Nat} (F : Fx φ ΩA cX9_waysBy RX9 7 (some .int)) (hd : 5 ≤ d) : ∀ (n : Nat) (x2 : Int32) (x3 : Int32) (x4 : Int32) (x5 : Int32) (x6 : Int32) (μ : Mem) (r : Int32) (μ' : Mem), S_waysBy_40L n x2 x3 x4 x5 x6 μ = some (r, μ') → V φ ΩA 7 d 40 [some (rf φ 0 0), none, some (.int x2), some (.int x3), some (.int x4), some (.int x5), some (.int x6)] [] μ (some (.int r), μ') := by
  intro n
  induction n with
  | zero => intro x2 x3 x4 x5 x6 μ r μ' h; cases h
  | succ n ih => intro x2 x3 x4 x5 x6 μ r μ' h; exact S_waysBy_40_ok F hd ih h
def S_waysBy (t1 : Nat) (x2 : Int32) (μ : Mem) : Option (Int32 × Mem) :=
  bnd (S_fitCoats t1 μ) fun μ2 =>
  bnd (Wa_begin (rd μ2 1 0 3) μ2) fun μ4 =>
  nm ((shl 1 (rd μ4 1 0 3)) - 1) fun a5 =>
  S_waysBy_40L 1000 x2 0 0 a5 0 μ4
set_option maxHeartbeats 4000000 in
set_option maxRecDepth 100000 in
theorem S_waysBy_ok {φ : Fr} {d : Nat} (F : Fx φ ΩA cX9_waysBy RX9 7 (some .int)) (hd : 5 ≤ d) {t1 : Nat} {x2 : Int32} (ht1 : t1 < 4) {μ : Mem} {r : Int32} {μ' : Mem} (h : S_waysBy t1 x2 μ = some (r, μ')) : V φ ΩA 7 d 0 [some (rf φ 0 0), some (rf φ 16 t1), some (.int x2), none, none, none, none] [] μ (some (.int r), μ') := by
  unfold S_waysBy at h
  refine V.rload_n F dX9_waysBy_0 rfl rfl ?_
  refine V.rload_n F dX9_waysBy_1 rfl rfl ?_
  obtain ⟨μ2, e1, h⟩ := bnd_out h
  refine V.callVv (f := 0) (i := 0) (As := [rf φ 16 t1]) F ck_RX9_306 (S_fitCoats_ct ht1 e1) (by omega) (by decide) rfl mA0 rfl rfl rfl (Nat.le_of_ble_eq_true rfl) dX9_waysBy_2 ?_
  refine V.rload_n F dX9_waysBy_5 rfl rfl ?_
  refine gf_RX9_56 F dX9_waysBy_6 ?_
  refine V.rload_n F dX9_waysBy_9 rfl rfl ?_
  refine gf_RX9_10 F dX9_waysBy_10 ?_
  refine gf_RX9_131 (by decide) F dX9_waysBy_13 ?_
  obtain ⟨μ4, e3, h⟩ := bnd_out h
  refine V.callVv (f := 20) (i := 0) (As := [.int (rd μ2 1 0 3)]) F ck_RX9_236 (Wa_begin_ct e3) (by omega) (by decide) rfl mA20 rfl rfl rfl (Nat.le_of_ble_eq_true rfl) dX9_waysBy_16 ?_
  refine V.iconst (v := 0) F dX9_waysBy_19 (by decide) ?_
  refine V.istore_n (L' := [some (rf φ 0 0), some (rf φ 16 t1), some (.int x2), some (.int 0), none, none, none]) F dX9_waysBy_20 rfl (by decide) rfl rfl rfl ?_
  refine V.iconst (v := 0) F dX9_waysBy_21 (by decide) ?_
  refine V.istore (L' := [some (rf φ 0 0), some (rf φ 16 t1), some (.int x2), some (.int 0), some (.int 0), none, none]) F dX9_waysBy_22 (by decide) rfl rfl rfl ?_
  refine V.iconst (v := 1) F dX9_waysBy_24 (by decide) ?_
  refine V.rload_n F dX9_waysBy_25 rfl rfl ?_
  refine gf_RX9_10 F dX9_waysBy_26 ?_
  refine gf_RX9_131 (by decide) F dX9_waysBy_29 ?_
  refine V.ishl F dX9_waysBy_32 ?_
  refine V.iconst (v := 1) F dX9_waysBy_33 (by decide) ?_
  refine V.isub F dX9_waysBy_34 ?_
  obtain ⟨a5, ea5, h⟩ := nm_out h
  refine V.istore (L' := [some (rf φ 0 0), some (rf φ 16 t1), some (.int x2), some (.int 0), some (.int 0), some (.int a5), none]) F dX9_waysBy_35 (by decide) rfl ea5 rfl ?_
  refine V.iconst (v := 0) F dX9_waysBy_37 (by decide) ?_
  refine V.istore (L' := [some (rf φ 0 0), some (rf φ 16 t1), some (.int x2), some (.int 0), some (.int 0), some (.int a5), some (.int 0)]) F dX9_waysBy_38 (by decide) rfl rfl rfl ?_
  refine V.msk (L' := [some (rf φ 0 0), none, some (.int x2), some (.int 0), some (.int 0), some (.int a5), some (.int 0)]) [true, false, true, true, true, true, true] rfl ?_
  exact S_waysBy_40L_ok F hd 1000 _ _ _ _ _ _ _ _ h
set_option maxHeartbeats 4000000 in
set_option maxRecDepth 100000 in
theorem S_waysBy_ct {l : Launch} {G : Glo} {t1 : Nat} {x2 : Int32} (ht1 : t1 < 4) {μ : Mem} {r : Int32} {μ' : Mem} (h : S_waysBy t1 x2 μ = some (r, μ')) : Ct l ΩA G 5 yX9_waysBy cX9_waysBy 7 (some .int) [.ref (G.1 0 0), .ref (G.1 16 t1), .int x2] μ (some (.int r), μ') := by
  refine Ct.intro (by decide) (Nat.le_of_ble_eq_true rfl) ?_
  intro φ hl hG F
  subst hl; subst hG
  exact S_waysBy_ok F (Nat.le_refl _) ht1 h
def S_wearerOf_2 (k2 : Int32 → Int32 → Mem → Option Int32) (x1 : Int32) (x2 : Int32) (μ : Mem) : Option Int32 :=
  if x2 < (rd μ 1 0 3) then (
    chk (inb x2 6) <|
    if (rd μ 2 (ix x2) 4) = x1 then (
      some x2)
    else (
      nm (x2 + 1) fun a4 =>
      k2 x1 a4 μ))
  else (
    some x1)
set_option maxHeartbeats 4000000 in
set_option maxRecDepth 100000 in
theorem S_wearerOf_2_ok {φ : Fr} {d : Nat} (F : Fx φ ΩA cX9_wearerOf RX9 3 (some .int)) (hd : 1 ≤ d) {k2 : Int32 → Int32 → Mem → Option Int32} (hk2 : ∀ (x1 : Int32) (x2 : Int32) (μ : Mem) (r : Int32), k2 x1 x2 μ = some r → V φ ΩA 3 d 2 [some (rf φ 0 0), some (.int x1), some (.int x2)] [] μ (some (.int r), μ)) {x1 : Int32} {x2 : Int32} {μ : Mem} {r : Int32} (h : S_wearerOf_2 k2 x1 x2 μ = some r) : V φ ΩA 3 d 2 [some (rf φ 0 0), some (.int x1), some (.int x2)] [] μ (some (.int r), μ) := by
  unfold S_wearerOf_2 at h
  refine V.iload_n F dX9_wearerOf_2 rfl rfl ?_
  refine V.rload_n F dX9_wearerOf_3 rfl rfl ?_
  refine gf_RX9_10 F dX9_wearerOf_4 ?_
  refine gf_RX9_131 (by decide) F dX9_wearerOf_7 ?_
  refine V.icmp_ge (tgt := 37) F dX9_wearerOf_10 (by decide) (fun c1 => ?_) (fun c1 => ?_)
  · have h := f_out h c1
    refine V.iload_n F dX9_wearerOf_37 rfl rfl ?_
    obtain rfl := r1_out h
    exact V.iret F dX9_wearerOf_38
  · have h := t_out h c1
    refine V.rload_n F dX9_wearerOf_13 rfl rfl ?_
    refine gf_RX9_10 F dX9_wearerOf_14 ?_
    refine gf_RX9_112 (by decide) F dX9_wearerOf_17 ?_
    refine V.iload_n F dX9_wearerOf_20 rfl rfl ?_
    obtain ⟨c2, h⟩ := chk_out h
    refine V.aald (t0 := 2) (n := 6) 2 (ix x2) F (mA3 (by decide)) rfl rfl c2 rfl dX9_wearerOf_21 ?_
    refine gf_RX9_137 (Nat.lt_of_lt_of_le (inb_lt c2) (by decide)) F dX9_wearerOf_22 ?_
    refine V.iload_n F dX9_wearerOf_25 rfl rfl ?_
    refine V.icmp_ne (tgt := 31) F dX9_wearerOf_26 (by decide) (fun c3 => ?_) (fun c3 => ?_)
    · have h := f_out h c3
      obtain ⟨a4, ea4, h⟩ := nm_out h
      refine V.iinc (z := 1) (L' := [some (rf φ 0 0), some (.int x1), some (.int a4)]) F dX9_wearerOf_31 rfl (by decide) ea4 (by decide) rfl rfl ?_
      refine V.goto (tgt := 2) F dX9_wearerOf_34 (by decide) ?_
      exact hk2 _ _ _ _ h
    · have h := t_out h c3
      refine V.iload_n F dX9_wearerOf_29 rfl rfl ?_
      obtain rfl := r1_out h
      exact V.iret F dX9_wearerOf_30
def S_wearerOf_2L : Nat → Int32 → Int32 → Mem → Option Int32
  | 0 => fun _ _ _ => none
  | n + 1 => S_wearerOf_2 (S_wearerOf_2L n)
set_option maxHeartbeats 4000000 in
set_option maxRecDepth 100000 in
theorem S_wearerOf_2L_ok {φ : Fr} {d : Nat} (F : Fx φ ΩA cX9_wearerOf RX9 3 (some .int)) (hd : 1 ≤ d) : ∀ (n : Nat) (x1 : Int32) (x2 : Int32) (μ : Mem) (r : Int32), S_wearerOf_2L n x1 x2 μ = some r → V φ ΩA 3 d 2 [some (rf φ 0 0), some (.int x1), some (.int x2)] [] μ (some (.int r), μ) := by
  intro n
  induction n with
  | zero => intro x1 x2 μ r h; cases h
  | succ n ih => intro x1 x2 μ r h; exact S_wearerOf_2_ok F hd ih h
def S_wearerOf (x1 : Int32) (μ : Mem) : Option Int32 :=
  S_wearerOf_2L 1000 x1 0 μ
set_option maxHeartbeats 4000000 in
set_option maxRecDepth 100000 in
theorem S_wearerOf_ok {φ : Fr} {d : Nat} (F : Fx φ ΩA cX9_wearerOf RX9 3 (some .int)) (hd : 1 ≤ d) {x1 : Int32} {μ : Mem} {r : Int32} (h : S_wearerOf x1 μ = some r) : V φ ΩA 3 d 0 [some (rf φ 0 0), some (.int x1), none] [] μ (some (.int r), μ) := by
  unfold S_wearerOf at h
  refine V.iconst (v := 0) F dX9_wearerOf_0 (by decide) ?_
  refine V.istore_n (L' := [some (rf φ 0 0), some (.int x1), some (.int 0)]) F dX9_wearerOf_1 rfl (by decide) rfl rfl rfl ?_
  exact S_wearerOf_2L_ok F hd 1000 _ _ _ _ h
set_option maxHeartbeats 4000000 in
set_option maxRecDepth 100000 in
theorem S_wearerOf_ct {l : Launch} {G : Glo} {x1 : Int32} {μ : Mem} {r : Int32} (h : S_wearerOf x1 μ = some r) : Ct l ΩA G 1 yX9_wearerOf cX9_wearerOf 3 (some .int) [.ref (G.1 0 0), .int x1] μ (some (.int r), μ) := by
  refine Ct.intro (by decide) (Nat.le_of_ble_eq_true rfl) ?_
  intro φ hl hG F
  subst hl; subst hG
  exact S_wearerOf_ok F (Nat.le_refl _) h
def S_wouldBeSo_175 (k76 : Nat → Int32 → Int32 → Int32 → Int32 → Int32 → Mem → Option (Int32 × Mem)) (t1 : Nat) (x2 : Int32) (x4 : Int32) (x6 : Int32) (x7 : Int32) (x8 : Int32) (μ : Mem) : Option (Int32 × Mem) :=
  nm (x8 + 1) fun a1 =>
  k76 t1 x2 x4 x6 x7 a1 μ
set_option maxHeartbeats 4000000 in
set_option maxRecDepth 100000 in
theorem S_wouldBeSo_175_ok {φ : Fr} {d : Nat} (F : Fx φ ΩA cX9_wouldBeSo RX9 9 (some .int)) (hd : 5 ≤ d) {k76 : Nat → Int32 → Int32 → Int32 → Int32 → Int32 → Mem → Option (Int32 × Mem)} (hk76 : ∀ (t1 : Nat) (x2 : Int32) (x4 : Int32) (x6 : Int32) (x7 : Int32) (x8 : Int32) (ht1 : t1 < 4) (μ : Mem) (r : Int32) (μ' : Mem), k76 t1 x2 x4 x6 x7 x8 μ = some (r, μ') → V φ ΩA 9 d 76 [some (rf φ 0 0), some (rf φ 16 t1), some (.int x2), none, some (.int x4), none, some (.int x6), some (.int x7), some (.int x8)] [] μ (some (.int r), μ')) {t1 : Nat} {x2 : Int32} {x4 : Int32} {x6 : Int32} {x7 : Int32} {x8 : Int32} (ht1 : t1 < 4) {μ : Mem} {r : Int32} {μ' : Mem} (h : S_wouldBeSo_175 k76 t1 x2 x4 x6 x7 x8 μ = some (r, μ')) : V φ ΩA 9 d 175 [some (rf φ 0 0), some (rf φ 16 t1), some (.int x2), none, some (.int x4), none, some (.int x6), some (.int x7), some (.int x8)] [] μ (some (.int r), μ') := by
  unfold S_wouldBeSo_175 at h
  obtain ⟨a1, ea1, h⟩ := nm_out h
  refine V.iinc (z := 1) (L' := [some (rf φ 0 0), some (rf φ 16 t1), some (.int x2), none, some (.int x4), none, some (.int x6), some (.int x7), some (.int a1)]) F dX9_wouldBeSo_175 rfl (by decide) ea1 (by decide) rfl rfl ?_
  refine V.goto (tgt := 76) F dX9_wouldBeSo_178 (by decide) ?_
  exact hk76 _ _ _ _ _ _ ht1 _ _ _ h
def S_wouldBeSo_145 (k76 : Nat → Int32 → Int32 → Int32 → Int32 → Int32 → Mem → Option (Int32 × Mem)) (t1 : Nat) (x2 : Int32) (x4 : Int32) (x6 : Int32) (x7 : Int32) (x8 : Int32) (μ : Mem) : Option (Int32 × Mem) :=
  bnd (S_rule μ) fun r2 =>
  chk (r2 < 6) <|
  bnd2 (Ma_feels r2 μ) fun r5 μ6 =>
  chk (inb x4 40) <|
  if r5 = (rd μ6 17 t1 (ix x4)) then (
    nm (x6 ||| (shl 1 x8)) fun a9 =>
    S_wouldBeSo_175 k76 t1 x2 x4 a9 x7 x8 μ6)
  else (
    S_wouldBeSo_175 k76 t1 x2 x4 x6 x7 x8 μ6)
set_option maxHeartbeats 4000000 in
set_option maxRecDepth 100000 in
theorem S_wouldBeSo_145_ok {φ : Fr} {d : Nat} (F : Fx φ ΩA cX9_wouldBeSo RX9 9 (some .int)) (hd : 5 ≤ d) {k76 : Nat → Int32 → Int32 → Int32 → Int32 → Int32 → Mem → Option (Int32 × Mem)} (hk76 : ∀ (t1 : Nat) (x2 : Int32) (x4 : Int32) (x6 : Int32) (x7 : Int32) (x8 : Int32) (ht1 : t1 < 4) (μ : Mem) (r : Int32) (μ' : Mem), k76 t1 x2 x4 x6 x7 x8 μ = some (r, μ') → V φ ΩA 9 d 76 [some (rf φ 0 0), some (rf φ 16 t1), some (.int x2), none, some (.int x4), none, some (.int x6), some (.int x7), some (.int x8)] [] μ (some (.int r), μ')) {t1 : Nat} {x2 : Int32} {x4 : Int32} {x6 : Int32} {x7 : Int32} {x8 : Int32} (ht1 : t1 < 4) {μ : Mem} {r : Int32} {μ' : Mem} (h : S_wouldBeSo_145 k76 t1 x2 x4 x6 x7 x8 μ = some (r, μ')) : V φ ΩA 9 d 145 [some (rf φ 0 0), some (rf φ 16 t1), some (.int x2), none, some (.int x4), none, some (.int x6), some (.int x7), some (.int x8)] [] μ (some (.int r), μ') := by
  unfold S_wouldBeSo_145 at h
  refine V.rload_n F dX9_wouldBeSo_145 rfl rfl ?_
  refine gf_RX9_49 F dX9_wouldBeSo_146 ?_
  refine V.rload_n F dX9_wouldBeSo_149 rfl rfl ?_
  obtain ⟨r2, e1, h⟩ := bnd_out h
  refine V.callVr (f := 0) (i := 0) (As := []) 5 r2 F ck_RX9_154 (S_rule_ct e1) (by omega) (by decide) rfl mA0 rfl rfl rfl (Nat.le_of_ble_eq_true rfl) dX9_wouldBeSo_150 ?_
  obtain ⟨c3, h⟩ := chk_out h
  obtain ⟨r5, μ6, e4, h⟩ := bnd2_out h
  refine V.callVi (f := 18) (i := 0) (As := [rf φ 5 r2]) F ck_RX9_164 (Ma_feels_ct c3 e4) (by omega) (by decide) rfl mA18 rfl rfl rfl (Nat.le_of_ble_eq_true rfl) dX9_wouldBeSo_153 ?_
  refine V.rload_n F dX9_wouldBeSo_156 rfl rfl ?_
  refine gf_RX9_300 ht1 F dX9_wouldBeSo_157 ?_
  refine V.iload F dX9_wouldBeSo_160 rfl ?_
  obtain ⟨c7, h⟩ := chk_out h
  refine V.iald (t0 := 0) (n := 40) F (mA17 ht1) rfl rfl c7 dX9_wouldBeSo_162 ?_
  refine V.icmp_ne (tgt := 175) F dX9_wouldBeSo_163 (by decide) (fun c8 => ?_) (fun c8 => ?_)
  · have h := f_out h c8
    exact S_wouldBeSo_175_ok F hd hk76 ht1 h
  · have h := t_out h c8
    refine V.iload F dX9_wouldBeSo_166 rfl ?_
    refine V.iconst (v := 1) F dX9_wouldBeSo_168 (by decide) ?_
    refine V.iload F dX9_wouldBeSo_169 rfl ?_
    refine V.ishl F dX9_wouldBeSo_171 ?_
    refine V.ior F dX9_wouldBeSo_172 ?_
    obtain ⟨a9, ea9, h⟩ := nm_out h
    refine V.istore (L' := [some (rf φ 0 0), some (rf φ 16 t1), some (.int x2), none, some (.int x4), none, some (.int a9), some (.int x7), some (.int x8)]) F dX9_wouldBeSo_173 (by decide) rfl ea9 rfl ?_
    exact S_wouldBeSo_175_ok F hd hk76 ht1 h
def S_wouldBeSo_76 (k76 : Nat → Int32 → Int32 → Int32 → Int32 → Int32 → Mem → Option (Int32 × Mem)) (t1 : Nat) (x2 : Int32) (x4 : Int32) (x6 : Int32) (x7 : Int32) (x8 : Int32) (μ : Mem) : Option (Int32 × Mem) :=
  if x7 < x8 then (
    some (x6, μ))
  else (
    if x2 = 1 then (
      nm (up μ 18 0 0 x8) fun μ3 =>
      S_wouldBeSo_145 k76 t1 x2 x4 x6 x7 x8 μ3)
    else (
    if x2 = 2 then (
      nm (up μ 18 0 1 x8) fun μ5 =>
      S_wouldBeSo_145 k76 t1 x2 x4 x6 x7 x8 μ5)
    else (
    nm (up μ 18 0 2 x8) fun μ6 =>
    S_wouldBeSo_145 k76 t1 x2 x4 x6 x7 x8 μ6)))
set_option maxHeartbeats 4000000 in
set_option maxRecDepth 100000 in
theorem S_wouldBeSo_76_ok {φ : Fr} {d : Nat} (F : Fx φ ΩA cX9_wouldBeSo RX9 9 (some .int)) (hd : 5 ≤ d) {k76 : Nat → Int32 → Int32 → Int32 → Int32 → Int32 → Mem → Option (Int32 × Mem)} (hk76 : ∀ (t1 : Nat) (x2 : Int32) (x4 : Int32) (x6 : Int32) (x7 : Int32) (x8 : Int32) (ht1 : t1 < 4) (μ : Mem) (r : Int32) (μ' : Mem), k76 t1 x2 x4 x6 x7 x8 μ = some (r, μ') → V φ ΩA 9 d 76 [some (rf φ 0 0), some (rf φ 16 t1), some (.int x2), none, some (.int x4), none, some (.int x6), some (.int x7), some (.int x8)] [] μ (some (.int r), μ')) {t1 : Nat} {x2 : Int32} {x4 : Int32} {x6 : Int32} {x7 : Int32} {x8 : Int32} (ht1 : t1 < 4) {μ : Mem} {r : Int32} {μ' : Mem} (h : S_wouldBeSo_76 k76 t1 x2 x4 x6 x7 x8 μ = some (r, μ')) : V φ ΩA 9 d 76 [some (rf φ 0 0), some (rf φ 16 t1), some (.int x2), none, some (.int x4), none, some (.int x6), some (.int x7), some (.int x8)] [] μ (some (.int r), μ') := by
  unfold S_wouldBeSo_76 at h
  refine V.iload F dX9_wouldBeSo_76 rfl ?_
  refine V.iload F dX9_wouldBeSo_78 rfl ?_
  refine V.icmp_gt (tgt := 181) F dX9_wouldBeSo_80 (by decide) (fun c1 => ?_) (fun c1 => ?_)
  · have h := t_out h c1
    refine V.iload F dX9_wouldBeSo_181 rfl ?_
    obtain ⟨rfl, rfl⟩ := r2_out h
    exact V.iret F dX9_wouldBeSo_183
  · have h := f_out h c1
    refine V.iload_n F dX9_wouldBeSo_83 rfl rfl ?_
    by_cases c2 : x2 = 1
    · have h := t_out h c2
      refine V.lookup (tgt := 112) (off := 28) F dX9_wouldBeSo_84 (by decide) (by rw [c2]; try rfl) (by decide) ?_
      refine V.rload_n F dX9_wouldBeSo_112 rfl rfl ?_
      refine gf_RX9_49 F dX9_wouldBeSo_113 ?_
      refine V.iload F dX9_wouldBeSo_116 rfl ?_
      obtain ⟨μ3, eμ3, h⟩ := nm_out h
      refine pf_RX9_147 F eμ3 dX9_wouldBeSo_118 ?_
      refine V.goto (tgt := 145) F dX9_wouldBeSo_121 (by decide) ?_
      exact S_wouldBeSo_145_ok F hd hk76 ht1 h
    have h := f_out h c2
    by_cases c4 : x2 = 2
    · have h := t_out h c4
      refine V.lookup (tgt := 124) (off := 40) F dX9_wouldBeSo_84 (by decide) (by rw [c4]; try rfl) (by decide) ?_
      refine V.rload_n F dX9_wouldBeSo_124 rfl rfl ?_
      refine gf_RX9_49 F dX9_wouldBeSo_125 ?_
      refine V.iload F dX9_wouldBeSo_128 rfl ?_
      obtain ⟨μ5, eμ5, h⟩ := nm_out h
      refine pf_RX9_169 F eμ5 dX9_wouldBeSo_130 ?_
      refine V.goto (tgt := 145) F dX9_wouldBeSo_133 (by decide) ?_
      exact S_wouldBeSo_145_ok F hd hk76 ht1 h
    have h := f_out h c4
    refine V.lookup (tgt := 136) (off := 52) F dX9_wouldBeSo_84 (by decide) (by show Op.lookupswitch.offset [(1, 28), (2, 40)] _ _ = _; rw [lv_osw c2 (by decide), lv_osw c4 (by decide)]; try rfl) (by decide) ?_
    refine V.rload_n F dX9_wouldBeSo_136 rfl rfl ?_
    refine gf_RX9_49 F dX9_wouldBeSo_137 ?_
    refine V.iload F dX9_wouldBeSo_140 rfl ?_
    obtain ⟨μ6, eμ6, h⟩ := nm_out h
    refine pf_RX9_151 F eμ6 dX9_wouldBeSo_142 ?_
    exact S_wouldBeSo_145_ok F hd hk76 ht1 h
def S_wouldBeSo_76L : Nat → Nat → Int32 → Int32 → Int32 → Int32 → Int32 → Mem → Option (Int32 × Mem)
  | 0 => fun _ _ _ _ _ _ _ => none
  | n + 1 => S_wouldBeSo_76 (S_wouldBeSo_76L n)
set_option maxHeartbeats 4000000 in
set_option maxRecDepth 100000 in
theorem S_wouldBeSo_76L_ok {φ : Fr} {d : Nat} (F : Fx φ ΩA cX9_wouldBeSo RX9 9 (some .int)) (hd : 5 ≤ d) : ∀ (n : Nat) (t1 : Nat) (x2 : Int32) (x4 : Int32) (x6 : Int32) (x7 : Int32) (x8 : Int32) (ht1 : t1 < 4) (μ : Mem) (r : Int32) (μ' : Mem), S_wouldBeSo_76L n t1 x2 x4 x6 x7 x8 μ = some (r, μ') → V φ ΩA 9 d 76 [some (rf φ 0 0), some (rf φ 16 t1), some (.int x2), none, some (.int x4), none, some (.int x6), some (.int x7), some (.int x8)] [] μ (some (.int r), μ') := by
  intro n
  induction n with
  | zero => intro t1 x2 x4 x6 x7 x8 ht1 μ r μ' h; cases h
  | succ n ih => intro t1 x2 x4 x6 x7 x8 ht1 μ r μ' h; exact S_wouldBeSo_76_ok F hd ih ht1 h
def S_wouldBeSo_65 (t1 : Nat) (x2 : Int32) (x4 : Int32) (x6 : Int32) (y0 : Int32) (μ : Mem) : Option (Int32 × Mem) :=
  bnd (S_seeAsIs x4 μ) fun μ2 =>
  S_wouldBeSo_76L 1000 t1 x2 x4 x6 y0 0 μ2
set_option maxHeartbeats 4000000 in
set_option maxRecDepth 100000 in
theorem S_wouldBeSo_65_ok {φ : Fr} {d : Nat} (F : Fx φ ΩA cX9_wouldBeSo RX9 9 (some .int)) (hd : 5 ≤ d) {t1 : Nat} {x2 : Int32} {x4 : Int32} {x6 : Int32} {y0 : Int32} (ht1 : t1 < 4) {μ : Mem} {r : Int32} {μ' : Mem} (h : S_wouldBeSo_65 t1 x2 x4 x6 y0 μ = some (r, μ')) : V φ ΩA 9 d 65 [some (rf φ 0 0), some (rf φ 16 t1), some (.int x2), none, some (.int x4), none, some (.int x6), none, none] [.int y0] μ (some (.int r), μ') := by
  unfold S_wouldBeSo_65 at h
  refine V.istore (L' := [some (rf φ 0 0), some (rf φ 16 t1), some (.int x2), none, some (.int x4), none, some (.int x6), some (.int y0), none]) F dX9_wouldBeSo_65 (by decide) rfl rfl rfl ?_
  refine V.rload_n F dX9_wouldBeSo_67 rfl rfl ?_
  refine V.iload F dX9_wouldBeSo_68 rfl ?_
  obtain ⟨μ2, e1, h⟩ := bnd_out h
  refine V.callVv (f := 0) (i := 0) (As := [.int x4]) F ck_RX9_143 (S_seeAsIs_ct e1) (by omega) (by decide) rfl mA0 rfl rfl rfl (Nat.le_of_ble_eq_true rfl) dX9_wouldBeSo_70 ?_
  refine V.iconst (v := 0) F dX9_wouldBeSo_73 (by decide) ?_
  refine V.istore (L' := [some (rf φ 0 0), some (rf φ 16 t1), some (.int x2), none, some (.int x4), none, some (.int x6), some (.int y0), some (.int 0)]) F dX9_wouldBeSo_74 (by decide) rfl rfl rfl ?_
  exact S_wouldBeSo_76L_ok F hd 1000 _ _ _ _ _ _ ht1 _ _ _ h
def S_wouldBeSo_14 (t1 : Nat) (x2 : Int32) (y0 : Int32) (μ : Mem) : Option (Int32 × Mem) :=
  bnd (S_rule μ) fun r2 =>
  chk (r2 < 6) <|
  bnd2 (S_otherwise t1 r2 μ) fun r5 μ6 =>
  nm (r5 &&& ((shl 1 y0) ^^^ (-1))) fun a7 =>
  if a7 = 0 then (
    if x2 = 1 then (
      S_wouldBeSo_65 t1 x2 y0 0 5 μ6)
    else (
      if x2 = 2 then (
        S_wouldBeSo_65 t1 x2 y0 0 9 μ6)
      else (
        S_wouldBeSo_65 t1 x2 y0 0 15 μ6)))
  else (
    some (0, μ6))
set_option maxHeartbeats 4000000 in
set_option maxRecDepth 100000 in
theorem S_wouldBeSo_14_ok {φ : Fr} {d : Nat} (F : Fx φ ΩA cX9_wouldBeSo RX9 9 (some .int)) (hd : 5 ≤ d) {t1 : Nat} {x2 : Int32} {y0 : Int32} (ht1 : t1 < 4) {μ : Mem} {r : Int32} {μ' : Mem} (h : S_wouldBeSo_14 t1 x2 y0 μ = some (r, μ')) : V φ ΩA 9 d 14 [some (rf φ 0 0), some (rf φ 16 t1), some (.int x2), none, none, none, none, none, none] [.int y0] μ (some (.int r), μ') := by
  unfold S_wouldBeSo_14 at h
  refine V.istore (L' := [some (rf φ 0 0), some (rf φ 16 t1), some (.int x2), none, some (.int y0), none, none, none, none]) F dX9_wouldBeSo_14 (by decide) rfl rfl rfl ?_
  refine V.rload_n F dX9_wouldBeSo_16 rfl rfl ?_
  refine V.rload_n F dX9_wouldBeSo_17 rfl rfl ?_
  refine V.rload_n F dX9_wouldBeSo_18 rfl rfl ?_
  obtain ⟨r2, e1, h⟩ := bnd_out h
  refine V.callVr (f := 0) (i := 0) (As := []) 5 r2 F ck_RX9_154 (S_rule_ct e1) (by omega) (by decide) rfl mA0 rfl rfl rfl (Nat.le_of_ble_eq_true rfl) dX9_wouldBeSo_19 ?_
  obtain ⟨c3, h⟩ := chk_out h
  obtain ⟨r5, μ6, e4, h⟩ := bnd2_out h
  refine V.callVi (f := 0) (i := 0) (As := [rf φ 16 t1, rf φ 5 r2]) F ck_RX9_288 (S_otherwise_ct ht1 c3 e4) (by omega) (by decide) rfl mA0 rfl rfl rfl (Nat.le_of_ble_eq_true rfl) dX9_wouldBeSo_22 ?_
  refine V.iconst (v := 1) F dX9_wouldBeSo_25 (by decide) ?_
  refine V.iload F dX9_wouldBeSo_26 rfl ?_
  refine V.ishl F dX9_wouldBeSo_28 ?_
  refine V.iconst (v := (-1)) F dX9_wouldBeSo_29 (by decide) ?_
  refine V.ixor F dX9_wouldBeSo_30 ?_
  refine V.iand F dX9_wouldBeSo_31 ?_
  obtain ⟨a7, ea7, h⟩ := nm_out h
  refine V.istore (L' := [some (rf φ 0 0), some (rf φ 16 t1), some (.int x2), none, some (.int y0), some (.int a7), none, none, none]) F dX9_wouldBeSo_32 (by decide) rfl ea7 rfl ?_
  refine V.iload F dX9_wouldBeSo_34 rfl ?_
  refine V.if_eq (tgt := 41) F dX9_wouldBeSo_36 (by decide) (fun c8 => ?_) (fun c8 => ?_)
  · have h := t_out h c8
    refine V.iconst (v := 0) F dX9_wouldBeSo_41 (by decide) ?_
    refine V.istore (L' := [some (rf φ 0 0), some (rf φ 16 t1), some (.int x2), none, some (.int y0), some (.int a7), some (.int 0), none, none]) F dX9_wouldBeSo_42 (by decide) rfl rfl rfl ?_
    refine V.iload_n F dX9_wouldBeSo_44 rfl rfl ?_
    refine V.iconst (v := 1) F dX9_wouldBeSo_45 (by decide) ?_
    refine V.icmp_ne (tgt := 53) F dX9_wouldBeSo_46 (by decide) (fun c9 => ?_) (fun c9 => ?_)
    · have h := f_out h c9
      refine V.iload_n F dX9_wouldBeSo_53 rfl rfl ?_
      refine V.iconst (v := 2) F dX9_wouldBeSo_54 (by decide) ?_
      refine V.icmp_ne (tgt := 63) F dX9_wouldBeSo_55 (by decide) (fun c10 => ?_) (fun c10 => ?_)
      · have h := f_out h c10
        refine V.bipush (v := 15) F dX9_wouldBeSo_63 (by decide) ?_
        refine V.msk (L' := [some (rf φ 0 0), some (rf φ 16 t1), some (.int x2), none, some (.int y0), none, some (.int 0), none, none]) [true, true, true, false, true, false, true, false, false] rfl ?_
        exact S_wouldBeSo_65_ok F hd ht1 h
      · have h := t_out h c10
        refine V.bipush (v := 9) F dX9_wouldBeSo_58 (by decide) ?_
        refine V.goto (tgt := 65) F dX9_wouldBeSo_60 (by decide) ?_
        refine V.msk (L' := [some (rf φ 0 0), some (rf φ 16 t1), some (.int x2), none, some (.int y0), none, some (.int 0), none, none]) [true, true, true, false, true, false, true, false, false] rfl ?_
        exact S_wouldBeSo_65_ok F hd ht1 h
    · have h := t_out h c9
      refine V.iconst (v := 5) F dX9_wouldBeSo_49 (by decide) ?_
      refine V.goto (tgt := 65) F dX9_wouldBeSo_50 (by decide) ?_
      refine V.msk (L' := [some (rf φ 0 0), some (rf φ 16 t1), some (.int x2), none, some (.int y0), none, some (.int 0), none, none]) [true, true, true, false, true, false, true, false, false] rfl ?_
      exact S_wouldBeSo_65_ok F hd ht1 h
  · have h := f_out h c8
    refine V.iconst (v := 0) F dX9_wouldBeSo_39 (by decide) ?_
    obtain ⟨rfl, rfl⟩ := r2_out h
    exact V.iret F dX9_wouldBeSo_40
def S_wouldBeSo (t1 : Nat) (x2 : Int32) (x3 : Int32) (μ : Mem) : Option (Int32 × Mem) :=
  if x2 = 3 then (
    bnd (S_wearerOf x3 μ) fun r3 =>
    S_wouldBeSo_14 t1 x2 r3 μ)
  else (
    S_wouldBeSo_14 t1 x2 x3 μ)
set_option maxHeartbeats 4000000 in
set_option maxRecDepth 100000 in
theorem S_wouldBeSo_ok {φ : Fr} {d : Nat} (F : Fx φ ΩA cX9_wouldBeSo RX9 9 (some .int)) (hd : 5 ≤ d) {t1 : Nat} {x2 : Int32} {x3 : Int32} (ht1 : t1 < 4) {μ : Mem} {r : Int32} {μ' : Mem} (h : S_wouldBeSo t1 x2 x3 μ = some (r, μ')) : V φ ΩA 9 d 0 [some (rf φ 0 0), some (rf φ 16 t1), some (.int x2), some (.int x3), none, none, none, none, none] [] μ (some (.int r), μ') := by
  unfold S_wouldBeSo at h
  refine V.iload_n F dX9_wouldBeSo_0 rfl rfl ?_
  refine V.iconst (v := 3) F dX9_wouldBeSo_1 (by decide) ?_
  refine V.icmp_ne (tgt := 13) F dX9_wouldBeSo_2 (by decide) (fun c1 => ?_) (fun c1 => ?_)
  · have h := f_out h c1
    refine V.iload_n F dX9_wouldBeSo_13 rfl rfl ?_
    refine V.msk (L' := [some (rf φ 0 0), some (rf φ 16 t1), some (.int x2), none, none, none, none, none, none]) [true, true, true, false, false, false, false, false, false] rfl ?_
    exact S_wouldBeSo_14_ok F hd ht1 h
  · have h := t_out h c1
    refine V.rload_n F dX9_wouldBeSo_5 rfl rfl ?_
    refine V.iload_n F dX9_wouldBeSo_6 rfl rfl ?_
    obtain ⟨r3, e2, h⟩ := bnd_out h
    refine V.callVi (f := 0) (i := 0) (As := [.int x3]) F ck_RX9_303 (S_wearerOf_ct e2) (by omega) (by decide) rfl mA0 rfl rfl rfl (Nat.le_of_ble_eq_true rfl) dX9_wouldBeSo_7 ?_
    refine V.goto (tgt := 14) F dX9_wouldBeSo_10 (by decide) ?_
    refine V.msk (L' := [some (rf φ 0 0), some (rf φ 16 t1), some (.int x2), none, none, none, none, none, none]) [true, true, true, false, false, false, false, false, false] rfl ?_
    exact S_wouldBeSo_14_ok F hd ht1 h
set_option maxHeartbeats 4000000 in
set_option maxRecDepth 100000 in
theorem S_wouldBeSo_ct {l : Launch} {G : Glo} {t1 : Nat} {x2 : Int32} {x3 : Int32} (ht1 : t1 < 4) {μ : Mem} {r : Int32} {μ' : Mem} (h : S_wouldBeSo t1 x2 x3 μ = some (r, μ')) : Ct l ΩA G 5 yX9_wouldBeSo cX9_wouldBeSo 9 (some .int) [.ref (G.1 0 0), .ref (G.1 16 t1), .int x2, .int x3] μ (some (.int r), μ') := by
  refine Ct.intro (by decide) (Nat.le_of_ble_eq_true rfl) ?_
  intro φ hl hG F
  subst hl; subst hG
  exact S_wouldBeSo_ok F (Nat.le_refl _) ht1 h
