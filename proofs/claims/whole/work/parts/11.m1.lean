def Re_begin (x1 : Int32) (μ : Mem) : Option Mem :=
  if (rd μ 9 0 1) = -1 then (
    some μ)
  else (
    chk (¬ (rd μ 9 0 1) = -1 ∧ ix (rd μ 9 0 1) < 6) <|
    chk (inb x1 4) <|
    nm (up μ 7 (ix (rd μ 9 0 1)) (ix x1) (rd μ 9 0 2)) fun μ4 =>
    some μ4)
set_option maxHeartbeats 4000000 in
set_option maxRecDepth 100000 in
theorem Re_begin_ok {φ : Fr} {d : Nat} (F : Fx φ ΩA cX4_begin RX4 2 (none)) (hd : 1 ≤ d) {x1 : Int32} {μ : Mem}  {μ' : Mem} (h : Re_begin x1 μ = some μ') : V φ ΩA 2 d 0 [some (rf φ 9 0), some (.int x1)] [] μ (none, μ') := by
  unfold Re_begin at h
  refine V.rload_n F dX4_begin_0 rfl rfl ?_
  refine gf_RX4_18 F dX4_begin_1 ?_
  refine V.ifnull_in (tgt := 20) F dX4_begin_4 (by decide) (fun c1 => ?_) (fun c1 => ?_)
  · have h := t_out h c1
    obtain rfl := r1_out h
    exact V.vret F dX4_begin_20
  · have h := f_out h c1
    refine V.rload_n F dX4_begin_7 rfl rfl ?_
    refine gf_RX4_18 F dX4_begin_8 ?_
    obtain ⟨c2, h⟩ := chk_out h
    refine V.inref c2.1 ?_
    refine gf_RX4_87 c2.2 F dX4_begin_11 ?_
    refine V.iload_n F dX4_begin_14 rfl rfl ?_
    refine V.rload_n F dX4_begin_15 rfl rfl ?_
    refine gf_RX4_22 F dX4_begin_16 ?_
    obtain ⟨c3, h⟩ := chk_out h
    obtain ⟨μ4, eμ4, h⟩ := nm_out h
    refine V.iast (t0 := 0) (n := 4) F (mA7 c2.2) (fun _ => rfl) rfl c3 eμ4 dX4_begin_19 ?_
    obtain rfl := r1_out h
    exact V.vret F dX4_begin_20
set_option maxHeartbeats 4000000 in
set_option maxRecDepth 100000 in
theorem Re_begin_ct {l : Launch} {G : Glo} {x1 : Int32} {μ : Mem}  {μ' : Mem} (h : Re_begin x1 μ = some μ') : Ct l ΩA G 1 yX4_begin cX4_begin 2 (none) [.ref (G.1 9 0), .int x1] μ (none, μ') := by
  refine Ct.intro (by decide) (Nat.le_of_ble_eq_true rfl) ?_
  intro φ hl hG F
  subst hl; subst hG
  exact Re_begin_ok F (Nat.le_refl _) h
def Re_pass_20 (μ : Mem) : Option Mem :=
  chk (inb (rd μ 9 0 3) 161) <|
  nm (up μ 9 0 4 (rd μ 12 0 (ix (rd μ 9 0 3)))) fun μ2 =>
  some μ2
set_option maxHeartbeats 4000000 in
set_option maxRecDepth 100000 in
theorem Re_pass_20_ok {φ : Fr} {d : Nat} (F : Fx φ ΩA cX4_pass RX4 1 (none)) (hd : 1 ≤ d) {μ : Mem}  {μ' : Mem} (h : Re_pass_20 μ = some μ') : V φ ΩA 1 d 20 [some (rf φ 9 0)] [] μ (none, μ') := by
  unfold Re_pass_20 at h
  refine V.rload_n F dX4_pass_20 rfl rfl ?_
  refine V.rload_n F dX4_pass_21 rfl rfl ?_
  refine gf_RX4_12 F dX4_pass_22 ?_
  refine gf_RX4_35 F dX4_pass_25 ?_
  refine V.rload_n F dX4_pass_28 rfl rfl ?_
  refine gf_RX4_26 F dX4_pass_29 ?_
  obtain ⟨c1, h⟩ := chk_out h
  refine V.iald (t0 := 0) (n := 161) F mA12 rfl rfl c1 dX4_pass_32 ?_
  obtain ⟨μ2, eμ2, h⟩ := nm_out h
  refine pf_RX4_29 F eμ2 dX4_pass_33 ?_
  obtain rfl := r1_out h
  exact V.vret F dX4_pass_36
def Re_pass (μ : Mem) : Option Mem :=
  if (rd μ 9 0 3) < 160 then (
    nm (up μ 9 0 3 ((rd μ 9 0 3) + 1)) fun μ2 =>
    Re_pass_20 μ2)
  else (
    Re_pass_20 μ)
set_option maxHeartbeats 4000000 in
set_option maxRecDepth 100000 in
theorem Re_pass_ok {φ : Fr} {d : Nat} (F : Fx φ ΩA cX4_pass RX4 1 (none)) (hd : 1 ≤ d) {μ : Mem}  {μ' : Mem} (h : Re_pass μ = some μ') : V φ ΩA 1 d 0 [some (rf φ 9 0)] [] μ (none, μ') := by
  unfold Re_pass at h
  refine V.rload_n F dX4_pass_0 rfl rfl ?_
  refine gf_RX4_26 F dX4_pass_1 ?_
  refine V.sipush (v := 160) F dX4_pass_4 (by decide) ?_
  refine V.icmp_ge (tgt := 20) F dX4_pass_7 (by decide) (fun c1 => ?_) (fun c1 => ?_)
  · have h := f_out h c1
    exact Re_pass_20_ok F hd h
  · have h := t_out h c1
    refine V.rload_n F dX4_pass_10 rfl rfl ?_
    refine V.dup F dX4_pass_11 rfl ?_
    refine gf_RX4_26 F dX4_pass_12 ?_
    refine V.iconst (v := 1) F dX4_pass_15 (by decide) ?_
    refine V.iadd F dX4_pass_16 ?_
    obtain ⟨μ2, eμ2, h⟩ := nm_out h
    refine pf_RX4_26 F eμ2 dX4_pass_17 ?_
    exact Re_pass_20_ok F hd h
set_option maxHeartbeats 4000000 in
set_option maxRecDepth 100000 in
theorem Re_pass_ct {l : Launch} {G : Glo} {μ : Mem}  {μ' : Mem} (h : Re_pass μ = some μ') : Ct l ΩA G 1 yX4_pass cX4_pass 1 (none) [.ref (G.1 9 0)] μ (none, μ') := by
  refine Ct.intro (by decide) (Nat.le_of_ble_eq_true rfl) ?_
  intro φ hl hG F
  subst hl; subst hG
  exact Re_pass_ok F (Nat.le_refl _) h
def Re_eats (x1 : Int32) (μ : Mem) : Option (Int32 × Mem) :=
  if (rd μ 9 0 4) = x1 then (
    bnd (Re_pass μ) fun μ3 =>
    some (1, μ3))
  else (
    some (0, μ))
set_option maxHeartbeats 4000000 in
set_option maxRecDepth 100000 in
theorem Re_eats_ok {φ : Fr} {d : Nat} (F : Fx φ ΩA cX4_eats RX4 2 (some .boolean)) (hd : 2 ≤ d) {x1 : Int32} {μ : Mem} {r : Int32} {μ' : Mem} (h : Re_eats x1 μ = some (r, μ')) : V φ ΩA 2 d 0 [some (rf φ 9 0), some (.int x1)] [] μ (some (.int r), μ') := by
  unfold Re_eats at h
  refine V.rload_n F dX4_eats_0 rfl rfl ?_
  refine gf_RX4_29 F dX4_eats_1 ?_
  refine V.iload_n F dX4_eats_4 rfl rfl ?_
  refine V.icmp_eq (tgt := 10) F dX4_eats_5 (by decide) (fun c1 => ?_) (fun c1 => ?_)
  · have h := t_out h c1
    refine V.rload_n F dX4_eats_10 rfl rfl ?_
    obtain ⟨μ3, e2, h⟩ := bnd_out h
    refine V.callVv (f := 9) (i := 0) (As := []) F ck_RX4_63 (Re_pass_ct e2) (by omega) (by decide) rfl mA9 rfl rfl rfl (Nat.le_of_ble_eq_true rfl) dX4_eats_11 ?_
    refine V.iconst (v := 1) F dX4_eats_14 (by decide) ?_
    obtain ⟨rfl, rfl⟩ := r2_out h
    exact V.zret F (by decide) dX4_eats_15
  · have h := f_out h c1
    refine V.iconst (v := 0) F dX4_eats_8 (by decide) ?_
    obtain ⟨rfl, rfl⟩ := r2_out h
    exact V.zret F (by decide) dX4_eats_9
set_option maxHeartbeats 4000000 in
set_option maxRecDepth 100000 in
theorem Re_eats_ct {l : Launch} {G : Glo} {x1 : Int32} {μ : Mem} {r : Int32} {μ' : Mem} (h : Re_eats x1 μ = some (r, μ')) : Ct l ΩA G 2 yX4_eats cX4_eats 2 (some .boolean) [.ref (G.1 9 0), .int x1] μ (some (.int r), μ') := by
  refine Ct.intro (by decide) (Nat.le_of_ble_eq_true rfl) ?_
  intro φ hl hG F
  subst hl; subst hG
  exact Re_eats_ok F (Nat.le_refl _) h
def Re_put (x1 : Int32) (μ : Mem) : Option Mem :=
  if (rd μ 9 0 1) = -1 then (
    some μ)
  else (
    if (rd μ 9 0 2) < 160 then (
      chk (¬ (rd μ 9 0 1) = -1 ∧ ix (rd μ 9 0 1) < 6) <|
      chk (inb (rd μ 9 0 2) 160) <|
      nm (up μ 6 (ix (rd μ 9 0 1)) (ix (rd μ 9 0 2)) x1) fun μ5 =>
      nm (up μ5 9 0 2 ((rd μ5 9 0 2) + 1)) fun μ6 =>
      some μ6)
    else (
      some μ))
set_option maxHeartbeats 4000000 in
set_option maxRecDepth 100000 in
theorem Re_put_ok {φ : Fr} {d : Nat} (F : Fx φ ΩA cX4_put RX4 2 (none)) (hd : 1 ≤ d) {x1 : Int32} {μ : Mem}  {μ' : Mem} (h : Re_put x1 μ = some μ') : V φ ΩA 2 d 0 [some (rf φ 9 0), some (.int x1)] [] μ (none, μ') := by
  unfold Re_put at h
  refine V.rload_n F dX4_put_0 rfl rfl ?_
  refine gf_RX4_18 F dX4_put_1 ?_
  refine V.ifnull_in (tgt := 40) F dX4_put_4 (by decide) (fun c1 => ?_) (fun c1 => ?_)
  · have h := t_out h c1
    obtain rfl := r1_out h
    exact V.vret F dX4_put_40
  · have h := f_out h c1
    refine V.rload_n F dX4_put_7 rfl rfl ?_
    refine gf_RX4_22 F dX4_put_8 ?_
    refine V.sipush (v := 160) F dX4_put_11 (by decide) ?_
    refine V.icmp_ge (tgt := 40) F dX4_put_14 (by decide) (fun c2 => ?_) (fun c2 => ?_)
    · have h := f_out h c2
      obtain rfl := r1_out h
      exact V.vret F dX4_put_40
    · have h := t_out h c2
      refine V.rload_n F dX4_put_17 rfl rfl ?_
      refine gf_RX4_18 F dX4_put_18 ?_
      obtain ⟨c3, h⟩ := chk_out h
      refine V.inref c3.1 ?_
      refine gf_RX4_92 c3.2 F dX4_put_21 ?_
      refine V.rload_n F dX4_put_24 rfl rfl ?_
      refine gf_RX4_22 F dX4_put_25 ?_
      refine V.iload_n F dX4_put_28 rfl rfl ?_
      obtain ⟨c4, h⟩ := chk_out h
      obtain ⟨μ5, eμ5, h⟩ := nm_out h
      refine V.iast (t0 := 0) (n := 160) F (mA6 c3.2) (fun _ => rfl) rfl c4 eμ5 dX4_put_29 ?_
      refine V.rload_n F dX4_put_30 rfl rfl ?_
      refine V.dup F dX4_put_31 rfl ?_
      refine gf_RX4_22 F dX4_put_32 ?_
      refine V.iconst (v := 1) F dX4_put_35 (by decide) ?_
      refine V.iadd F dX4_put_36 ?_
      obtain ⟨μ6, eμ6, h⟩ := nm_out h
      refine pf_RX4_22 F eμ6 dX4_put_37 ?_
      obtain rfl := r1_out h
      exact V.vret F dX4_put_40
set_option maxHeartbeats 4000000 in
set_option maxRecDepth 100000 in
theorem Re_put_ct {l : Launch} {G : Glo} {x1 : Int32} {μ : Mem}  {μ' : Mem} (h : Re_put x1 μ = some μ') : Ct l ΩA G 1 yX4_put cX4_put 2 (none) [.ref (G.1 9 0), .int x1] μ (none, μ') := by
  refine Ct.intro (by decide) (Nat.le_of_ble_eq_true rfl) ?_
  intro φ hl hG F
  subst hl; subst hG
  exact Re_put_ok F (Nat.le_refl _) h
def Re_recG (l : Launch) (G : Glo) (d w : Nat) (a0 : Int32) (μ : Mem) (ρ : Option Value × Mem) : Prop := match w with
  | 0 => Ct l ΩA G d yX4_readsAny cX4_readsAny 3 (some .boolean) [.ref (G.1 9 0), .int a0] μ ρ
  | 1 => Ct l ΩA G d yX4_readsAll cX4_readsAll 3 (some .boolean) [.ref (G.1 9 0), .int a0] μ ρ
  | 2 => Ct l ΩA G d yX4_readsNot cX4_readsNot 2 (some .boolean) [.ref (G.1 9 0), .int a0] μ ρ
  | 3 => Ct l ΩA G d yX4_readsLess cX4_readsLess 3 (some .boolean) [.ref (G.1 9 0), .int a0] μ ρ
  | 4 => Ct l ΩA G d yX4_readsSum cX4_readsSum 4 (some .boolean) [.ref (G.1 9 0), .int a0] μ ρ
  | 5 => Ct l ΩA G d yX4_readsTerm cX4_readsTerm 3 (some .boolean) [.ref (G.1 9 0), .int a0] μ ρ
  | 6 => Ct l ΩA G d yX4_readsOne cX4_readsOne 2 (some .boolean) [.ref (G.1 9 0), .int a0] μ ρ
  | _ => False
def Re_readsAny_12 (rc : Nat → Int32 → Mem → Option (Int32 × Mem)) (k12 : Int32 → Int32 → Mem → Option (Int32 × Mem)) (x1 : Int32) (x2 : Int32) (μ : Mem) : Option (Int32 × Mem) :=
  if x2 < 160 then (
    if (rd μ 9 0 4) = 9 then (
      bnd (Re_pass μ) fun μ4 =>
      bnd2 (rc 1 x1 μ4) fun r6 μ7 =>
      if r6 = 0 then (
        some (0, μ7))
      else (
        bnd (Re_put (-9) μ7) fun μ10 =>
        nm (x2 + 1) fun a11 =>
        k12 x1 a11 μ10))
    else (
      some (1, μ)))
  else (
    some (1, μ))
set_option maxHeartbeats 4000000 in
set_option maxRecDepth 100000 in
theorem Re_readsAny_12_ok {φ : Fr} {d : Nat} (F : Fx φ ΩA cX4_readsAny RX4 3 (some .boolean)) (hd : 3 ≤ d) {rc : Nat → Int32 → Mem → Option (Int32 × Mem)} (hrc : ∀ (w : Nat) (a0 : Int32) (μ : Mem) (r : Int32) (μ' : Mem), rc w a0 μ = some (r, μ') → Re_recG φ.1.2.1 (gl φ) d w a0 μ (some (.int r), μ')) {k12 : Int32 → Int32 → Mem → Option (Int32 × Mem)} (hk12 : ∀ (x1 : Int32) (x2 : Int32) (μ : Mem) (r : Int32) (μ' : Mem), k12 x1 x2 μ = some (r, μ') → V φ ΩA 3 (d + 1) 12 [some (rf φ 9 0), some (.int x1), some (.int x2)] [] μ (some (.int r), μ')) {x1 : Int32} {x2 : Int32} {μ : Mem} {r : Int32} {μ' : Mem} (h : Re_readsAny_12 rc k12 x1 x2 μ = some (r, μ')) : V φ ΩA 3 (d + 1) 12 [some (rf φ 9 0), some (.int x1), some (.int x2)] [] μ (some (.int r), μ') := by
  unfold Re_readsAny_12 at h
  refine V.iload_n F dX4_readsAny_12 rfl rfl ?_
  refine V.sipush (v := 160) F dX4_readsAny_13 (by decide) ?_
  refine V.icmp_ge (tgt := 54) F dX4_readsAny_16 (by decide) (fun c1 => ?_) (fun c1 => ?_)
  · have h := f_out h c1
    refine V.iconst (v := 1) F dX4_readsAny_54 (by decide) ?_
    obtain ⟨rfl, rfl⟩ := r2_out h
    exact V.zret F (by decide) dX4_readsAny_55
  · have h := t_out h c1
    refine V.rload_n F dX4_readsAny_19 rfl rfl ?_
    refine gf_RX4_29 F dX4_readsAny_20 ?_
    refine V.bipush (v := 9) F dX4_readsAny_23 (by decide) ?_
    refine V.icmp_ne (tgt := 54) F dX4_readsAny_25 (by decide) (fun c2 => ?_) (fun c2 => ?_)
    · have h := f_out h c2
      refine V.iconst (v := 1) F dX4_readsAny_54 (by decide) ?_
      obtain ⟨rfl, rfl⟩ := r2_out h
      exact V.zret F (by decide) dX4_readsAny_55
    · have h := t_out h c2
      refine V.rload_n F dX4_readsAny_28 rfl rfl ?_
      obtain ⟨μ4, e3, h⟩ := bnd_out h
      refine V.callVv (f := 9) (i := 0) (As := []) F ck_RX4_63 (Re_pass_ct e3) (by omega) (by decide) rfl mA9 rfl rfl rfl (Nat.le_of_ble_eq_true rfl) dX4_readsAny_29 ?_
      refine V.rload_n F dX4_readsAny_32 rfl rfl ?_
      refine V.iload_n F dX4_readsAny_33 rfl rfl ?_
      obtain ⟨r6, μ7, e5, h⟩ := bnd2_out h
      refine V.callVi (f := 9) (i := 0) (As := [.int x1]) F ck_RX4_60 (hrc 1 _ _ _ _ e5) (by omega) (by decide) rfl mA9 rfl rfl rfl (Nat.le_of_ble_eq_true rfl) dX4_readsAny_34 ?_
      refine V.if_ne (tgt := 42) F dX4_readsAny_37 (by decide) (fun c8 => ?_) (fun c8 => ?_)
      · have h := f_out h c8
        refine V.rload_n F dX4_readsAny_42 rfl rfl ?_
        refine V.bipush (v := (-9)) F dX4_readsAny_43 (by decide) ?_
        obtain ⟨μ10, e9, h⟩ := bnd_out h
        refine V.callVv (f := 9) (i := 0) (As := [.int (-9)]) F ck_RX4_66 (Re_put_ct e9) (by omega) (by decide) rfl mA9 rfl rfl rfl (Nat.le_of_ble_eq_true rfl) dX4_readsAny_45 ?_
        obtain ⟨a11, ea11, h⟩ := nm_out h
        refine V.iinc (z := 1) (L' := [some (rf φ 9 0), some (.int x1), some (.int a11)]) F dX4_readsAny_48 rfl (by decide) ea11 (by decide) rfl rfl ?_
        refine V.goto (tgt := 12) F dX4_readsAny_51 (by decide) ?_
        exact hk12 _ _ _ _ _ h
      · have h := t_out h c8
        refine V.iconst (v := 0) F dX4_readsAny_40 (by decide) ?_
        obtain ⟨rfl, rfl⟩ := r2_out h
        exact V.zret F (by decide) dX4_readsAny_41
def Re_readsAny_12L (rc : Nat → Int32 → Mem → Option (Int32 × Mem)) : Nat → Int32 → Int32 → Mem → Option (Int32 × Mem)
  | 0 => fun _ _ _ => none
  | n + 1 => Re_readsAny_12 rc (Re_readsAny_12L rc n)
set_option maxHeartbeats 4000000 in
set_option maxRecDepth 100000 in
theorem Re_readsAny_12L_ok {φ : Fr} {d : Nat} (F : Fx φ ΩA cX4_readsAny RX4 3 (some .boolean)) (hd : 3 ≤ d) {rc : Nat → Int32 → Mem → Option (Int32 × Mem)} (hrc : ∀ (w : Nat) (a0 : Int32) (μ : Mem) (r : Int32) (μ' : Mem), rc w a0 μ = some (r, μ') → Re_recG φ.1.2.1 (gl φ) d w a0 μ (some (.int r), μ')) : ∀ (n : Nat) (x1 : Int32) (x2 : Int32) (μ : Mem) (r : Int32) (μ' : Mem), Re_readsAny_12L rc n x1 x2 μ = some (r, μ') → V φ ΩA 3 (d + 1) 12 [some (rf φ 9 0), some (.int x1), some (.int x2)] [] μ (some (.int r), μ') := by
  intro n
  induction n with
  | zero => intro x1 x2 μ r μ' h; cases h
  | succ n ih => intro x1 x2 μ r μ' h; exact Re_readsAny_12_ok F hd hrc ih h
def Re_readsAny (rc : Nat → Int32 → Mem → Option (Int32 × Mem)) (x1 : Int32) (μ : Mem) : Option (Int32 × Mem) :=
  bnd2 (rc 1 x1 μ) fun r2 μ3 =>
  if r2 = 0 then (
    some (0, μ3))
  else (
    Re_readsAny_12L rc 1000 x1 0 μ3)
set_option maxHeartbeats 4000000 in
set_option maxRecDepth 100000 in
theorem Re_readsAny_ok {φ : Fr} {d : Nat} (F : Fx φ ΩA cX4_readsAny RX4 3 (some .boolean)) (hd : 3 ≤ d) {rc : Nat → Int32 → Mem → Option (Int32 × Mem)} (hrc : ∀ (w : Nat) (a0 : Int32) (μ : Mem) (r : Int32) (μ' : Mem), rc w a0 μ = some (r, μ') → Re_recG φ.1.2.1 (gl φ) d w a0 μ (some (.int r), μ')) {x1 : Int32} {μ : Mem} {r : Int32} {μ' : Mem} (h : Re_readsAny rc x1 μ = some (r, μ')) : V φ ΩA 3 (d + 1) 0 [some (rf φ 9 0), some (.int x1), none] [] μ (some (.int r), μ') := by
  unfold Re_readsAny at h
  refine V.rload_n F dX4_readsAny_0 rfl rfl ?_
  refine V.iload_n F dX4_readsAny_1 rfl rfl ?_
  obtain ⟨r2, μ3, e1, h⟩ := bnd2_out h
  refine V.callVi (f := 9) (i := 0) (As := [.int x1]) F ck_RX4_60 (hrc 1 _ _ _ _ e1) (by omega) (by decide) rfl mA9 rfl rfl rfl (Nat.le_of_ble_eq_true rfl) dX4_readsAny_2 ?_
  refine V.if_ne (tgt := 10) F dX4_readsAny_5 (by decide) (fun c4 => ?_) (fun c4 => ?_)
  · have h := f_out h c4
    refine V.iconst (v := 0) F dX4_readsAny_10 (by decide) ?_
    refine V.istore_n (L' := [some (rf φ 9 0), some (.int x1), some (.int 0)]) F dX4_readsAny_11 rfl (by decide) rfl rfl rfl ?_
    exact Re_readsAny_12L_ok F hd hrc 1000 _ _ _ _ _ h
  · have h := t_out h c4
    refine V.iconst (v := 0) F dX4_readsAny_8 (by decide) ?_
    obtain ⟨rfl, rfl⟩ := r2_out h
    exact V.zret F (by decide) dX4_readsAny_9
def Re_readsAll_12 (rc : Nat → Int32 → Mem → Option (Int32 × Mem)) (k12 : Int32 → Int32 → Mem → Option (Int32 × Mem)) (x1 : Int32) (x2 : Int32) (μ : Mem) : Option (Int32 × Mem) :=
  if x2 < 160 then (
    if (rd μ 9 0 4) = 10 then (
      bnd (Re_pass μ) fun μ4 =>
      bnd2 (rc 2 x1 μ4) fun r6 μ7 =>
      if r6 = 0 then (
        some (0, μ7))
      else (
        bnd (Re_put (-10) μ7) fun μ10 =>
        nm (x2 + 1) fun a11 =>
        k12 x1 a11 μ10))
    else (
      some (1, μ)))
  else (
    some (1, μ))
set_option maxHeartbeats 4000000 in
set_option maxRecDepth 100000 in
theorem Re_readsAll_12_ok {φ : Fr} {d : Nat} (F : Fx φ ΩA cX4_readsAll RX4 3 (some .boolean)) (hd : 3 ≤ d) {rc : Nat → Int32 → Mem → Option (Int32 × Mem)} (hrc : ∀ (w : Nat) (a0 : Int32) (μ : Mem) (r : Int32) (μ' : Mem), rc w a0 μ = some (r, μ') → Re_recG φ.1.2.1 (gl φ) d w a0 μ (some (.int r), μ')) {k12 : Int32 → Int32 → Mem → Option (Int32 × Mem)} (hk12 : ∀ (x1 : Int32) (x2 : Int32) (μ : Mem) (r : Int32) (μ' : Mem), k12 x1 x2 μ = some (r, μ') → V φ ΩA 3 (d + 1) 12 [some (rf φ 9 0), some (.int x1), some (.int x2)] [] μ (some (.int r), μ')) {x1 : Int32} {x2 : Int32} {μ : Mem} {r : Int32} {μ' : Mem} (h : Re_readsAll_12 rc k12 x1 x2 μ = some (r, μ')) : V φ ΩA 3 (d + 1) 12 [some (rf φ 9 0), some (.int x1), some (.int x2)] [] μ (some (.int r), μ') := by
  unfold Re_readsAll_12 at h
  refine V.iload_n F dX4_readsAll_12 rfl rfl ?_
  refine V.sipush (v := 160) F dX4_readsAll_13 (by decide) ?_
  refine V.icmp_ge (tgt := 54) F dX4_readsAll_16 (by decide) (fun c1 => ?_) (fun c1 => ?_)
  · have h := f_out h c1
    refine V.iconst (v := 1) F dX4_readsAll_54 (by decide) ?_
    obtain ⟨rfl, rfl⟩ := r2_out h
    exact V.zret F (by decide) dX4_readsAll_55
  · have h := t_out h c1
    refine V.rload_n F dX4_readsAll_19 rfl rfl ?_
    refine gf_RX4_29 F dX4_readsAll_20 ?_
    refine V.bipush (v := 10) F dX4_readsAll_23 (by decide) ?_
    refine V.icmp_ne (tgt := 54) F dX4_readsAll_25 (by decide) (fun c2 => ?_) (fun c2 => ?_)
    · have h := f_out h c2
      refine V.iconst (v := 1) F dX4_readsAll_54 (by decide) ?_
      obtain ⟨rfl, rfl⟩ := r2_out h
      exact V.zret F (by decide) dX4_readsAll_55
    · have h := t_out h c2
      refine V.rload_n F dX4_readsAll_28 rfl rfl ?_
      obtain ⟨μ4, e3, h⟩ := bnd_out h
      refine V.callVv (f := 9) (i := 0) (As := []) F ck_RX4_63 (Re_pass_ct e3) (by omega) (by decide) rfl mA9 rfl rfl rfl (Nat.le_of_ble_eq_true rfl) dX4_readsAll_29 ?_
      refine V.rload_n F dX4_readsAll_32 rfl rfl ?_
      refine V.iload_n F dX4_readsAll_33 rfl rfl ?_
      obtain ⟨r6, μ7, e5, h⟩ := bnd2_out h
      refine V.callVi (f := 9) (i := 0) (As := [.int x1]) F ck_RX4_69 (hrc 2 _ _ _ _ e5) (by omega) (by decide) rfl mA9 rfl rfl rfl (Nat.le_of_ble_eq_true rfl) dX4_readsAll_34 ?_
      refine V.if_ne (tgt := 42) F dX4_readsAll_37 (by decide) (fun c8 => ?_) (fun c8 => ?_)
      · have h := f_out h c8
        refine V.rload_n F dX4_readsAll_42 rfl rfl ?_
        refine V.bipush (v := (-10)) F dX4_readsAll_43 (by decide) ?_
        obtain ⟨μ10, e9, h⟩ := bnd_out h
        refine V.callVv (f := 9) (i := 0) (As := [.int (-10)]) F ck_RX4_66 (Re_put_ct e9) (by omega) (by decide) rfl mA9 rfl rfl rfl (Nat.le_of_ble_eq_true rfl) dX4_readsAll_45 ?_
        obtain ⟨a11, ea11, h⟩ := nm_out h
        refine V.iinc (z := 1) (L' := [some (rf φ 9 0), some (.int x1), some (.int a11)]) F dX4_readsAll_48 rfl (by decide) ea11 (by decide) rfl rfl ?_
        refine V.goto (tgt := 12) F dX4_readsAll_51 (by decide) ?_
        exact hk12 _ _ _ _ _ h
      · have h := t_out h c8
        refine V.iconst (v := 0) F dX4_readsAll_40 (by decide) ?_
        obtain ⟨rfl, rfl⟩ := r2_out h
        exact V.zret F (by decide) dX4_readsAll_41
def Re_readsAll_12L (rc : Nat → Int32 → Mem → Option (Int32 × Mem)) : Nat → Int32 → Int32 → Mem → Option (Int32 × Mem)
  | 0 => fun _ _ _ => none
  | n + 1 => Re_readsAll_12 rc (Re_readsAll_12L rc n)
set_option maxHeartbeats 4000000 in
set_option maxRecDepth 100000 in
theorem Re_readsAll_12L_ok {φ : Fr} {d : Nat} (F : Fx φ ΩA cX4_readsAll RX4 3 (some .boolean)) (hd : 3 ≤ d) {rc : Nat → Int32 → Mem → Option (Int32 × Mem)} (hrc : ∀ (w : Nat) (a0 : Int32) (μ : Mem) (r : Int32) (μ' : Mem), rc w a0 μ = some (r, μ') → Re_recG φ.1.2.1 (gl φ) d w a0 μ (some (.int r), μ')) : ∀ (n : Nat) (x1 : Int32) (x2 : Int32) (μ : Mem) (r : Int32) (μ' : Mem), Re_readsAll_12L rc n x1 x2 μ = some (r, μ') → V φ ΩA 3 (d + 1) 12 [some (rf φ 9 0), some (.int x1), some (.int x2)] [] μ (some (.int r), μ') := by
  intro n
  induction n with
  | zero => intro x1 x2 μ r μ' h; cases h
  | succ n ih => intro x1 x2 μ r μ' h; exact Re_readsAll_12_ok F hd hrc ih h
def Re_readsAll (rc : Nat → Int32 → Mem → Option (Int32 × Mem)) (x1 : Int32) (μ : Mem) : Option (Int32 × Mem) :=
  bnd2 (rc 2 x1 μ) fun r2 μ3 =>
  if r2 = 0 then (
    some (0, μ3))
  else (
    Re_readsAll_12L rc 1000 x1 0 μ3)
set_option maxHeartbeats 4000000 in
set_option maxRecDepth 100000 in
theorem Re_readsAll_ok {φ : Fr} {d : Nat} (F : Fx φ ΩA cX4_readsAll RX4 3 (some .boolean)) (hd : 3 ≤ d) {rc : Nat → Int32 → Mem → Option (Int32 × Mem)} (hrc : ∀ (w : Nat) (a0 : Int32) (μ : Mem) (r : Int32) (μ' : Mem), rc w a0 μ = some (r, μ') → Re_recG φ.1.2.1 (gl φ) d w a0 μ (some (.int r), μ')) {x1 : Int32} {μ : Mem} {r : Int32} {μ' : Mem} (h : Re_readsAll rc x1 μ = some (r, μ')) : V φ ΩA 3 (d + 1) 0 [some (rf φ 9 0), some (.int x1), none] [] μ (some (.int r), μ') := by
  unfold Re_readsAll at h
  refine V.rload_n F dX4_readsAll_0 rfl rfl ?_
  refine V.iload_n F dX4_readsAll_1 rfl rfl ?_
  obtain ⟨r2, μ3, e1, h⟩ := bnd2_out h
  refine V.callVi (f := 9) (i := 0) (As := [.int x1]) F ck_RX4_69 (hrc 2 _ _ _ _ e1) (by omega) (by decide) rfl mA9 rfl rfl rfl (Nat.le_of_ble_eq_true rfl) dX4_readsAll_2 ?_
  refine V.if_ne (tgt := 10) F dX4_readsAll_5 (by decide) (fun c4 => ?_) (fun c4 => ?_)
  · have h := f_out h c4
    refine V.iconst (v := 0) F dX4_readsAll_10 (by decide) ?_
    refine V.istore_n (L' := [some (rf φ 9 0), some (.int x1), some (.int 0)]) F dX4_readsAll_11 rfl (by decide) rfl rfl rfl ?_
    exact Re_readsAll_12L_ok F hd hrc 1000 _ _ _ _ _ h
  · have h := t_out h c4
    refine V.iconst (v := 0) F dX4_readsAll_8 (by decide) ?_
    obtain ⟨rfl, rfl⟩ := r2_out h
    exact V.zret F (by decide) dX4_readsAll_9
def Re_readsNot (rc : Nat → Int32 → Mem → Option (Int32 × Mem)) (x1 : Int32) (μ : Mem) : Option (Int32 × Mem) :=
  if (rd μ 9 0 4) = 11 then (
    if x1 < 5 then (
      bnd (Re_pass μ) fun μ4 =>
      bnd2 (rc 2 (x1 + 1) μ4) fun r6 μ7 =>
      if r6 = 0 then (
        some (0, μ7))
      else (
        bnd (Re_put (-11) μ7) fun μ10 =>
        some (1, μ10)))
    else (
      some (0, μ)))
  else (
    bnd2 (rc 3 x1 μ) fun r12 μ13 =>
    chk (r12 = 0 ∨ r12 = 1) <|
    some (r12, μ13))
set_option maxHeartbeats 4000000 in
set_option maxRecDepth 100000 in
theorem Re_readsNot_ok {φ : Fr} {d : Nat} (F : Fx φ ΩA cX4_readsNot RX4 2 (some .boolean)) (hd : 3 ≤ d) {rc : Nat → Int32 → Mem → Option (Int32 × Mem)} (hrc : ∀ (w : Nat) (a0 : Int32) (μ : Mem) (r : Int32) (μ' : Mem), rc w a0 μ = some (r, μ') → Re_recG φ.1.2.1 (gl φ) d w a0 μ (some (.int r), μ')) {x1 : Int32} {μ : Mem} {r : Int32} {μ' : Mem} (h : Re_readsNot rc x1 μ = some (r, μ')) : V φ ΩA 2 (d + 1) 0 [some (rf φ 9 0), some (.int x1)] [] μ (some (.int r), μ') := by
  unfold Re_readsNot at h
  refine V.rload_n F dX4_readsNot_0 rfl rfl ?_
  refine gf_RX4_29 F dX4_readsNot_1 ?_
  refine V.bipush (v := 11) F dX4_readsNot_4 (by decide) ?_
  refine V.icmp_eq (tgt := 15) F dX4_readsNot_6 (by decide) (fun c1 => ?_) (fun c1 => ?_)
  · have h := t_out h c1
    refine V.iload_n F dX4_readsNot_15 rfl rfl ?_
    refine V.iconst (v := 5) F dX4_readsNot_16 (by decide) ?_
    refine V.icmp_lt (tgt := 22) F dX4_readsNot_17 (by decide) (fun c2 => ?_) (fun c2 => ?_)
    · have h := t_out h c2
      refine V.rload_n F dX4_readsNot_22 rfl rfl ?_
      obtain ⟨μ4, e3, h⟩ := bnd_out h
      refine V.callVv (f := 9) (i := 0) (As := []) F ck_RX4_63 (Re_pass_ct e3) (by omega) (by decide) rfl mA9 rfl rfl rfl (Nat.le_of_ble_eq_true rfl) dX4_readsNot_23 ?_
      refine V.rload_n F dX4_readsNot_26 rfl rfl ?_
      refine V.iload_n F dX4_readsNot_27 rfl rfl ?_
      refine V.iconst (v := 1) F dX4_readsNot_28 (by decide) ?_
      refine V.iadd F dX4_readsNot_29 ?_
      obtain ⟨r6, μ7, e5, h⟩ := bnd2_out h
      refine V.callVi (f := 9) (i := 0) (As := [.int (x1 + 1)]) F ck_RX4_69 (hrc 2 _ _ _ _ e5) (by omega) (by decide) rfl mA9 rfl rfl rfl (Nat.le_of_ble_eq_true rfl) dX4_readsNot_30 ?_
      refine V.if_ne (tgt := 38) F dX4_readsNot_33 (by decide) (fun c8 => ?_) (fun c8 => ?_)
      · have h := f_out h c8
        refine V.rload_n F dX4_readsNot_38 rfl rfl ?_
        refine V.bipush (v := (-11)) F dX4_readsNot_39 (by decide) ?_
        obtain ⟨μ10, e9, h⟩ := bnd_out h
        refine V.callVv (f := 9) (i := 0) (As := [.int (-11)]) F ck_RX4_66 (Re_put_ct e9) (by omega) (by decide) rfl mA9 rfl rfl rfl (Nat.le_of_ble_eq_true rfl) dX4_readsNot_41 ?_
        refine V.iconst (v := 1) F dX4_readsNot_44 (by decide) ?_
        obtain ⟨rfl, rfl⟩ := r2_out h
        exact V.zret F (by decide) dX4_readsNot_45
      · have h := t_out h c8
        refine V.iconst (v := 0) F dX4_readsNot_36 (by decide) ?_
        obtain ⟨rfl, rfl⟩ := r2_out h
        exact V.zret F (by decide) dX4_readsNot_37
    · have h := f_out h c2
      refine V.iconst (v := 0) F dX4_readsNot_20 (by decide) ?_
      obtain ⟨rfl, rfl⟩ := r2_out h
      exact V.zret F (by decide) dX4_readsNot_21
  · have h := f_out h c1
    refine V.rload_n F dX4_readsNot_9 rfl rfl ?_
    refine V.iload_n F dX4_readsNot_10 rfl rfl ?_
    obtain ⟨r12, μ13, e11, h⟩ := bnd2_out h
    refine V.callVi (f := 9) (i := 0) (As := [.int x1]) F ck_RX4_72 (hrc 3 _ _ _ _ e11) (by omega) (by decide) rfl mA9 rfl rfl rfl (Nat.le_of_ble_eq_true rfl) dX4_readsNot_11 ?_
    obtain ⟨c14, h⟩ := chk_out h
    obtain ⟨rfl, rfl⟩ := r2_out h
    exact V.zret F c14 dX4_readsNot_14
def Re_readsLess_29 (rc : Nat → Int32 → Mem → Option (Int32 × Mem)) (x1 : Int32) (x2 : Int32) (μ : Mem) : Option (Int32 × Mem) :=
  bnd (Re_pass μ) fun μ2 =>
  bnd2 (rc 4 x1 μ2) fun r4 μ5 =>
  if r4 = 0 then (
    some (0, μ5))
  else (
    bnd (Re_put (-x2) μ5) fun μ8 =>
    some (1, μ8))
set_option maxHeartbeats 4000000 in
set_option maxRecDepth 100000 in
theorem Re_readsLess_29_ok {φ : Fr} {d : Nat} (F : Fx φ ΩA cX4_readsLess RX4 3 (some .boolean)) (hd : 3 ≤ d) {rc : Nat → Int32 → Mem → Option (Int32 × Mem)} (hrc : ∀ (w : Nat) (a0 : Int32) (μ : Mem) (r : Int32) (μ' : Mem), rc w a0 μ = some (r, μ') → Re_recG φ.1.2.1 (gl φ) d w a0 μ (some (.int r), μ')) {x1 : Int32} {x2 : Int32} {μ : Mem} {r : Int32} {μ' : Mem} (h : Re_readsLess_29 rc x1 x2 μ = some (r, μ')) : V φ ΩA 3 (d + 1) 29 [some (rf φ 9 0), some (.int x1), some (.int x2)] [] μ (some (.int r), μ') := by
  unfold Re_readsLess_29 at h
  refine V.rload_n F dX4_readsLess_29 rfl rfl ?_
  obtain ⟨μ2, e1, h⟩ := bnd_out h
  refine V.callVv (f := 9) (i := 0) (As := []) F ck_RX4_63 (Re_pass_ct e1) (by omega) (by decide) rfl mA9 rfl rfl rfl (Nat.le_of_ble_eq_true rfl) dX4_readsLess_30 ?_
  refine V.rload_n F dX4_readsLess_33 rfl rfl ?_
  refine V.iload_n F dX4_readsLess_34 rfl rfl ?_
  obtain ⟨r4, μ5, e3, h⟩ := bnd2_out h
  refine V.callVi (f := 9) (i := 0) (As := [.int x1]) F ck_RX4_75 (hrc 4 _ _ _ _ e3) (by omega) (by decide) rfl mA9 rfl rfl rfl (Nat.le_of_ble_eq_true rfl) dX4_readsLess_35 ?_
  refine V.if_ne (tgt := 43) F dX4_readsLess_38 (by decide) (fun c6 => ?_) (fun c6 => ?_)
  · have h := f_out h c6
    refine V.rload_n F dX4_readsLess_43 rfl rfl ?_
    refine V.iload_n F dX4_readsLess_44 rfl rfl ?_
    refine V.ineg F dX4_readsLess_45 ?_
    obtain ⟨μ8, e7, h⟩ := bnd_out h
    refine V.callVv (f := 9) (i := 0) (As := [.int (-x2)]) F ck_RX4_66 (Re_put_ct e7) (by omega) (by decide) rfl mA9 rfl rfl rfl (Nat.le_of_ble_eq_true rfl) dX4_readsLess_46 ?_
    refine V.iconst (v := 1) F dX4_readsLess_49 (by decide) ?_
    obtain ⟨rfl, rfl⟩ := r2_out h
    exact V.zret F (by decide) dX4_readsLess_50
  · have h := t_out h c6
    refine V.iconst (v := 0) F dX4_readsLess_41 (by decide) ?_
    obtain ⟨rfl, rfl⟩ := r2_out h
    exact V.zret F (by decide) dX4_readsLess_42
def Re_readsLess (rc : Nat → Int32 → Mem → Option (Int32 × Mem)) (x1 : Int32) (μ : Mem) : Option (Int32 × Mem) :=
  bnd2 (rc 4 x1 μ) fun r2 μ3 =>
  if r2 = 0 then (
    some (0, μ3))
  else (
    nm (rd μ3 9 0 4) fun a5 =>
    if a5 = 60 then (
      Re_readsLess_29 rc x1 a5 μ3)
    else (
      if a5 = 61 then (
        Re_readsLess_29 rc x1 a5 μ3)
      else (
        some (1, μ3))))
set_option maxHeartbeats 4000000 in
set_option maxRecDepth 100000 in
theorem Re_readsLess_ok {φ : Fr} {d : Nat} (F : Fx φ ΩA cX4_readsLess RX4 3 (some .boolean)) (hd : 3 ≤ d) {rc : Nat → Int32 → Mem → Option (Int32 × Mem)} (hrc : ∀ (w : Nat) (a0 : Int32) (μ : Mem) (r : Int32) (μ' : Mem), rc w a0 μ = some (r, μ') → Re_recG φ.1.2.1 (gl φ) d w a0 μ (some (.int r), μ')) {x1 : Int32} {μ : Mem} {r : Int32} {μ' : Mem} (h : Re_readsLess rc x1 μ = some (r, μ')) : V φ ΩA 3 (d + 1) 0 [some (rf φ 9 0), some (.int x1), none] [] μ (some (.int r), μ') := by
  unfold Re_readsLess at h
  refine V.rload_n F dX4_readsLess_0 rfl rfl ?_
  refine V.iload_n F dX4_readsLess_1 rfl rfl ?_
  obtain ⟨r2, μ3, e1, h⟩ := bnd2_out h
  refine V.callVi (f := 9) (i := 0) (As := [.int x1]) F ck_RX4_75 (hrc 4 _ _ _ _ e1) (by omega) (by decide) rfl mA9 rfl rfl rfl (Nat.le_of_ble_eq_true rfl) dX4_readsLess_2 ?_
  refine V.if_ne (tgt := 10) F dX4_readsLess_5 (by decide) (fun c4 => ?_) (fun c4 => ?_)
  · have h := f_out h c4
    refine V.rload_n F dX4_readsLess_10 rfl rfl ?_
    refine gf_RX4_29 F dX4_readsLess_11 ?_
    obtain ⟨a5, ea5, h⟩ := nm_out h
    refine V.istore_n (L' := [some (rf φ 9 0), some (.int x1), some (.int a5)]) F dX4_readsLess_14 rfl (by decide) rfl ea5 rfl ?_
    refine V.iload_n F dX4_readsLess_15 rfl rfl ?_
    refine V.bipush (v := 60) F dX4_readsLess_16 (by decide) ?_
    refine V.icmp_eq (tgt := 29) F dX4_readsLess_18 (by decide) (fun c6 => ?_) (fun c6 => ?_)
    · have h := t_out h c6
      exact Re_readsLess_29_ok F hd hrc h
    · have h := f_out h c6
      refine V.iload_n F dX4_readsLess_21 rfl rfl ?_
      refine V.bipush (v := 61) F dX4_readsLess_22 (by decide) ?_
      refine V.icmp_eq (tgt := 29) F dX4_readsLess_24 (by decide) (fun c7 => ?_) (fun c7 => ?_)
      · have h := t_out h c7
        exact Re_readsLess_29_ok F hd hrc h
      · have h := f_out h c7
        refine V.iconst (v := 1) F dX4_readsLess_27 (by decide) ?_
        obtain ⟨rfl, rfl⟩ := r2_out h
        exact V.zret F (by decide) dX4_readsLess_28
  · have h := t_out h c4
    refine V.iconst (v := 0) F dX4_readsLess_8 (by decide) ?_
    obtain ⟨rfl, rfl⟩ := r2_out h
    exact V.zret F (by decide) dX4_readsLess_9
def Re_readsSum_37 (rc : Nat → Int32 → Mem → Option (Int32 × Mem)) (k12 : Int32 → Int32 → Mem → Option (Int32 × Mem)) (x1 : Int32) (x2 : Int32) (μ : Mem) : Option (Int32 × Mem) :=
  nm (rd μ 9 0 4) fun a1 =>
  bnd (Re_pass μ) fun μ3 =>
  bnd2 (rc 5 x1 μ3) fun r5 μ6 =>
  if r5 = 0 then (
    some (0, μ6))
  else (
    bnd (Re_put (-a1) μ6) fun μ9 =>
    nm (x2 + 1) fun a10 =>
    k12 x1 a10 μ9)
set_option maxHeartbeats 4000000 in
set_option maxRecDepth 100000 in
theorem Re_readsSum_37_ok {φ : Fr} {d : Nat} (F : Fx φ ΩA cX4_readsSum RX4 4 (some .boolean)) (hd : 3 ≤ d) {rc : Nat → Int32 → Mem → Option (Int32 × Mem)} (hrc : ∀ (w : Nat) (a0 : Int32) (μ : Mem) (r : Int32) (μ' : Mem), rc w a0 μ = some (r, μ') → Re_recG φ.1.2.1 (gl φ) d w a0 μ (some (.int r), μ')) {k12 : Int32 → Int32 → Mem → Option (Int32 × Mem)} (hk12 : ∀ (x1 : Int32) (x2 : Int32) (μ : Mem) (r : Int32) (μ' : Mem), k12 x1 x2 μ = some (r, μ') → V φ ΩA 4 (d + 1) 12 [some (rf φ 9 0), some (.int x1), some (.int x2), none] [] μ (some (.int r), μ')) {x1 : Int32} {x2 : Int32} {μ : Mem} {r : Int32} {μ' : Mem} (h : Re_readsSum_37 rc k12 x1 x2 μ = some (r, μ')) : V φ ΩA 4 (d + 1) 37 [some (rf φ 9 0), some (.int x1), some (.int x2), none] [] μ (some (.int r), μ') := by
  unfold Re_readsSum_37 at h
  refine V.rload_n F dX4_readsSum_37 rfl rfl ?_
  refine gf_RX4_29 F dX4_readsSum_38 ?_
  obtain ⟨a1, ea1, h⟩ := nm_out h
  refine V.istore_n (L' := [some (rf φ 9 0), some (.int x1), some (.int x2), some (.int a1)]) F dX4_readsSum_41 rfl (by decide) rfl ea1 rfl ?_
  refine V.rload_n F dX4_readsSum_42 rfl rfl ?_
  obtain ⟨μ3, e2, h⟩ := bnd_out h
  refine V.callVv (f := 9) (i := 0) (As := []) F ck_RX4_63 (Re_pass_ct e2) (by omega) (by decide) rfl mA9 rfl rfl rfl (Nat.le_of_ble_eq_true rfl) dX4_readsSum_43 ?_
  refine V.rload_n F dX4_readsSum_46 rfl rfl ?_
  refine V.iload_n F dX4_readsSum_47 rfl rfl ?_
  obtain ⟨r5, μ6, e4, h⟩ := bnd2_out h
  refine V.callVi (f := 9) (i := 0) (As := [.int x1]) F ck_RX4_78 (hrc 5 _ _ _ _ e4) (by omega) (by decide) rfl mA9 rfl rfl rfl (Nat.le_of_ble_eq_true rfl) dX4_readsSum_48 ?_
  refine V.if_ne (tgt := 56) F dX4_readsSum_51 (by decide) (fun c7 => ?_) (fun c7 => ?_)
  · have h := f_out h c7
    refine V.rload_n F dX4_readsSum_56 rfl rfl ?_
    refine V.iload_n F dX4_readsSum_57 rfl rfl ?_
    refine V.ineg F dX4_readsSum_58 ?_
    obtain ⟨μ9, e8, h⟩ := bnd_out h
    refine V.callVv (f := 9) (i := 0) (As := [.int (-a1)]) F ck_RX4_66 (Re_put_ct e8) (by omega) (by decide) rfl mA9 rfl rfl rfl (Nat.le_of_ble_eq_true rfl) dX4_readsSum_59 ?_
    obtain ⟨a10, ea10, h⟩ := nm_out h
    refine V.iinc (z := 1) (L' := [some (rf φ 9 0), some (.int x1), some (.int a10), some (.int a1)]) F dX4_readsSum_62 rfl (by decide) ea10 (by decide) rfl rfl ?_
    refine V.goto (tgt := 12) F dX4_readsSum_65 (by decide) ?_
    refine V.msk (L' := [some (rf φ 9 0), some (.int x1), some (.int a10), none]) [true, true, true, false] rfl ?_
    exact hk12 _ _ _ _ _ h
  · have h := t_out h c7
    refine V.iconst (v := 0) F dX4_readsSum_54 (by decide) ?_
    obtain ⟨rfl, rfl⟩ := r2_out h
    exact V.zret F (by decide) dX4_readsSum_55
def Re_readsSum_12 (rc : Nat → Int32 → Mem → Option (Int32 × Mem)) (k12 : Int32 → Int32 → Mem → Option (Int32 × Mem)) (x1 : Int32) (x2 : Int32) (μ : Mem) : Option (Int32 × Mem) :=
  if x2 < 160 then (
    if (rd μ 9 0 4) = 43 then (
      Re_readsSum_37 rc k12 x1 x2 μ)
    else (
      if (rd μ 9 0 4) = 45 then (
        Re_readsSum_37 rc k12 x1 x2 μ)
      else (
        some (1, μ))))
  else (
    some (1, μ))
set_option maxHeartbeats 4000000 in
set_option maxRecDepth 100000 in
theorem Re_readsSum_12_ok {φ : Fr} {d : Nat} (F : Fx φ ΩA cX4_readsSum RX4 4 (some .boolean)) (hd : 3 ≤ d) {rc : Nat → Int32 → Mem → Option (Int32 × Mem)} (hrc : ∀ (w : Nat) (a0 : Int32) (μ : Mem) (r : Int32) (μ' : Mem), rc w a0 μ = some (r, μ') → Re_recG φ.1.2.1 (gl φ) d w a0 μ (some (.int r), μ')) {k12 : Int32 → Int32 → Mem → Option (Int32 × Mem)} (hk12 : ∀ (x1 : Int32) (x2 : Int32) (μ : Mem) (r : Int32) (μ' : Mem), k12 x1 x2 μ = some (r, μ') → V φ ΩA 4 (d + 1) 12 [some (rf φ 9 0), some (.int x1), some (.int x2), none] [] μ (some (.int r), μ')) {x1 : Int32} {x2 : Int32} {μ : Mem} {r : Int32} {μ' : Mem} (h : Re_readsSum_12 rc k12 x1 x2 μ = some (r, μ')) : V φ ΩA 4 (d + 1) 12 [some (rf φ 9 0), some (.int x1), some (.int x2), none] [] μ (some (.int r), μ') := by
  unfold Re_readsSum_12 at h
  refine V.iload_n F dX4_readsSum_12 rfl rfl ?_
  refine V.sipush (v := 160) F dX4_readsSum_13 (by decide) ?_
  refine V.icmp_ge (tgt := 68) F dX4_readsSum_16 (by decide) (fun c1 => ?_) (fun c1 => ?_)
  · have h := f_out h c1
    refine V.iconst (v := 1) F dX4_readsSum_68 (by decide) ?_
    obtain ⟨rfl, rfl⟩ := r2_out h
    exact V.zret F (by decide) dX4_readsSum_69
  · have h := t_out h c1
    refine V.rload_n F dX4_readsSum_19 rfl rfl ?_
    refine gf_RX4_29 F dX4_readsSum_20 ?_
    refine V.bipush (v := 43) F dX4_readsSum_23 (by decide) ?_
    refine V.icmp_eq (tgt := 37) F dX4_readsSum_25 (by decide) (fun c2 => ?_) (fun c2 => ?_)
    · have h := t_out h c2
      exact Re_readsSum_37_ok F hd hrc hk12 h
    · have h := f_out h c2
      refine V.rload_n F dX4_readsSum_28 rfl rfl ?_
      refine gf_RX4_29 F dX4_readsSum_29 ?_
      refine V.bipush (v := 45) F dX4_readsSum_32 (by decide) ?_
      refine V.icmp_ne (tgt := 68) F dX4_readsSum_34 (by decide) (fun c3 => ?_) (fun c3 => ?_)
      · have h := f_out h c3
        refine V.iconst (v := 1) F dX4_readsSum_68 (by decide) ?_
        obtain ⟨rfl, rfl⟩ := r2_out h
        exact V.zret F (by decide) dX4_readsSum_69
      · have h := t_out h c3
        exact Re_readsSum_37_ok F hd hrc hk12 h
def Re_readsSum_12L (rc : Nat → Int32 → Mem → Option (Int32 × Mem)) : Nat → Int32 → Int32 → Mem → Option (Int32 × Mem)
  | 0 => fun _ _ _ => none
  | n + 1 => Re_readsSum_12 rc (Re_readsSum_12L rc n)
set_option maxHeartbeats 4000000 in
set_option maxRecDepth 100000 in
theorem Re_readsSum_12L_ok {φ : Fr} {d : Nat} (F : Fx φ ΩA cX4_readsSum RX4 4 (some .boolean)) (hd : 3 ≤ d) {rc : Nat → Int32 → Mem → Option (Int32 × Mem)} (hrc : ∀ (w : Nat) (a0 : Int32) (μ : Mem) (r : Int32) (μ' : Mem), rc w a0 μ = some (r, μ') → Re_recG φ.1.2.1 (gl φ) d w a0 μ (some (.int r), μ')) : ∀ (n : Nat) (x1 : Int32) (x2 : Int32) (μ : Mem) (r : Int32) (μ' : Mem), Re_readsSum_12L rc n x1 x2 μ = some (r, μ') → V φ ΩA 4 (d + 1) 12 [some (rf φ 9 0), some (.int x1), some (.int x2), none] [] μ (some (.int r), μ') := by
  intro n
  induction n with
  | zero => intro x1 x2 μ r μ' h; cases h
  | succ n ih => intro x1 x2 μ r μ' h; exact Re_readsSum_12_ok F hd hrc ih h
def Re_readsSum (rc : Nat → Int32 → Mem → Option (Int32 × Mem)) (x1 : Int32) (μ : Mem) : Option (Int32 × Mem) :=
  bnd2 (rc 5 x1 μ) fun r2 μ3 =>
  if r2 = 0 then (
    some (0, μ3))
  else (
    Re_readsSum_12L rc 1000 x1 0 μ3)
set_option maxHeartbeats 4000000 in
set_option maxRecDepth 100000 in
theorem Re_readsSum_ok {φ : Fr} {d : Nat} (F : Fx φ ΩA cX4_readsSum RX4 4 (some .boolean)) (hd : 3 ≤ d) {rc : Nat → Int32 → Mem → Option (Int32 × Mem)} (hrc : ∀ (w : Nat) (a0 : Int32) (μ : Mem) (r : Int32) (μ' : Mem), rc w a0 μ = some (r, μ') → Re_recG φ.1.2.1 (gl φ) d w a0 μ (some (.int r), μ')) {x1 : Int32} {μ : Mem} {r : Int32} {μ' : Mem} (h : Re_readsSum rc x1 μ = some (r, μ')) : V φ ΩA 4 (d + 1) 0 [some (rf φ 9 0), some (.int x1), none, none] [] μ (some (.int r), μ') := by
  unfold Re_readsSum at h
  refine V.rload_n F dX4_readsSum_0 rfl rfl ?_
  refine V.iload_n F dX4_readsSum_1 rfl rfl ?_
  obtain ⟨r2, μ3, e1, h⟩ := bnd2_out h
  refine V.callVi (f := 9) (i := 0) (As := [.int x1]) F ck_RX4_78 (hrc 5 _ _ _ _ e1) (by omega) (by decide) rfl mA9 rfl rfl rfl (Nat.le_of_ble_eq_true rfl) dX4_readsSum_2 ?_
  refine V.if_ne (tgt := 10) F dX4_readsSum_5 (by decide) (fun c4 => ?_) (fun c4 => ?_)
  · have h := f_out h c4
    refine V.iconst (v := 0) F dX4_readsSum_10 (by decide) ?_
    refine V.istore_n (L' := [some (rf φ 9 0), some (.int x1), some (.int 0), none]) F dX4_readsSum_11 rfl (by decide) rfl rfl rfl ?_
    exact Re_readsSum_12L_ok F hd hrc 1000 _ _ _ _ _ h
  · have h := t_out h c4
    refine V.iconst (v := 0) F dX4_readsSum_8 (by decide) ?_
    obtain ⟨rfl, rfl⟩ := r2_out h
    exact V.zret F (by decide) dX4_readsSum_9
def Re_readsTerm_12 (rc : Nat → Int32 → Mem → Option (Int32 × Mem)) (k12 : Int32 → Int32 → Mem → Option (Int32 × Mem)) (x1 : Int32) (x2 : Int32) (μ : Mem) : Option (Int32 × Mem) :=
  if x2 < 160 then (
    if (rd μ 9 0 4) = 42 then (
      bnd (Re_pass μ) fun μ4 =>
      bnd2 (rc 6 x1 μ4) fun r6 μ7 =>
      if r6 = 0 then (
        some (0, μ7))
      else (
        bnd (Re_put (-42) μ7) fun μ10 =>
        nm (x2 + 1) fun a11 =>
        k12 x1 a11 μ10))
    else (
      some (1, μ)))
  else (
    some (1, μ))
set_option maxHeartbeats 4000000 in
set_option maxRecDepth 100000 in
theorem Re_readsTerm_12_ok {φ : Fr} {d : Nat} (F : Fx φ ΩA cX4_readsTerm RX4 3 (some .boolean)) (hd : 3 ≤ d) {rc : Nat → Int32 → Mem → Option (Int32 × Mem)} (hrc : ∀ (w : Nat) (a0 : Int32) (μ : Mem) (r : Int32) (μ' : Mem), rc w a0 μ = some (r, μ') → Re_recG φ.1.2.1 (gl φ) d w a0 μ (some (.int r), μ')) {k12 : Int32 → Int32 → Mem → Option (Int32 × Mem)} (hk12 : ∀ (x1 : Int32) (x2 : Int32) (μ : Mem) (r : Int32) (μ' : Mem), k12 x1 x2 μ = some (r, μ') → V φ ΩA 3 (d + 1) 12 [some (rf φ 9 0), some (.int x1), some (.int x2)] [] μ (some (.int r), μ')) {x1 : Int32} {x2 : Int32} {μ : Mem} {r : Int32} {μ' : Mem} (h : Re_readsTerm_12 rc k12 x1 x2 μ = some (r, μ')) : V φ ΩA 3 (d + 1) 12 [some (rf φ 9 0), some (.int x1), some (.int x2)] [] μ (some (.int r), μ') := by
  unfold Re_readsTerm_12 at h
  refine V.iload_n F dX4_readsTerm_12 rfl rfl ?_
  refine V.sipush (v := 160) F dX4_readsTerm_13 (by decide) ?_
  refine V.icmp_ge (tgt := 54) F dX4_readsTerm_16 (by decide) (fun c1 => ?_) (fun c1 => ?_)
  · have h := f_out h c1
    refine V.iconst (v := 1) F dX4_readsTerm_54 (by decide) ?_
    obtain ⟨rfl, rfl⟩ := r2_out h
    exact V.zret F (by decide) dX4_readsTerm_55
  · have h := t_out h c1
    refine V.rload_n F dX4_readsTerm_19 rfl rfl ?_
    refine gf_RX4_29 F dX4_readsTerm_20 ?_
    refine V.bipush (v := 42) F dX4_readsTerm_23 (by decide) ?_
    refine V.icmp_ne (tgt := 54) F dX4_readsTerm_25 (by decide) (fun c2 => ?_) (fun c2 => ?_)
    · have h := f_out h c2
      refine V.iconst (v := 1) F dX4_readsTerm_54 (by decide) ?_
      obtain ⟨rfl, rfl⟩ := r2_out h
      exact V.zret F (by decide) dX4_readsTerm_55
    · have h := t_out h c2
      refine V.rload_n F dX4_readsTerm_28 rfl rfl ?_
      obtain ⟨μ4, e3, h⟩ := bnd_out h
      refine V.callVv (f := 9) (i := 0) (As := []) F ck_RX4_63 (Re_pass_ct e3) (by omega) (by decide) rfl mA9 rfl rfl rfl (Nat.le_of_ble_eq_true rfl) dX4_readsTerm_29 ?_
      refine V.rload_n F dX4_readsTerm_32 rfl rfl ?_
      refine V.iload_n F dX4_readsTerm_33 rfl rfl ?_
      obtain ⟨r6, μ7, e5, h⟩ := bnd2_out h
      refine V.callVi (f := 9) (i := 0) (As := [.int x1]) F ck_RX4_81 (hrc 6 _ _ _ _ e5) (by omega) (by decide) rfl mA9 rfl rfl rfl (Nat.le_of_ble_eq_true rfl) dX4_readsTerm_34 ?_
      refine V.if_ne (tgt := 42) F dX4_readsTerm_37 (by decide) (fun c8 => ?_) (fun c8 => ?_)
      · have h := f_out h c8
        refine V.rload_n F dX4_readsTerm_42 rfl rfl ?_
        refine V.bipush (v := (-42)) F dX4_readsTerm_43 (by decide) ?_
        obtain ⟨μ10, e9, h⟩ := bnd_out h
        refine V.callVv (f := 9) (i := 0) (As := [.int (-42)]) F ck_RX4_66 (Re_put_ct e9) (by omega) (by decide) rfl mA9 rfl rfl rfl (Nat.le_of_ble_eq_true rfl) dX4_readsTerm_45 ?_
        obtain ⟨a11, ea11, h⟩ := nm_out h
        refine V.iinc (z := 1) (L' := [some (rf φ 9 0), some (.int x1), some (.int a11)]) F dX4_readsTerm_48 rfl (by decide) ea11 (by decide) rfl rfl ?_
        refine V.goto (tgt := 12) F dX4_readsTerm_51 (by decide) ?_
        exact hk12 _ _ _ _ _ h
      · have h := t_out h c8
        refine V.iconst (v := 0) F dX4_readsTerm_40 (by decide) ?_
        obtain ⟨rfl, rfl⟩ := r2_out h
        exact V.zret F (by decide) dX4_readsTerm_41
def Re_readsTerm_12L (rc : Nat → Int32 → Mem → Option (Int32 × Mem)) : Nat → Int32 → Int32 → Mem → Option (Int32 × Mem)
  | 0 => fun _ _ _ => none
  | n + 1 => Re_readsTerm_12 rc (Re_readsTerm_12L rc n)
set_option maxHeartbeats 4000000 in
set_option maxRecDepth 100000 in
theorem Re_readsTerm_12L_ok {φ : Fr} {d : Nat} (F : Fx φ ΩA cX4_readsTerm RX4 3 (some .boolean)) (hd : 3 ≤ d) {rc : Nat → Int32 → Mem → Option (Int32 × Mem)} (hrc : ∀ (w : Nat) (a0 : Int32) (μ : Mem) (r : Int32) (μ' : Mem), rc w a0 μ = some (r, μ') → Re_recG φ.1.2.1 (gl φ) d w a0 μ (some (.int r), μ')) : ∀ (n : Nat) (x1 : Int32) (x2 : Int32) (μ : Mem) (r : Int32) (μ' : Mem), Re_readsTerm_12L rc n x1 x2 μ = some (r, μ') → V φ ΩA 3 (d + 1) 12 [some (rf φ 9 0), some (.int x1), some (.int x2)] [] μ (some (.int r), μ') := by
  intro n
  induction n with
  | zero => intro x1 x2 μ r μ' h; cases h
  | succ n ih => intro x1 x2 μ r μ' h; exact Re_readsTerm_12_ok F hd hrc ih h
def Re_readsTerm (rc : Nat → Int32 → Mem → Option (Int32 × Mem)) (x1 : Int32) (μ : Mem) : Option (Int32 × Mem) :=
  bnd2 (rc 6 x1 μ) fun r2 μ3 =>
  if r2 = 0 then (
    some (0, μ3))
  else (
    Re_readsTerm_12L rc 1000 x1 0 μ3)
set_option maxHeartbeats 4000000 in
set_option maxRecDepth 100000 in
theorem Re_readsTerm_ok {φ : Fr} {d : Nat} (F : Fx φ ΩA cX4_readsTerm RX4 3 (some .boolean)) (hd : 3 ≤ d) {rc : Nat → Int32 → Mem → Option (Int32 × Mem)} (hrc : ∀ (w : Nat) (a0 : Int32) (μ : Mem) (r : Int32) (μ' : Mem), rc w a0 μ = some (r, μ') → Re_recG φ.1.2.1 (gl φ) d w a0 μ (some (.int r), μ')) {x1 : Int32} {μ : Mem} {r : Int32} {μ' : Mem} (h : Re_readsTerm rc x1 μ = some (r, μ')) : V φ ΩA 3 (d + 1) 0 [some (rf φ 9 0), some (.int x1), none] [] μ (some (.int r), μ') := by
  unfold Re_readsTerm at h
  refine V.rload_n F dX4_readsTerm_0 rfl rfl ?_
  refine V.iload_n F dX4_readsTerm_1 rfl rfl ?_
  obtain ⟨r2, μ3, e1, h⟩ := bnd2_out h
  refine V.callVi (f := 9) (i := 0) (As := [.int x1]) F ck_RX4_81 (hrc 6 _ _ _ _ e1) (by omega) (by decide) rfl mA9 rfl rfl rfl (Nat.le_of_ble_eq_true rfl) dX4_readsTerm_2 ?_
  refine V.if_ne (tgt := 10) F dX4_readsTerm_5 (by decide) (fun c4 => ?_) (fun c4 => ?_)
  · have h := f_out h c4
    refine V.iconst (v := 0) F dX4_readsTerm_10 (by decide) ?_
    refine V.istore_n (L' := [some (rf φ 9 0), some (.int x1), some (.int 0)]) F dX4_readsTerm_11 rfl (by decide) rfl rfl rfl ?_
    exact Re_readsTerm_12L_ok F hd hrc 1000 _ _ _ _ _ h
  · have h := t_out h c4
    refine V.iconst (v := 0) F dX4_readsTerm_8 (by decide) ?_
    obtain ⟨rfl, rfl⟩ := r2_out h
    exact V.zret F (by decide) dX4_readsTerm_9
def Re_readsOne_49 (rc : Nat → Int32 → Mem → Option (Int32 × Mem)) (y1 : Int32) (μ : Mem) : Option (Int32 × Mem) :=
  bnd (Re_put y1 μ) fun μ2 =>
  bnd (Re_pass μ2) fun μ4 =>
  some (1, μ4)
set_option maxHeartbeats 4000000 in
set_option maxRecDepth 100000 in
theorem Re_readsOne_49_ok {φ : Fr} {d : Nat} (F : Fx φ ΩA cX4_readsOne RX4 2 (some .boolean)) (hd : 3 ≤ d) {rc : Nat → Int32 → Mem → Option (Int32 × Mem)} (hrc : ∀ (w : Nat) (a0 : Int32) (μ : Mem) (r : Int32) (μ' : Mem), rc w a0 μ = some (r, μ') → Re_recG φ.1.2.1 (gl φ) d w a0 μ (some (.int r), μ')) {y1 : Int32} {μ : Mem} {r : Int32} {μ' : Mem} (h : Re_readsOne_49 rc y1 μ = some (r, μ')) : V φ ΩA 2 (d + 1) 49 [some (rf φ 9 0), none] [.int y1, rf φ 9 0] μ (some (.int r), μ') := by
  unfold Re_readsOne_49 at h
  obtain ⟨μ2, e1, h⟩ := bnd_out h
  refine V.callVv (f := 9) (i := 0) (As := [.int y1]) F ck_RX4_66 (Re_put_ct e1) (by omega) (by decide) rfl mA9 rfl rfl rfl (Nat.le_of_ble_eq_true rfl) dX4_readsOne_49 ?_
  refine V.rload_n F dX4_readsOne_52 rfl rfl ?_
  obtain ⟨μ4, e3, h⟩ := bnd_out h
  refine V.callVv (f := 9) (i := 0) (As := []) F ck_RX4_63 (Re_pass_ct e3) (by omega) (by decide) rfl mA9 rfl rfl rfl (Nat.le_of_ble_eq_true rfl) dX4_readsOne_53 ?_
  refine V.iconst (v := 1) F dX4_readsOne_56 (by decide) ?_
  obtain ⟨rfl, rfl⟩ := r2_out h
  exact V.zret F (by decide) dX4_readsOne_57
def Re_readsOne_18 (rc : Nat → Int32 → Mem → Option (Int32 × Mem)) (μ : Mem) : Option (Int32 × Mem) :=
  if (rd μ 9 0 4) = 12 then (
    chk (inb (rd μ 9 0 3) 161) <|
    Re_readsOne_49 rc (rd μ 14 0 (ix (rd μ 9 0 3))) μ)
  else (
    Re_readsOne_49 rc ((-1) - (rd μ 9 0 4)) μ)
set_option maxHeartbeats 4000000 in
set_option maxRecDepth 100000 in
theorem Re_readsOne_18_ok {φ : Fr} {d : Nat} (F : Fx φ ΩA cX4_readsOne RX4 2 (some .boolean)) (hd : 3 ≤ d) {rc : Nat → Int32 → Mem → Option (Int32 × Mem)} (hrc : ∀ (w : Nat) (a0 : Int32) (μ : Mem) (r : Int32) (μ' : Mem), rc w a0 μ = some (r, μ') → Re_recG φ.1.2.1 (gl φ) d w a0 μ (some (.int r), μ')) {μ : Mem} {r : Int32} {μ' : Mem} (h : Re_readsOne_18 rc μ = some (r, μ')) : V φ ΩA 2 (d + 1) 18 [some (rf φ 9 0), none] [] μ (some (.int r), μ') := by
  unfold Re_readsOne_18 at h
  refine V.rload_n F dX4_readsOne_18 rfl rfl ?_
  refine V.rload_n F dX4_readsOne_19 rfl rfl ?_
  refine gf_RX4_29 F dX4_readsOne_20 ?_
  refine V.bipush (v := 12) F dX4_readsOne_23 (by decide) ?_
  refine V.icmp_ne (tgt := 43) F dX4_readsOne_25 (by decide) (fun c1 => ?_) (fun c1 => ?_)
  · have h := f_out h c1
    refine V.iconst (v := (-1)) F dX4_readsOne_43 (by decide) ?_
    refine V.rload_n F dX4_readsOne_44 rfl rfl ?_
    refine gf_RX4_29 F dX4_readsOne_45 ?_
    refine V.isub F dX4_readsOne_48 ?_
    exact Re_readsOne_49_ok F hd hrc h
  · have h := t_out h c1
    refine V.rload_n F dX4_readsOne_28 rfl rfl ?_
    refine gf_RX4_12 F dX4_readsOne_29 ?_
    refine gf_RX4_84 F dX4_readsOne_32 ?_
    refine V.rload_n F dX4_readsOne_35 rfl rfl ?_
    refine gf_RX4_26 F dX4_readsOne_36 ?_
    obtain ⟨c2, h⟩ := chk_out h
    refine V.iald (t0 := 0) (n := 161) F mA14 rfl rfl c2 dX4_readsOne_39 ?_
    refine V.goto (tgt := 49) F dX4_readsOne_40 (by decide) ?_
    exact Re_readsOne_49_ok F hd hrc h
def Re_readsOne_76 (rc : Nat → Int32 → Mem → Option (Int32 × Mem)) (x1 : Int32) (μ : Mem) : Option (Int32 × Mem) :=
  if x1 < 5 then (
    bnd2 (Re_eats 40 μ) fun r3 μ4 =>
    if r3 = 0 then (
      bnd (Re_pass μ4) fun μ7 =>
      bnd2 (rc 6 (x1 + 1) μ7) fun r9 μ10 =>
      if r9 = 0 then (
        some (0, μ10))
      else (
        bnd (Re_put (-100) μ10) fun μ13 =>
        some (1, μ13)))
    else (
      bnd2 (rc 0 (x1 + 1) μ4) fun r15 μ16 =>
      if r15 = 0 then (
        some (0, μ16))
      else (
        bnd2 (Re_eats 41 μ16) fun r19 μ20 =>
        if r19 = 0 then (
          some (0, μ20))
        else (
          some (1, μ20)))))
  else (
    some (0, μ))
set_option maxHeartbeats 4000000 in
set_option maxRecDepth 100000 in
theorem Re_readsOne_76_ok {φ : Fr} {d : Nat} (F : Fx φ ΩA cX4_readsOne RX4 2 (some .boolean)) (hd : 3 ≤ d) {rc : Nat → Int32 → Mem → Option (Int32 × Mem)} (hrc : ∀ (w : Nat) (a0 : Int32) (μ : Mem) (r : Int32) (μ' : Mem), rc w a0 μ = some (r, μ') → Re_recG φ.1.2.1 (gl φ) d w a0 μ (some (.int r), μ')) {x1 : Int32} {μ : Mem} {r : Int32} {μ' : Mem} (h : Re_readsOne_76 rc x1 μ = some (r, μ')) : V φ ΩA 2 (d + 1) 76 [some (rf φ 9 0), some (.int x1)] [] μ (some (.int r), μ') := by
  unfold Re_readsOne_76 at h
  refine V.iload_n F dX4_readsOne_76 rfl rfl ?_
  refine V.iconst (v := 5) F dX4_readsOne_77 (by decide) ?_
  refine V.icmp_lt (tgt := 83) F dX4_readsOne_78 (by decide) (fun c1 => ?_) (fun c1 => ?_)
  · have h := t_out h c1
    refine V.rload_n F dX4_readsOne_83 rfl rfl ?_
    refine V.bipush (v := 40) F dX4_readsOne_84 (by decide) ?_
    obtain ⟨r3, μ4, e2, h⟩ := bnd2_out h
    refine V.callVi (f := 9) (i := 0) (As := [.int 40]) F ck_RX4_53 (Re_eats_ct e2) (by omega) (by decide) rfl mA9 rfl rfl rfl (Nat.le_of_ble_eq_true rfl) dX4_readsOne_86 ?_
    refine V.if_eq (tgt := 117) F dX4_readsOne_89 (by decide) (fun c5 => ?_) (fun c5 => ?_)
    · have h := t_out h c5
      refine V.rload_n F dX4_readsOne_117 rfl rfl ?_
      obtain ⟨μ7, e6, h⟩ := bnd_out h
      refine V.callVv (f := 9) (i := 0) (As := []) F ck_RX4_63 (Re_pass_ct e6) (by omega) (by decide) rfl mA9 rfl rfl rfl (Nat.le_of_ble_eq_true rfl) dX4_readsOne_118 ?_
      refine V.rload_n F dX4_readsOne_121 rfl rfl ?_
      refine V.iload_n F dX4_readsOne_122 rfl rfl ?_
      refine V.iconst (v := 1) F dX4_readsOne_123 (by decide) ?_
      refine V.iadd F dX4_readsOne_124 ?_
      obtain ⟨r9, μ10, e8, h⟩ := bnd2_out h
      refine V.callVi (f := 9) (i := 0) (As := [.int (x1 + 1)]) F ck_RX4_81 (hrc 6 _ _ _ _ e8) (by omega) (by decide) rfl mA9 rfl rfl rfl (Nat.le_of_ble_eq_true rfl) dX4_readsOne_125 ?_
      refine V.if_ne (tgt := 133) F dX4_readsOne_128 (by decide) (fun c11 => ?_) (fun c11 => ?_)
      · have h := f_out h c11
        refine V.rload_n F dX4_readsOne_133 rfl rfl ?_
        refine V.bipush (v := (-100)) F dX4_readsOne_134 (by decide) ?_
        obtain ⟨μ13, e12, h⟩ := bnd_out h
        refine V.callVv (f := 9) (i := 0) (As := [.int (-100)]) F ck_RX4_66 (Re_put_ct e12) (by omega) (by decide) rfl mA9 rfl rfl rfl (Nat.le_of_ble_eq_true rfl) dX4_readsOne_136 ?_
        refine V.iconst (v := 1) F dX4_readsOne_139 (by decide) ?_
        obtain ⟨rfl, rfl⟩ := r2_out h
        exact V.zret F (by decide) dX4_readsOne_140
      · have h := t_out h c11
        refine V.iconst (v := 0) F dX4_readsOne_131 (by decide) ?_
        obtain ⟨rfl, rfl⟩ := r2_out h
        exact V.zret F (by decide) dX4_readsOne_132
    · have h := f_out h c5
      refine V.rload_n F dX4_readsOne_92 rfl rfl ?_
      refine V.iload_n F dX4_readsOne_93 rfl rfl ?_
      refine V.iconst (v := 1) F dX4_readsOne_94 (by decide) ?_
      refine V.iadd F dX4_readsOne_95 ?_
      obtain ⟨r15, μ16, e14, h⟩ := bnd2_out h
      refine V.callVi (f := 9) (i := 0) (As := [.int (x1 + 1)]) F ck_RX4_57 (hrc 0 _ _ _ _ e14) (by omega) (by decide) rfl mA9 rfl rfl rfl (Nat.le_of_ble_eq_true rfl) dX4_readsOne_96 ?_
      refine V.if_eq (tgt := 115) F dX4_readsOne_99 (by decide) (fun c17 => ?_) (fun c17 => ?_)
      · have h := t_out h c17
        refine V.iconst (v := 0) F dX4_readsOne_115 (by decide) ?_
        obtain ⟨rfl, rfl⟩ := r2_out h
        exact V.zret F (by decide) dX4_readsOne_116
      · have h := f_out h c17
        refine V.rload_n F dX4_readsOne_102 rfl rfl ?_
        refine V.bipush (v := 41) F dX4_readsOne_103 (by decide) ?_
        obtain ⟨r19, μ20, e18, h⟩ := bnd2_out h
        refine V.callVi (f := 9) (i := 0) (As := [.int 41]) F ck_RX4_53 (Re_eats_ct e18) (by omega) (by decide) rfl mA9 rfl rfl rfl (Nat.le_of_ble_eq_true rfl) dX4_readsOne_105 ?_
        refine V.if_eq (tgt := 115) F dX4_readsOne_108 (by decide) (fun c21 => ?_) (fun c21 => ?_)
        · have h := t_out h c21
          refine V.iconst (v := 0) F dX4_readsOne_115 (by decide) ?_
          obtain ⟨rfl, rfl⟩ := r2_out h
          exact V.zret F (by decide) dX4_readsOne_116
        · have h := f_out h c21
          refine V.iconst (v := 1) F dX4_readsOne_111 (by decide) ?_
          refine V.goto (tgt := 116) F dX4_readsOne_112 (by decide) ?_
          obtain ⟨rfl, rfl⟩ := r2_out h
          exact V.zret F (by decide) dX4_readsOne_116
  · have h := f_out h c1
    refine V.iconst (v := 0) F dX4_readsOne_81 (by decide) ?_
    obtain ⟨rfl, rfl⟩ := r2_out h
    exact V.zret F (by decide) dX4_readsOne_82
def Re_readsOne (rc : Nat → Int32 → Mem → Option (Int32 × Mem)) (x1 : Int32) (μ : Mem) : Option (Int32 × Mem) :=
  if (rd μ 9 0 4) = 12 then (
    Re_readsOne_18 rc μ)
  else (
    if (rd μ 9 0 4) < 6 then (
      Re_readsOne_18 rc μ)
    else (
      if (rd μ 9 0 4) = 45 then (
        Re_readsOne_76 rc x1 μ)
      else (
        if (rd μ 9 0 4) = 40 then (
          Re_readsOne_76 rc x1 μ)
        else (
          some (0, μ)))))
set_option maxHeartbeats 4000000 in
set_option maxRecDepth 100000 in
theorem Re_readsOne_ok {φ : Fr} {d : Nat} (F : Fx φ ΩA cX4_readsOne RX4 2 (some .boolean)) (hd : 3 ≤ d) {rc : Nat → Int32 → Mem → Option (Int32 × Mem)} (hrc : ∀ (w : Nat) (a0 : Int32) (μ : Mem) (r : Int32) (μ' : Mem), rc w a0 μ = some (r, μ') → Re_recG φ.1.2.1 (gl φ) d w a0 μ (some (.int r), μ')) {x1 : Int32} {μ : Mem} {r : Int32} {μ' : Mem} (h : Re_readsOne rc x1 μ = some (r, μ')) : V φ ΩA 2 (d + 1) 0 [some (rf φ 9 0), some (.int x1)] [] μ (some (.int r), μ') := by
  unfold Re_readsOne at h
  refine V.rload_n F dX4_readsOne_0 rfl rfl ?_
  refine gf_RX4_29 F dX4_readsOne_1 ?_
  refine V.bipush (v := 12) F dX4_readsOne_4 (by decide) ?_
  refine V.icmp_eq (tgt := 18) F dX4_readsOne_6 (by decide) (fun c1 => ?_) (fun c1 => ?_)
  · have h := t_out h c1
    refine V.msk (L' := [some (rf φ 9 0), none]) [true, false] rfl ?_
    exact Re_readsOne_18_ok F hd hrc h
  · have h := f_out h c1
    refine V.rload_n F dX4_readsOne_9 rfl rfl ?_
    refine gf_RX4_29 F dX4_readsOne_10 ?_
    refine V.bipush (v := 6) F dX4_readsOne_13 (by decide) ?_
    refine V.icmp_ge (tgt := 58) F dX4_readsOne_15 (by decide) (fun c2 => ?_) (fun c2 => ?_)
    · have h := f_out h c2
      refine V.rload_n F dX4_readsOne_58 rfl rfl ?_
      refine gf_RX4_29 F dX4_readsOne_59 ?_
      refine V.bipush (v := 45) F dX4_readsOne_62 (by decide) ?_
      refine V.icmp_eq (tgt := 76) F dX4_readsOne_64 (by decide) (fun c3 => ?_) (fun c3 => ?_)
      · have h := t_out h c3
        exact Re_readsOne_76_ok F hd hrc h
      · have h := f_out h c3
        refine V.rload_n F dX4_readsOne_67 rfl rfl ?_
        refine gf_RX4_29 F dX4_readsOne_68 ?_
        refine V.bipush (v := 40) F dX4_readsOne_71 (by decide) ?_
        refine V.icmp_ne (tgt := 81) F dX4_readsOne_73 (by decide) (fun c4 => ?_) (fun c4 => ?_)
        · have h := f_out h c4
          refine V.iconst (v := 0) F dX4_readsOne_81 (by decide) ?_
          obtain ⟨rfl, rfl⟩ := r2_out h
          exact V.zret F (by decide) dX4_readsOne_82
        · have h := t_out h c4
          exact Re_readsOne_76_ok F hd hrc h
    · have h := t_out h c2
      refine V.msk (L' := [some (rf φ 9 0), none]) [true, false] rfl ?_
      exact Re_readsOne_18_ok F hd hrc h
def Re_rec : Nat → Nat → Int32 → Mem → Option (Int32 × Mem)
  | 0 => fun _ _ _ => none
  | n + 1 => fun w a0 μ => match w with
    | 0 => Re_readsAny (Re_rec n) a0 μ
    | 1 => Re_readsAll (Re_rec n) a0 μ
    | 2 => Re_readsNot (Re_rec n) a0 μ
    | 3 => Re_readsLess (Re_rec n) a0 μ
    | 4 => Re_readsSum (Re_rec n) a0 μ
    | 5 => Re_readsTerm (Re_rec n) a0 μ
    | 6 => Re_readsOne (Re_rec n) a0 μ
    | _ => none
set_option maxHeartbeats 4000000 in
set_option maxRecDepth 100000 in
theorem Re_rec_ct {l : Launch} {G : Glo} : ∀ (n w : Nat) (a0 : Int32) (μ : Mem) (r : Int32) (μ' : Mem), Re_rec n w a0 μ = some (r, μ') → Re_recG l G (3 + n) w a0 μ (some (.int r), μ') := by
  intro n
  induction n with
  | zero => intro w a0 μ r μ' h; cases h
  | succ n ih =>
    intro w a0 μ r μ' h
    match w, h with
    | 0, h =>
      refine Ct.intro (y := yX4_readsAny) (by decide) (Nat.le_of_ble_eq_true rfl) ?_
      intro φ hl hG F
      subst hl; subst hG
      exact Re_readsAny_ok F (Nat.le_add_right _ _) ih h
    | 1, h =>
      refine Ct.intro (y := yX4_readsAll) (by decide) (Nat.le_of_ble_eq_true rfl) ?_
      intro φ hl hG F
      subst hl; subst hG
      exact Re_readsAll_ok F (Nat.le_add_right _ _) ih h
    | 2, h =>
      refine Ct.intro (y := yX4_readsNot) (by decide) (Nat.le_of_ble_eq_true rfl) ?_
      intro φ hl hG F
      subst hl; subst hG
      exact Re_readsNot_ok F (Nat.le_add_right _ _) ih h
    | 3, h =>
      refine Ct.intro (y := yX4_readsLess) (by decide) (Nat.le_of_ble_eq_true rfl) ?_
      intro φ hl hG F
      subst hl; subst hG
      exact Re_readsLess_ok F (Nat.le_add_right _ _) ih h
    | 4, h =>
      refine Ct.intro (y := yX4_readsSum) (by decide) (Nat.le_of_ble_eq_true rfl) ?_
      intro φ hl hG F
      subst hl; subst hG
      exact Re_readsSum_ok F (Nat.le_add_right _ _) ih h
    | 5, h =>
      refine Ct.intro (y := yX4_readsTerm) (by decide) (Nat.le_of_ble_eq_true rfl) ?_
      intro φ hl hG F
      subst hl; subst hG
      exact Re_readsTerm_ok F (Nat.le_add_right _ _) ih h
    | 6, h =>
      refine Ct.intro (y := yX4_readsOne) (by decide) (Nat.le_of_ble_eq_true rfl) ?_
      intro φ hl hG F
      subst hl; subst hG
      exact Re_readsOne_ok F (Nat.le_add_right _ _) ih h
    | _ + 7, h => cases h
def Re_readsParts_2 (k2 : Int32 → Mem → Option (Int32 × Mem)) (x1 : Int32) (μ : Mem) : Option (Int32 × Mem) :=
  if x1 < 3 then (
    bnd (Re_begin x1 μ) fun μ5 =>
    bnd2 (Re_eats (6 + x1) μ5) fun r7 μ8 =>
    if r7 = 0 then (
      some (0, μ8))
    else (
      bnd2 (Re_rec 100 0 0 μ8) fun r11 μ12 =>
      if r11 = 0 then (
        some (0, μ12))
      else (
        bnd2 (Re_eats 59 μ12) fun r15 μ16 =>
        if r15 = 0 then (
          some (0, μ16))
        else (
          nm (x1 + 1) fun a18 =>
          k2 a18 μ16))))
  else (
    bnd (Re_begin 3 μ) fun μ3 =>
    some (1, μ3))
set_option maxHeartbeats 4000000 in
set_option maxRecDepth 100000 in
theorem Re_readsParts_2_ok {φ : Fr} {d : Nat} (F : Fx φ ΩA cX4_readsParts RX4 2 (some .boolean)) (hd : 104 ≤ d) {k2 : Int32 → Mem → Option (Int32 × Mem)} (hk2 : ∀ (x1 : Int32) (μ : Mem) (r : Int32) (μ' : Mem), k2 x1 μ = some (r, μ') → V φ ΩA 2 d 2 [some (rf φ 9 0), some (.int x1)] [] μ (some (.int r), μ')) {x1 : Int32} {μ : Mem} {r : Int32} {μ' : Mem} (h : Re_readsParts_2 k2 x1 μ = some (r, μ')) : V φ ΩA 2 d 2 [some (rf φ 9 0), some (.int x1)] [] μ (some (.int r), μ') := by
  unfold Re_readsParts_2 at h
  refine V.iload_n F dX4_readsParts_2 rfl rfl ?_
  refine V.iconst (v := 3) F dX4_readsParts_3 (by decide) ?_
  refine V.icmp_ge (tgt := 48) F dX4_readsParts_4 (by decide) (fun c1 => ?_) (fun c1 => ?_)
  · have h := f_out h c1
    refine V.rload_n F dX4_readsParts_48 rfl rfl ?_
    refine V.iconst (v := 3) F dX4_readsParts_49 (by decide) ?_
    obtain ⟨μ3, e2, h⟩ := bnd_out h
    refine V.callVv (f := 9) (i := 0) (As := [.int 3]) F ck_RX4_49 (Re_begin_ct e2) (by omega) (by decide) rfl mA9 rfl rfl rfl (Nat.le_of_ble_eq_true rfl) dX4_readsParts_50 ?_
    refine V.iconst (v := 1) F dX4_readsParts_53 (by decide) ?_
    obtain ⟨rfl, rfl⟩ := r2_out h
    exact V.zret F (by decide) dX4_readsParts_54
  · have h := t_out h c1
    refine V.rload_n F dX4_readsParts_7 rfl rfl ?_
    refine V.iload_n F dX4_readsParts_8 rfl rfl ?_
    obtain ⟨μ5, e4, h⟩ := bnd_out h
    refine V.callVv (f := 9) (i := 0) (As := [.int x1]) F ck_RX4_49 (Re_begin_ct e4) (by omega) (by decide) rfl mA9 rfl rfl rfl (Nat.le_of_ble_eq_true rfl) dX4_readsParts_9 ?_
    refine V.rload_n F dX4_readsParts_12 rfl rfl ?_
    refine V.bipush (v := 6) F dX4_readsParts_13 (by decide) ?_
    refine V.iload_n F dX4_readsParts_15 rfl rfl ?_
    refine V.iadd F dX4_readsParts_16 ?_
    obtain ⟨r7, μ8, e6, h⟩ := bnd2_out h
    refine V.callVi (f := 9) (i := 0) (As := [.int (6 + x1)]) F ck_RX4_53 (Re_eats_ct e6) (by omega) (by decide) rfl mA9 rfl rfl rfl (Nat.le_of_ble_eq_true rfl) dX4_readsParts_17 ?_
    refine V.if_eq (tgt := 40) F dX4_readsParts_20 (by decide) (fun c9 => ?_) (fun c9 => ?_)
    · have h := t_out h c9
      refine V.iconst (v := 0) F dX4_readsParts_40 (by decide) ?_
      obtain ⟨rfl, rfl⟩ := r2_out h
      exact V.zret F (by decide) dX4_readsParts_41
    · have h := f_out h c9
      refine V.rload_n F dX4_readsParts_23 rfl rfl ?_
      refine V.iconst (v := 0) F dX4_readsParts_24 (by decide) ?_
      obtain ⟨r11, μ12, e10, h⟩ := bnd2_out h
      refine V.callVi (f := 9) (i := 0) (As := [.int 0]) F ck_RX4_57 (Re_rec_ct 100 0 _ _ _ _ e10) (by omega) (by decide) rfl mA9 rfl rfl rfl (Nat.le_of_ble_eq_true rfl) dX4_readsParts_25 ?_
      refine V.if_eq (tgt := 40) F dX4_readsParts_28 (by decide) (fun c13 => ?_) (fun c13 => ?_)
      · have h := t_out h c13
        refine V.iconst (v := 0) F dX4_readsParts_40 (by decide) ?_
        obtain ⟨rfl, rfl⟩ := r2_out h
        exact V.zret F (by decide) dX4_readsParts_41
      · have h := f_out h c13
        refine V.rload_n F dX4_readsParts_31 rfl rfl ?_
        refine V.bipush (v := 59) F dX4_readsParts_32 (by decide) ?_
        obtain ⟨r15, μ16, e14, h⟩ := bnd2_out h
        refine V.callVi (f := 9) (i := 0) (As := [.int 59]) F ck_RX4_53 (Re_eats_ct e14) (by omega) (by decide) rfl mA9 rfl rfl rfl (Nat.le_of_ble_eq_true rfl) dX4_readsParts_34 ?_
        refine V.if_ne (tgt := 42) F dX4_readsParts_37 (by decide) (fun c17 => ?_) (fun c17 => ?_)
        · have h := f_out h c17
          obtain ⟨a18, ea18, h⟩ := nm_out h
          refine V.iinc (z := 1) (L' := [some (rf φ 9 0), some (.int a18)]) F dX4_readsParts_42 rfl (by decide) ea18 (by decide) rfl rfl ?_
          refine V.goto (tgt := 2) F dX4_readsParts_45 (by decide) ?_
          exact hk2 _ _ _ _ h
        · have h := t_out h c17
          refine V.iconst (v := 0) F dX4_readsParts_40 (by decide) ?_
          obtain ⟨rfl, rfl⟩ := r2_out h
          exact V.zret F (by decide) dX4_readsParts_41
def Re_readsParts_2L : Nat → Int32 → Mem → Option (Int32 × Mem)
  | 0 => fun _ _ => none
  | n + 1 => Re_readsParts_2 (Re_readsParts_2L n)
set_option maxHeartbeats 4000000 in
set_option maxRecDepth 100000 in
theorem Re_readsParts_2L_ok {φ : Fr} {d : Nat} (F : Fx φ ΩA cX4_readsParts RX4 2 (some .boolean)) (hd : 104 ≤ d) : ∀ (n : Nat) (x1 : Int32) (μ : Mem) (r : Int32) (μ' : Mem), Re_readsParts_2L n x1 μ = some (r, μ') → V φ ΩA 2 d 2 [some (rf φ 9 0), some (.int x1)] [] μ (some (.int r), μ') := by
  intro n
  induction n with
  | zero => intro x1 μ r μ' h; cases h
  | succ n ih => intro x1 μ r μ' h; exact Re_readsParts_2_ok F hd ih h
def Re_readsParts (μ : Mem) : Option (Int32 × Mem) :=
  Re_readsParts_2L 1000 0 μ
set_option maxHeartbeats 4000000 in
set_option maxRecDepth 100000 in
theorem Re_readsParts_ok {φ : Fr} {d : Nat} (F : Fx φ ΩA cX4_readsParts RX4 2 (some .boolean)) (hd : 104 ≤ d) {μ : Mem} {r : Int32} {μ' : Mem} (h : Re_readsParts μ = some (r, μ')) : V φ ΩA 2 d 0 [some (rf φ 9 0), none] [] μ (some (.int r), μ') := by
  unfold Re_readsParts at h
  refine V.iconst (v := 0) F dX4_readsParts_0 (by decide) ?_
  refine V.istore_n (L' := [some (rf φ 9 0), some (.int 0)]) F dX4_readsParts_1 rfl (by decide) rfl rfl rfl ?_
  exact Re_readsParts_2L_ok F hd 1000 _ _ _ _ h
set_option maxHeartbeats 4000000 in
set_option maxRecDepth 100000 in
theorem Re_readsParts_ct {l : Launch} {G : Glo} {μ : Mem} {r : Int32} {μ' : Mem} (h : Re_readsParts μ = some (r, μ')) : Ct l ΩA G 104 yX4_readsParts cX4_readsParts 2 (some .boolean) [.ref (G.1 9 0)] μ (some (.int r), μ') := by
  refine Ct.intro (by decide) (Nat.le_of_ble_eq_true rfl) ?_
  intro φ hl hG F
  subst hl; subst hG
  exact Re_readsParts_ok F (Nat.le_refl _) h
def Ta_isDigit (x1 : Int32) (μ : Mem) : Option Int32 :=
  chk (inb x1 160) <|
  if (rd μ 11 0 (ix x1)) < 48 then (
    some 0)
  else (
    chk (inb x1 160) <|
    if 57 < (rd μ 11 0 (ix x1)) then (
      some 0)
    else (
      some 1))
set_option maxHeartbeats 4000000 in
set_option maxRecDepth 100000 in
theorem Ta_isDigit_ok {φ : Fr} {d : Nat} (F : Fx φ ΩA cX6_isDigit RX6 2 (some .boolean)) (hd : 1 ≤ d) {x1 : Int32} {μ : Mem} {r : Int32} (h : Ta_isDigit x1 μ = some r) : V φ ΩA 2 d 0 [some (rf φ 10 0), some (.int x1)] [] μ (some (.int r), μ) := by
  unfold Ta_isDigit at h
  refine V.rload_n F dX6_isDigit_0 rfl rfl ?_
  refine gf_RX6_9 F dX6_isDigit_1 ?_
  refine V.iload_n F dX6_isDigit_4 rfl rfl ?_
  obtain ⟨c1, h⟩ := chk_out h
  refine V.iald (t0 := 0) (n := 160) F mA11 rfl rfl c1 dX6_isDigit_5 ?_
  refine V.bipush (v := 48) F dX6_isDigit_6 (by decide) ?_
  refine V.icmp_lt (tgt := 26) F dX6_isDigit_8 (by decide) (fun c2 => ?_) (fun c2 => ?_)
  · have h := t_out h c2
    refine V.iconst (v := 0) F dX6_isDigit_26 (by decide) ?_
    obtain rfl := r1_out h
    exact V.zret F (by decide) dX6_isDigit_27
  · have h := f_out h c2
    refine V.rload_n F dX6_isDigit_11 rfl rfl ?_
    refine gf_RX6_9 F dX6_isDigit_12 ?_
    refine V.iload_n F dX6_isDigit_15 rfl rfl ?_
    obtain ⟨c3, h⟩ := chk_out h
    refine V.iald (t0 := 0) (n := 160) F mA11 rfl rfl c3 dX6_isDigit_16 ?_
    refine V.bipush (v := 57) F dX6_isDigit_17 (by decide) ?_
    refine V.icmp_gt (tgt := 26) F dX6_isDigit_19 (by decide) (fun c4 => ?_) (fun c4 => ?_)
    · have h := t_out h c4
      refine V.iconst (v := 0) F dX6_isDigit_26 (by decide) ?_
      obtain rfl := r1_out h
      exact V.zret F (by decide) dX6_isDigit_27
    · have h := f_out h c4
      refine V.iconst (v := 1) F dX6_isDigit_22 (by decide) ?_
      refine V.goto (tgt := 27) F dX6_isDigit_23 (by decide) ?_
      obtain rfl := r1_out h
      exact V.zret F (by decide) dX6_isDigit_27
set_option maxHeartbeats 4000000 in
set_option maxRecDepth 100000 in
theorem Ta_isDigit_ct {l : Launch} {G : Glo} {x1 : Int32} {μ : Mem} {r : Int32} (h : Ta_isDigit x1 μ = some r) : Ct l ΩA G 1 yX6_isDigit cX6_isDigit 2 (some .boolean) [.ref (G.1 10 0), .int x1] μ (some (.int r), μ) := by
  refine Ct.intro (by decide) (Nat.le_of_ble_eq_true rfl) ?_
  intro φ hl hG F
  subst hl; subst hG
  exact Ta_isDigit_ok F (Nat.le_refl _) h
def Ta_cutNumber_68 (x2 : Int32) (μ : Mem) : Option (Int32 × Mem) :=
  if 4 < ((rd μ 10 0 5) - x2) then (
    some (14, μ))
  else (
    some (12, μ))
set_option maxHeartbeats 4000000 in
set_option maxRecDepth 100000 in
theorem Ta_cutNumber_68_ok {φ : Fr} {d : Nat} (F : Fx φ ΩA cX6_cutNumber RX6 3 (some .int)) (hd : 2 ≤ d) {x2 : Int32} {μ : Mem} {r : Int32} {μ' : Mem} (h : Ta_cutNumber_68 x2 μ = some (r, μ')) : V φ ΩA 3 d 68 [some (rf φ 10 0), none, some (.int x2)] [] μ (some (.int r), μ') := by
  unfold Ta_cutNumber_68 at h
  refine V.rload_n F dX6_cutNumber_68 rfl rfl ?_
  refine gf_RX6_28 F dX6_cutNumber_69 ?_
  refine V.iload_n F dX6_cutNumber_72 rfl rfl ?_
  refine V.isub F dX6_cutNumber_73 ?_
  refine V.iconst (v := 4) F dX6_cutNumber_74 (by decide) ?_
  refine V.icmp_gt (tgt := 83) F dX6_cutNumber_75 (by decide) (fun c1 => ?_) (fun c1 => ?_)
  · have h := t_out h c1
    refine V.bipush (v := 14) F dX6_cutNumber_83 (by decide) ?_
    obtain ⟨rfl, rfl⟩ := r2_out h
    exact V.iret F dX6_cutNumber_85
  · have h := f_out h c1
    refine V.bipush (v := 12) F dX6_cutNumber_78 (by decide) ?_
    refine V.goto (tgt := 85) F dX6_cutNumber_80 (by decide) ?_
    obtain ⟨rfl, rfl⟩ := r2_out h
    exact V.iret F dX6_cutNumber_85
def Ta_cutNumber_5 (k5 : Int32 → Int32 → Mem → Option (Int32 × Mem)) (x1 : Int32) (x2 : Int32) (μ : Mem) : Option (Int32 × Mem) :=
  if (rd μ 10 0 5) < (rd μ 10 0 1) then (
    bnd (Ta_isDigit (rd μ 10 0 5) μ) fun r3 =>
    if r3 = 0 then (
      Ta_cutNumber_68 x2 μ)
    else (
      chk (inb x1 161) <|
      chk (inb (rd μ 10 0 5) 160) <|
      chk (inb x1 161) <|
      nm (up μ 14 0 (ix x1) (((10 * (rd μ 14 0 (ix x1))) + (rd μ 11 0 (ix (rd μ 10 0 5)))) - 48)) fun μ8 =>
      nm (up μ8 10 0 5 ((rd μ8 10 0 5) + 1)) fun μ9 =>
      k5 x1 x2 μ9))
  else (
    Ta_cutNumber_68 x2 μ)
set_option maxHeartbeats 4000000 in
set_option maxRecDepth 100000 in
theorem Ta_cutNumber_5_ok {φ : Fr} {d : Nat} (F : Fx φ ΩA cX6_cutNumber RX6 3 (some .int)) (hd : 2 ≤ d) {k5 : Int32 → Int32 → Mem → Option (Int32 × Mem)} (hk5 : ∀ (x1 : Int32) (x2 : Int32) (μ : Mem) (r : Int32) (μ' : Mem), k5 x1 x2 μ = some (r, μ') → V φ ΩA 3 d 5 [some (rf φ 10 0), some (.int x1), some (.int x2)] [] μ (some (.int r), μ')) {x1 : Int32} {x2 : Int32} {μ : Mem} {r : Int32} {μ' : Mem} (h : Ta_cutNumber_5 k5 x1 x2 μ = some (r, μ')) : V φ ΩA 3 d 5 [some (rf φ 10 0), some (.int x1), some (.int x2)] [] μ (some (.int r), μ') := by
  unfold Ta_cutNumber_5 at h
  refine V.rload_n F dX6_cutNumber_5 rfl rfl ?_
  refine gf_RX6_28 F dX6_cutNumber_6 ?_
  refine V.rload_n F dX6_cutNumber_9 rfl rfl ?_
  refine gf_RX6_15 F dX6_cutNumber_10 ?_
  refine V.icmp_ge (tgt := 68) F dX6_cutNumber_13 (by decide) (fun c1 => ?_) (fun c1 => ?_)
  · have h := f_out h c1
    refine V.msk (L' := [some (rf φ 10 0), none, some (.int x2)]) [true, false, true] rfl ?_
    exact Ta_cutNumber_68_ok F hd h
  · have h := t_out h c1
    refine V.rload_n F dX6_cutNumber_16 rfl rfl ?_
    refine V.rload_n F dX6_cutNumber_17 rfl rfl ?_
    refine gf_RX6_28 F dX6_cutNumber_18 ?_
    obtain ⟨r3, e2, h⟩ := bnd_out h
    refine V.callVi (f := 10) (i := 0) (As := [.int (rd μ 10 0 5)]) F ck_RX6_61 (Ta_isDigit_ct e2) (by omega) (by decide) rfl mA10 rfl rfl rfl (Nat.le_of_ble_eq_true rfl) dX6_cutNumber_21 ?_
    refine V.if_eq (tgt := 68) F dX6_cutNumber_24 (by decide) (fun c4 => ?_) (fun c4 => ?_)
    · have h := t_out h c4
      refine V.msk (L' := [some (rf φ 10 0), none, some (.int x2)]) [true, false, true] rfl ?_
      exact Ta_cutNumber_68_ok F hd h
    · have h := f_out h c4
      refine V.rload_n F dX6_cutNumber_27 rfl rfl ?_
      refine gf_RX6_25 F dX6_cutNumber_28 ?_
      refine V.iload_n F dX6_cutNumber_31 rfl rfl ?_
      refine V.bipush (v := 10) F dX6_cutNumber_32 (by decide) ?_
      refine V.rload_n F dX6_cutNumber_34 rfl rfl ?_
      refine gf_RX6_25 F dX6_cutNumber_35 ?_
      refine V.iload_n F dX6_cutNumber_38 rfl rfl ?_
      obtain ⟨c5, h⟩ := chk_out h
      refine V.iald (t0 := 0) (n := 161) F mA14 rfl rfl c5 dX6_cutNumber_39 ?_
      refine V.imul F dX6_cutNumber_40 ?_
      refine V.rload_n F dX6_cutNumber_41 rfl rfl ?_
      refine gf_RX6_9 F dX6_cutNumber_42 ?_
      refine V.rload_n F dX6_cutNumber_45 rfl rfl ?_
      refine gf_RX6_28 F dX6_cutNumber_46 ?_
      obtain ⟨c6, h⟩ := chk_out h
      refine V.iald (t0 := 0) (n := 160) F mA11 rfl rfl c6 dX6_cutNumber_49 ?_
      refine V.iadd F dX6_cutNumber_50 ?_
      refine V.bipush (v := 48) F dX6_cutNumber_51 (by decide) ?_
      refine V.isub F dX6_cutNumber_53 ?_
      obtain ⟨c7, h⟩ := chk_out h
      obtain ⟨μ8, eμ8, h⟩ := nm_out h
      refine V.iast (t0 := 0) (n := 161) F mA14 (fun _ => rfl) rfl c7 eμ8 dX6_cutNumber_54 ?_
      refine V.rload_n F dX6_cutNumber_55 rfl rfl ?_
      refine V.dup F dX6_cutNumber_56 rfl ?_
      refine gf_RX6_28 F dX6_cutNumber_57 ?_
      refine V.iconst (v := 1) F dX6_cutNumber_60 (by decide) ?_
      refine V.iadd F dX6_cutNumber_61 ?_
      obtain ⟨μ9, eμ9, h⟩ := nm_out h
      refine pf_RX6_28 F eμ9 dX6_cutNumber_62 ?_
      refine V.goto (tgt := 5) F dX6_cutNumber_65 (by decide) ?_
      exact hk5 _ _ _ _ _ h
def Ta_cutNumber_5L : Nat → Int32 → Int32 → Mem → Option (Int32 × Mem)
  | 0 => fun _ _ _ => none
  | n + 1 => Ta_cutNumber_5 (Ta_cutNumber_5L n)
set_option maxHeartbeats 4000000 in
set_option maxRecDepth 100000 in
theorem Ta_cutNumber_5L_ok {φ : Fr} {d : Nat} (F : Fx φ ΩA cX6_cutNumber RX6 3 (some .int)) (hd : 2 ≤ d) : ∀ (n : Nat) (x1 : Int32) (x2 : Int32) (μ : Mem) (r : Int32) (μ' : Mem), Ta_cutNumber_5L n x1 x2 μ = some (r, μ') → V φ ΩA 3 d 5 [some (rf φ 10 0), some (.int x1), some (.int x2)] [] μ (some (.int r), μ') := by
  intro n
  induction n with
  | zero => intro x1 x2 μ r μ' h; cases h
  | succ n ih => intro x1 x2 μ r μ' h; exact Ta_cutNumber_5_ok F hd ih h
def Ta_cutNumber (x1 : Int32) (μ : Mem) : Option (Int32 × Mem) :=
  nm (rd μ 10 0 5) fun a1 =>
  Ta_cutNumber_5L 1000 x1 a1 μ
set_option maxHeartbeats 4000000 in
set_option maxRecDepth 100000 in
theorem Ta_cutNumber_ok {φ : Fr} {d : Nat} (F : Fx φ ΩA cX6_cutNumber RX6 3 (some .int)) (hd : 2 ≤ d) {x1 : Int32} {μ : Mem} {r : Int32} {μ' : Mem} (h : Ta_cutNumber x1 μ = some (r, μ')) : V φ ΩA 3 d 0 [some (rf φ 10 0), some (.int x1), none] [] μ (some (.int r), μ') := by
  unfold Ta_cutNumber at h
  refine V.rload_n F dX6_cutNumber_0 rfl rfl ?_
  refine gf_RX6_28 F dX6_cutNumber_1 ?_
  obtain ⟨a1, ea1, h⟩ := nm_out h
  refine V.istore_n (L' := [some (rf φ 10 0), some (.int x1), some (.int a1)]) F dX6_cutNumber_4 rfl (by decide) rfl ea1 rfl ?_
  exact Ta_cutNumber_5L_ok F hd 1000 _ _ _ _ _ h
set_option maxHeartbeats 4000000 in
set_option maxRecDepth 100000 in
theorem Ta_cutNumber_ct {l : Launch} {G : Glo} {x1 : Int32} {μ : Mem} {r : Int32} {μ' : Mem} (h : Ta_cutNumber x1 μ = some (r, μ')) : Ct l ΩA G 2 yX6_cutNumber cX6_cutNumber 3 (some .int) [.ref (G.1 10 0), .int x1] μ (some (.int r), μ') := by
  refine Ct.intro (by decide) (Nat.le_of_ble_eq_true rfl) ?_
  intro φ hl hG F
  subst hl; subst hG
  exact Ta_cutNumber_ok F (Nat.le_refl _) h
def Ta_isLetter (x1 : Int32) (μ : Mem) : Option Int32 :=
  chk (inb x1 160) <|
  if (rd μ 11 0 (ix x1)) < 97 then (
    some 0)
  else (
    chk (inb x1 160) <|
    if 122 < (rd μ 11 0 (ix x1)) then (
      some 0)
    else (
      some 1))
set_option maxHeartbeats 4000000 in
set_option maxRecDepth 100000 in
theorem Ta_isLetter_ok {φ : Fr} {d : Nat} (F : Fx φ ΩA cX6_isLetter RX6 2 (some .boolean)) (hd : 1 ≤ d) {x1 : Int32} {μ : Mem} {r : Int32} (h : Ta_isLetter x1 μ = some r) : V φ ΩA 2 d 0 [some (rf φ 10 0), some (.int x1)] [] μ (some (.int r), μ) := by
  unfold Ta_isLetter at h
  refine V.rload_n F dX6_isLetter_0 rfl rfl ?_
  refine gf_RX6_9 F dX6_isLetter_1 ?_
  refine V.iload_n F dX6_isLetter_4 rfl rfl ?_
  obtain ⟨c1, h⟩ := chk_out h
  refine V.iald (t0 := 0) (n := 160) F mA11 rfl rfl c1 dX6_isLetter_5 ?_
  refine V.bipush (v := 97) F dX6_isLetter_6 (by decide) ?_
  refine V.icmp_lt (tgt := 26) F dX6_isLetter_8 (by decide) (fun c2 => ?_) (fun c2 => ?_)
  · have h := t_out h c2
    refine V.iconst (v := 0) F dX6_isLetter_26 (by decide) ?_
    obtain rfl := r1_out h
    exact V.zret F (by decide) dX6_isLetter_27
  · have h := f_out h c2
    refine V.rload_n F dX6_isLetter_11 rfl rfl ?_
    refine gf_RX6_9 F dX6_isLetter_12 ?_
    refine V.iload_n F dX6_isLetter_15 rfl rfl ?_
    obtain ⟨c3, h⟩ := chk_out h
    refine V.iald (t0 := 0) (n := 160) F mA11 rfl rfl c3 dX6_isLetter_16 ?_
    refine V.bipush (v := 122) F dX6_isLetter_17 (by decide) ?_
    refine V.icmp_gt (tgt := 26) F dX6_isLetter_19 (by decide) (fun c4 => ?_) (fun c4 => ?_)
    · have h := t_out h c4
      refine V.iconst (v := 0) F dX6_isLetter_26 (by decide) ?_
      obtain rfl := r1_out h
      exact V.zret F (by decide) dX6_isLetter_27
    · have h := f_out h c4
      refine V.iconst (v := 1) F dX6_isLetter_22 (by decide) ?_
      refine V.goto (tgt := 27) F dX6_isLetter_23 (by decide) ?_
      obtain rfl := r1_out h
      exact V.zret F (by decide) dX6_isLetter_27
set_option maxHeartbeats 4000000 in
set_option maxRecDepth 100000 in
theorem Ta_isLetter_ct {l : Launch} {G : Glo} {x1 : Int32} {μ : Mem} {r : Int32} (h : Ta_isLetter x1 μ = some r) : Ct l ΩA G 1 yX6_isLetter cX6_isLetter 2 (some .boolean) [.ref (G.1 10 0), .int x1] μ (some (.int r), μ) := by
  refine Ct.intro (by decide) (Nat.le_of_ble_eq_true rfl) ?_
  intro φ hl hG F
  subst hl; subst hG
  exact Ta_isLetter_ok F (Nat.le_refl _) h
def Ta_isSpelled_17 (k17 : Int32 → Nat → Int32 → Mem → Option Int32) (x1 : Int32) (s2 : Nat) (x3 : Int32) (μ : Mem) : Option Int32 :=
  if x3 < (slen s2) then (
    chk (inb x3 (lenJS.getD s2 0)) <|
    chk (inb (x1 + x3) 160) <|
    if (schr s2 (ix x3)) = (rd μ 11 0 (ix (x1 + x3))) then (
      nm (x3 + 1) fun a5 =>
      k17 x1 s2 a5 μ)
    else (
      some 0))
  else (
    some 1)
set_option maxHeartbeats 4000000 in
set_option maxRecDepth 100000 in
theorem Ta_isSpelled_17_ok {φ : Fr} {d : Nat} (F : Fx φ ΩA cX6_isSpelled RX6 4 (some .boolean)) (hd : 6 ≤ d) {k17 : Int32 → Nat → Int32 → Mem → Option Int32} (hk17 : ∀ (x1 : Int32) (s2 : Nat) (x3 : Int32) (hs2 : s2 < 13) (μ : Mem) (r : Int32), k17 x1 s2 x3 μ = some r → V φ ΩA 4 d 17 [some (rf φ 10 0), some (.int x1), some (.ref ((gl φ).2.2.2.1 s2)), some (.int x3)] [] μ (some (.int r), μ)) {x1 : Int32} {s2 : Nat} {x3 : Int32} (hs2 : s2 < 13) {μ : Mem} {r : Int32} (h : Ta_isSpelled_17 k17 x1 s2 x3 μ = some r) : V φ ΩA 4 d 17 [some (rf φ 10 0), some (.int x1), some (.ref ((gl φ).2.2.2.1 s2)), some (.int x3)] [] μ (some (.int r), μ) := by
  unfold Ta_isSpelled_17 at h
  refine V.iload_n F dX6_isSpelled_17 rfl rfl ?_
  refine V.aload_n F dX6_isSpelled_18 rfl rfl ?_
  refine V.slenR F ck_RX6_31 hs2 (by omega) (Nat.le_of_ble_eq_true rfl) dX6_isSpelled_19 ?_
  refine V.icmp_ge (tgt := 49) F dX6_isSpelled_22 (by decide) (fun c1 => ?_) (fun c1 => ?_)
  · have h := f_out h c1
    refine V.iconst (v := 1) F dX6_isSpelled_49 (by decide) ?_
    obtain rfl := r1_out h
    exact V.zret F (by decide) dX6_isSpelled_50
  · have h := t_out h c1
    refine V.aload_n F dX6_isSpelled_25 rfl rfl ?_
    refine V.iload_n F dX6_isSpelled_26 rfl rfl ?_
    obtain ⟨c2, h⟩ := chk_out h
    refine V.schrR F ck_RX6_43 hs2 c2 (by omega) (Nat.le_of_ble_eq_true rfl) dX6_isSpelled_27 ?_
    refine V.rload_n F dX6_isSpelled_30 rfl rfl ?_
    refine gf_RX6_9 F dX6_isSpelled_31 ?_
    refine V.iload_n F dX6_isSpelled_34 rfl rfl ?_
    refine V.iload_n F dX6_isSpelled_35 rfl rfl ?_
    refine V.iadd F dX6_isSpelled_36 ?_
    obtain ⟨c3, h⟩ := chk_out h
    refine V.iald (t0 := 0) (n := 160) F mA11 rfl rfl c3 dX6_isSpelled_37 ?_
    refine V.icmp_eq (tgt := 43) F dX6_isSpelled_38 (by decide) (fun c4 => ?_) (fun c4 => ?_)
    · have h := t_out h c4
      obtain ⟨a5, ea5, h⟩ := nm_out h
      refine V.iinc (z := 1) (L' := [some (rf φ 10 0), some (.int x1), some (.ref ((gl φ).2.2.2.1 s2)), some (.int a5)]) F dX6_isSpelled_43 rfl (by decide) ea5 (by decide) rfl rfl ?_
      refine V.goto (tgt := 17) F dX6_isSpelled_46 (by decide) ?_
      exact hk17 _ _ _ hs2 _ _ h
    · have h := f_out h c4
      refine V.iconst (v := 0) F dX6_isSpelled_41 (by decide) ?_
      obtain rfl := r1_out h
      exact V.zret F (by decide) dX6_isSpelled_42
def Ta_isSpelled_17L : Nat → Int32 → Nat → Int32 → Mem → Option Int32
  | 0 => fun _ _ _ _ => none
  | n + 1 => Ta_isSpelled_17 (Ta_isSpelled_17L n)
set_option maxHeartbeats 4000000 in
set_option maxRecDepth 100000 in
theorem Ta_isSpelled_17L_ok {φ : Fr} {d : Nat} (F : Fx φ ΩA cX6_isSpelled RX6 4 (some .boolean)) (hd : 6 ≤ d) : ∀ (n : Nat) (x1 : Int32) (s2 : Nat) (x3 : Int32) (hs2 : s2 < 13) (μ : Mem) (r : Int32), Ta_isSpelled_17L n x1 s2 x3 μ = some r → V φ ΩA 4 d 17 [some (rf φ 10 0), some (.int x1), some (.ref ((gl φ).2.2.2.1 s2)), some (.int x3)] [] μ (some (.int r), μ) := by
  intro n
  induction n with
  | zero => intro x1 s2 x3 hs2 μ r h; cases h
  | succ n ih => intro x1 s2 x3 hs2 μ r h; exact Ta_isSpelled_17_ok F hd ih hs2 h
def Ta_isSpelled (x1 : Int32) (s2 : Nat) (μ : Mem) : Option Int32 :=
  if (slen s2) = ((rd μ 10 0 5) - x1) then (
    Ta_isSpelled_17L 1000 x1 s2 0 μ)
  else (
    some 0)
set_option maxHeartbeats 4000000 in
set_option maxRecDepth 100000 in
theorem Ta_isSpelled_ok {φ : Fr} {d : Nat} (F : Fx φ ΩA cX6_isSpelled RX6 4 (some .boolean)) (hd : 6 ≤ d) {x1 : Int32} {s2 : Nat} (hs2 : s2 < 13) {μ : Mem} {r : Int32} (h : Ta_isSpelled x1 s2 μ = some r) : V φ ΩA 4 d 0 [some (rf φ 10 0), some (.int x1), some (.ref ((gl φ).2.2.2.1 s2)), none] [] μ (some (.int r), μ) := by
  unfold Ta_isSpelled at h
  refine V.aload_n F dX6_isSpelled_0 rfl rfl ?_
  refine V.slenR F ck_RX6_31 hs2 (by omega) (Nat.le_of_ble_eq_true rfl) dX6_isSpelled_1 ?_
  refine V.rload_n F dX6_isSpelled_4 rfl rfl ?_
  refine gf_RX6_28 F dX6_isSpelled_5 ?_
  refine V.iload_n F dX6_isSpelled_8 rfl rfl ?_
  refine V.isub F dX6_isSpelled_9 ?_
  refine V.icmp_eq (tgt := 15) F dX6_isSpelled_10 (by decide) (fun c1 => ?_) (fun c1 => ?_)
  · have h := t_out h c1
    refine V.iconst (v := 0) F dX6_isSpelled_15 (by decide) ?_
    refine V.istore_n (L' := [some (rf φ 10 0), some (.int x1), some (.ref ((gl φ).2.2.2.1 s2)), some (.int 0)]) F dX6_isSpelled_16 rfl (by decide) rfl rfl rfl ?_
    exact Ta_isSpelled_17L_ok F hd 1000 _ _ _ hs2 _ _ h
  · have h := f_out h c1
    refine V.iconst (v := 0) F dX6_isSpelled_13 (by decide) ?_
    obtain rfl := r1_out h
    exact V.zret F (by decide) dX6_isSpelled_14
set_option maxHeartbeats 4000000 in
set_option maxRecDepth 100000 in
theorem Ta_isSpelled_ct {l : Launch} {G : Glo} {x1 : Int32} {s2 : Nat} (hs2 : s2 < 13) {μ : Mem} {r : Int32} (h : Ta_isSpelled x1 s2 μ = some r) : Ct l ΩA G 6 yX6_isSpelled cX6_isSpelled 4 (some .boolean) [.ref (G.1 10 0), .int x1, .ref (G.2.2.2.1 s2)] μ (some (.int r), μ) := by
  refine Ct.intro (by decide) (Nat.le_of_ble_eq_true rfl) ?_
  intro φ hl hG F
  subst hl; subst hG
  exact Ta_isSpelled_ok F (Nat.le_refl _) hs2 h
def Ta_spelling (x0 : Int32) : Nat :=
  if x0 = 0 then (
    1)
  else (
  if x0 = 1 then (
    2)
  else (
  if x0 = 2 then (
    3)
  else (
  if x0 = 3 then (
    4)
  else (
  if x0 = 4 then (
    5)
  else (
  if x0 = 5 then (
    6)
  else (
  if x0 = 6 then (
    7)
  else (
  if x0 = 7 then (
    8)
  else (
  if x0 = 8 then (
    9)
  else (
  if x0 = 9 then (
    10)
  else (
  if x0 = 10 then (
    11)
  else (
    12)))))))))))
set_option maxHeartbeats 4000000 in
set_option maxRecDepth 100000 in
theorem Ta_spelling_ok {φ : Fr} {d : Nat} (F : Fx φ ΩA cX6_spelling RX6 1 (some (.object "java/lang/String"))) (hd : 1 ≤ d) {x0 : Int32} {μ : Mem} {r : Nat} (h : Ta_spelling x0 = r) : V φ ΩA 1 d 0 [some (.int x0)] [] μ (some (.ref ((gl φ).2.2.2.1 r)), μ) := by
  unfold Ta_spelling at h
  refine V.iload_n F dX6_spelling_0 rfl rfl ?_
  by_cases c1 : x0 = 0
  · have h := t_out h c1
    refine V.tabK (tgt := 60) (v := 0) F dX6_spelling_1 (by rw [c1]; decide) (by decide) (by decide) rfl (by decide) ?_
    refine V.ldcS (i := 1) F (by decide) rfl rfl dX6_spelling_60 ?_
    obtain rfl := h
    exact V.aret F (Or.inl ⟨_, rfl⟩) dX6_spelling_62
  have h := f_out h c1
  by_cases c2 : x0 = 1
  · have h := t_out h c2
    refine V.tabK (tgt := 63) (v := 1) F dX6_spelling_1 (by rw [c2]; decide) (by decide) (by decide) rfl (by decide) ?_
    refine V.ldcS (i := 2) F (by decide) rfl rfl dX6_spelling_63 ?_
    obtain rfl := h
    exact V.aret F (Or.inl ⟨_, rfl⟩) dX6_spelling_65
  have h := f_out h c2
  by_cases c3 : x0 = 2
  · have h := t_out h c3
    refine V.tabK (tgt := 66) (v := 2) F dX6_spelling_1 (by rw [c3]; decide) (by decide) (by decide) rfl (by decide) ?_
    refine V.ldcS (i := 3) F (by decide) rfl rfl dX6_spelling_66 ?_
    obtain rfl := h
    exact V.aret F (Or.inl ⟨_, rfl⟩) dX6_spelling_68
  have h := f_out h c3
  by_cases c4 : x0 = 3
  · have h := t_out h c4
    refine V.tabK (tgt := 69) (v := 3) F dX6_spelling_1 (by rw [c4]; decide) (by decide) (by decide) rfl (by decide) ?_
    refine V.ldcS (i := 4) F (by decide) rfl rfl dX6_spelling_69 ?_
    obtain rfl := h
    exact V.aret F (Or.inl ⟨_, rfl⟩) dX6_spelling_71
  have h := f_out h c4
  by_cases c5 : x0 = 4
  · have h := t_out h c5
    refine V.tabK (tgt := 72) (v := 4) F dX6_spelling_1 (by rw [c5]; decide) (by decide) (by decide) rfl (by decide) ?_
    refine V.ldcS (i := 5) F (by decide) rfl rfl dX6_spelling_72 ?_
    obtain rfl := h
    exact V.aret F (Or.inl ⟨_, rfl⟩) dX6_spelling_74
  have h := f_out h c5
  by_cases c6 : x0 = 5
  · have h := t_out h c6
    refine V.tabK (tgt := 75) (v := 5) F dX6_spelling_1 (by rw [c6]; decide) (by decide) (by decide) rfl (by decide) ?_
    refine V.ldcS (i := 6) F (by decide) rfl rfl dX6_spelling_75 ?_
    obtain rfl := h
    exact V.aret F (Or.inl ⟨_, rfl⟩) dX6_spelling_77
  have h := f_out h c6
  by_cases c7 : x0 = 6
  · have h := t_out h c7
    refine V.tabK (tgt := 78) (v := 6) F dX6_spelling_1 (by rw [c7]; decide) (by decide) (by decide) rfl (by decide) ?_
    refine V.ldcS (i := 7) F (by decide) rfl rfl dX6_spelling_78 ?_
    obtain rfl := h
    exact V.aret F (Or.inl ⟨_, rfl⟩) dX6_spelling_80
  have h := f_out h c7
  by_cases c8 : x0 = 7
  · have h := t_out h c8
    refine V.tabK (tgt := 81) (v := 7) F dX6_spelling_1 (by rw [c8]; decide) (by decide) (by decide) rfl (by decide) ?_
    refine V.ldcS (i := 8) F (by decide) rfl rfl dX6_spelling_81 ?_
    obtain rfl := h
    exact V.aret F (Or.inl ⟨_, rfl⟩) dX6_spelling_83
  have h := f_out h c8
  by_cases c9 : x0 = 8
  · have h := t_out h c9
    refine V.tabK (tgt := 84) (v := 8) F dX6_spelling_1 (by rw [c9]; decide) (by decide) (by decide) rfl (by decide) ?_
    refine V.ldcS (i := 9) F (by decide) rfl rfl dX6_spelling_84 ?_
    obtain rfl := h
    exact V.aret F (Or.inl ⟨_, rfl⟩) dX6_spelling_86
  have h := f_out h c9
  by_cases c10 : x0 = 9
  · have h := t_out h c10
    refine V.tabK (tgt := 87) (v := 9) F dX6_spelling_1 (by rw [c10]; decide) (by decide) (by decide) rfl (by decide) ?_
    refine V.ldcS (i := 10) F (by decide) rfl rfl dX6_spelling_87 ?_
    obtain rfl := h
    exact V.aret F (Or.inl ⟨_, rfl⟩) dX6_spelling_89
  have h := f_out h c10
  by_cases c11 : x0 = 10
  · have h := t_out h c11
    refine V.tabK (tgt := 90) (v := 10) F dX6_spelling_1 (by rw [c11]; decide) (by decide) (by decide) rfl (by decide) ?_
    refine V.ldcS (i := 11) F (by decide) rfl rfl dX6_spelling_90 ?_
    obtain rfl := h
    exact V.aret F (Or.inl ⟨_, rfl⟩) dX6_spelling_92
  have h := f_out h c11
  have K12 : V φ ΩA 1 d 93 [some (.int x0)] [] μ (some (.ref ((gl φ).2.2.2.1 r)), μ) := by
    refine V.ldcS (i := 12) F (by decide) rfl rfl dX6_spelling_93 ?_
    obtain rfl := h
    exact V.aret F (Or.inl ⟨_, rfl⟩) dX6_spelling_95
  exact V.tabOut (tgt := 93) F dX6_spelling_1 (by have := lv_neT c1 (a := 0) (by decide); have := lv_neT c2 (a := 1) (by decide); have := lv_neT c3 (a := 2) (by decide); have := lv_neT c4 (a := 3) (by decide); have := lv_neT c5 (a := 4) (by decide); have := lv_neT c6 (a := 5) (by decide); have := lv_neT c7 (a := 6) (by decide); have := lv_neT c8 (a := 7) (by decide); have := lv_neT c9 (a := 8) (by decide); have := lv_neT c10 (a := 9) (by decide); have := lv_neT c11 (a := 10) (by decide); omega) (by decide) K12
set_option maxHeartbeats 4000000 in
set_option maxRecDepth 100000 in
theorem Ta_spelling_ct {l : Launch} {G : Glo} {x0 : Int32} {μ : Mem} {r : Nat} (h : Ta_spelling x0 = r) : Ct l ΩA G 1 yX6_spelling cX6_spelling 1 (some (.object "java/lang/String")) [.int x0] μ (some (.ref (G.2.2.2.1 r)), μ) := by
  refine Ct.intro (by decide) (Nat.le_of_ble_eq_true rfl) ?_
  intro φ hl hG F
  subst hl; subst hG
  exact Ta_spelling_ok F (Nat.le_refl _) h
def Ta_cutWord_42 (k42 : Int32 → Int32 → Mem → Option (Int32 × Mem)) (x1 : Int32) (x2 : Int32) (μ : Mem) : Option (Int32 × Mem) :=
  if x2 < 12 then (
    nm (Ta_spelling x2) fun r3 =>
    chk (r3 < 13) <|
    bnd (Ta_isSpelled x1 r3 μ) fun r6 =>
    if r6 = 0 then (
      nm (x2 + 1) fun a8 =>
      k42 x1 a8 μ)
    else (
      some (x2, μ)))
  else (
    some (14, μ))
set_option maxHeartbeats 4000000 in
set_option maxRecDepth 100000 in
theorem Ta_cutWord_42_ok {φ : Fr} {d : Nat} (F : Fx φ ΩA cX6_cutWord RX6 3 (some .int)) (hd : 7 ≤ d) {k42 : Int32 → Int32 → Mem → Option (Int32 × Mem)} (hk42 : ∀ (x1 : Int32) (x2 : Int32) (μ : Mem) (r : Int32) (μ' : Mem), k42 x1 x2 μ = some (r, μ') → V φ ΩA 3 d 42 [some (rf φ 10 0), some (.int x1), some (.int x2)] [] μ (some (.int r), μ')) {x1 : Int32} {x2 : Int32} {μ : Mem} {r : Int32} {μ' : Mem} (h : Ta_cutWord_42 k42 x1 x2 μ = some (r, μ')) : V φ ΩA 3 d 42 [some (rf φ 10 0), some (.int x1), some (.int x2)] [] μ (some (.int r), μ') := by
  unfold Ta_cutWord_42 at h
  refine V.iload_n F dX6_cutWord_42 rfl rfl ?_
  refine V.bipush (v := 12) F dX6_cutWord_43 (by decide) ?_
  refine V.icmp_ge (tgt := 68) F dX6_cutWord_45 (by decide) (fun c1 => ?_) (fun c1 => ?_)
  · have h := f_out h c1
    refine V.bipush (v := 14) F dX6_cutWord_68 (by decide) ?_
    obtain ⟨rfl, rfl⟩ := r2_out h
    exact V.iret F dX6_cutWord_70
  · have h := t_out h c1
    refine V.rload_n F dX6_cutWord_48 rfl rfl ?_
    refine V.iload_n F dX6_cutWord_49 rfl rfl ?_
    refine V.iload_n F dX6_cutWord_50 rfl rfl ?_
    obtain ⟨r3, e2, h⟩ := nm_out h
    refine V.callSs (As := [.int x2]) F ck_RX6_70 (Ta_spelling_ct e2) (by omega) (by decide) rfl rfl (Nat.le_of_ble_eq_true rfl) dX6_cutWord_51 ?_
    obtain ⟨c4, h⟩ := chk_out h
    obtain ⟨r6, e5, h⟩ := bnd_out h
    refine V.callVi (f := 10) (i := 0) (As := [.int x1, .ref ((gl φ).2.2.2.1 r3)]) F ck_RX6_74 (Ta_isSpelled_ct c4 e5) (by omega) (by decide) rfl mA10 rfl rfl rfl (Nat.le_of_ble_eq_true rfl) dX6_cutWord_54 ?_
    refine V.if_eq (tgt := 62) F dX6_cutWord_57 (by decide) (fun c7 => ?_) (fun c7 => ?_)
    · have h := t_out h c7
      obtain ⟨a8, ea8, h⟩ := nm_out h
      refine V.iinc (z := 1) (L' := [some (rf φ 10 0), some (.int x1), some (.int a8)]) F dX6_cutWord_62 rfl (by decide) ea8 (by decide) rfl rfl ?_
      refine V.goto (tgt := 42) F dX6_cutWord_65 (by decide) ?_
      exact hk42 _ _ _ _ _ h
    · have h := f_out h c7
      refine V.iload_n F dX6_cutWord_60 rfl rfl ?_
      obtain ⟨rfl, rfl⟩ := r2_out h
      exact V.iret F dX6_cutWord_61
def Ta_cutWord_42L : Nat → Int32 → Int32 → Mem → Option (Int32 × Mem)
  | 0 => fun _ _ _ => none
  | n + 1 => Ta_cutWord_42 (Ta_cutWord_42L n)
set_option maxHeartbeats 4000000 in
set_option maxRecDepth 100000 in
theorem Ta_cutWord_42L_ok {φ : Fr} {d : Nat} (F : Fx φ ΩA cX6_cutWord RX6 3 (some .int)) (hd : 7 ≤ d) : ∀ (n : Nat) (x1 : Int32) (x2 : Int32) (μ : Mem) (r : Int32) (μ' : Mem), Ta_cutWord_42L n x1 x2 μ = some (r, μ') → V φ ΩA 3 d 42 [some (rf φ 10 0), some (.int x1), some (.int x2)] [] μ (some (.int r), μ') := by
  intro n
  induction n with
  | zero => intro x1 x2 μ r μ' h; cases h
  | succ n ih => intro x1 x2 μ r μ' h; exact Ta_cutWord_42_ok F hd ih h
def Ta_cutWord_40 (x1 : Int32) (μ : Mem) : Option (Int32 × Mem) :=
  Ta_cutWord_42L 1000 x1 0 μ
set_option maxHeartbeats 4000000 in
set_option maxRecDepth 100000 in
theorem Ta_cutWord_40_ok {φ : Fr} {d : Nat} (F : Fx φ ΩA cX6_cutWord RX6 3 (some .int)) (hd : 7 ≤ d) {x1 : Int32} {μ : Mem} {r : Int32} {μ' : Mem} (h : Ta_cutWord_40 x1 μ = some (r, μ')) : V φ ΩA 3 d 40 [some (rf φ 10 0), some (.int x1), none] [] μ (some (.int r), μ') := by
  unfold Ta_cutWord_40 at h
  refine V.iconst (v := 0) F dX6_cutWord_40 (by decide) ?_
  refine V.istore_n (L' := [some (rf φ 10 0), some (.int x1), some (.int 0)]) F dX6_cutWord_41 rfl (by decide) rfl rfl rfl ?_
  exact Ta_cutWord_42L_ok F hd 1000 _ _ _ _ _ h
def Ta_cutWord_5 (k5 : Int32 → Mem → Option (Int32 × Mem)) (x1 : Int32) (μ : Mem) : Option (Int32 × Mem) :=
  if (rd μ 10 0 5) < (rd μ 10 0 1) then (
    bnd (Ta_isLetter (rd μ 10 0 5) μ) fun r3 =>
    if r3 = 0 then (
      Ta_cutWord_40 x1 μ)
    else (
      nm (up μ 10 0 5 ((rd μ 10 0 5) + 1)) fun μ5 =>
      k5 x1 μ5))
  else (
    Ta_cutWord_40 x1 μ)
set_option maxHeartbeats 4000000 in
set_option maxRecDepth 100000 in
theorem Ta_cutWord_5_ok {φ : Fr} {d : Nat} (F : Fx φ ΩA cX6_cutWord RX6 3 (some .int)) (hd : 7 ≤ d) {k5 : Int32 → Mem → Option (Int32 × Mem)} (hk5 : ∀ (x1 : Int32) (μ : Mem) (r : Int32) (μ' : Mem), k5 x1 μ = some (r, μ') → V φ ΩA 3 d 5 [some (rf φ 10 0), some (.int x1), none] [] μ (some (.int r), μ')) {x1 : Int32} {μ : Mem} {r : Int32} {μ' : Mem} (h : Ta_cutWord_5 k5 x1 μ = some (r, μ')) : V φ ΩA 3 d 5 [some (rf φ 10 0), some (.int x1), none] [] μ (some (.int r), μ') := by
  unfold Ta_cutWord_5 at h
  refine V.rload_n F dX6_cutWord_5 rfl rfl ?_
  refine gf_RX6_28 F dX6_cutWord_6 ?_
  refine V.rload_n F dX6_cutWord_9 rfl rfl ?_
  refine gf_RX6_15 F dX6_cutWord_10 ?_
  refine V.icmp_ge (tgt := 40) F dX6_cutWord_13 (by decide) (fun c1 => ?_) (fun c1 => ?_)
  · have h := f_out h c1
    exact Ta_cutWord_40_ok F hd h
  · have h := t_out h c1
    refine V.rload_n F dX6_cutWord_16 rfl rfl ?_
    refine V.rload_n F dX6_cutWord_17 rfl rfl ?_
    refine gf_RX6_28 F dX6_cutWord_18 ?_
    obtain ⟨r3, e2, h⟩ := bnd_out h
    refine V.callVi (f := 10) (i := 0) (As := [.int (rd μ 10 0 5)]) F ck_RX6_54 (Ta_isLetter_ct e2) (by omega) (by decide) rfl mA10 rfl rfl rfl (Nat.le_of_ble_eq_true rfl) dX6_cutWord_21 ?_
    refine V.if_eq (tgt := 40) F dX6_cutWord_24 (by decide) (fun c4 => ?_) (fun c4 => ?_)
    · have h := t_out h c4
      exact Ta_cutWord_40_ok F hd h
    · have h := f_out h c4
      refine V.rload_n F dX6_cutWord_27 rfl rfl ?_
      refine V.dup F dX6_cutWord_28 rfl ?_
      refine gf_RX6_28 F dX6_cutWord_29 ?_
      refine V.iconst (v := 1) F dX6_cutWord_32 (by decide) ?_
      refine V.iadd F dX6_cutWord_33 ?_
      obtain ⟨μ5, eμ5, h⟩ := nm_out h
      refine pf_RX6_28 F eμ5 dX6_cutWord_34 ?_
      refine V.goto (tgt := 5) F dX6_cutWord_37 (by decide) ?_
      exact hk5 _ _ _ _ h
def Ta_cutWord_5L : Nat → Int32 → Mem → Option (Int32 × Mem)
  | 0 => fun _ _ => none
  | n + 1 => Ta_cutWord_5 (Ta_cutWord_5L n)
set_option maxHeartbeats 4000000 in
set_option maxRecDepth 100000 in
theorem Ta_cutWord_5L_ok {φ : Fr} {d : Nat} (F : Fx φ ΩA cX6_cutWord RX6 3 (some .int)) (hd : 7 ≤ d) : ∀ (n : Nat) (x1 : Int32) (μ : Mem) (r : Int32) (μ' : Mem), Ta_cutWord_5L n x1 μ = some (r, μ') → V φ ΩA 3 d 5 [some (rf φ 10 0), some (.int x1), none] [] μ (some (.int r), μ') := by
  intro n
  induction n with
  | zero => intro x1 μ r μ' h; cases h
  | succ n ih => intro x1 μ r μ' h; exact Ta_cutWord_5_ok F hd ih h
def Ta_cutWord (μ : Mem) : Option (Int32 × Mem) :=
  nm (rd μ 10 0 5) fun a1 =>
  Ta_cutWord_5L 1000 a1 μ
set_option maxHeartbeats 4000000 in
set_option maxRecDepth 100000 in
theorem Ta_cutWord_ok {φ : Fr} {d : Nat} (F : Fx φ ΩA cX6_cutWord RX6 3 (some .int)) (hd : 7 ≤ d) {μ : Mem} {r : Int32} {μ' : Mem} (h : Ta_cutWord μ = some (r, μ')) : V φ ΩA 3 d 0 [some (rf φ 10 0), none, none] [] μ (some (.int r), μ') := by
  unfold Ta_cutWord at h
  refine V.rload_n F dX6_cutWord_0 rfl rfl ?_
  refine gf_RX6_28 F dX6_cutWord_1 ?_
  obtain ⟨a1, ea1, h⟩ := nm_out h
  refine V.istore_n (L' := [some (rf φ 10 0), some (.int a1), none]) F dX6_cutWord_4 rfl (by decide) rfl ea1 rfl ?_
  exact Ta_cutWord_5L_ok F hd 1000 _ _ _ _ h
set_option maxHeartbeats 4000000 in
set_option maxRecDepth 100000 in
theorem Ta_cutWord_ct {l : Launch} {G : Glo} {μ : Mem} {r : Int32} {μ' : Mem} (h : Ta_cutWord μ = some (r, μ')) : Ct l ΩA G 7 yX6_cutWord cX6_cutWord 3 (some .int) [.ref (G.1 10 0)] μ (some (.int r), μ') := by
  refine Ct.intro (by decide) (Nat.le_of_ble_eq_true rfl) ?_
  intro φ hl hG F
  subst hl; subst hG
  exact Ta_cutWord_ok F (Nat.le_refl _) h
def Ta_signAt_108 (x1 : Int32) (μ : Mem) : Option Int32 :=
  chk (inb x1 160) <|
  some (rd μ 11 0 (ix x1))
set_option maxHeartbeats 4000000 in
set_option maxRecDepth 100000 in
theorem Ta_signAt_108_ok {φ : Fr} {d : Nat} (F : Fx φ ΩA cX6_signAt RX6 2 (some .int)) (hd : 1 ≤ d) {x1 : Int32} {μ : Mem} {r : Int32} (h : Ta_signAt_108 x1 μ = some r) : V φ ΩA 2 d 108 [some (rf φ 10 0), some (.int x1)] [] μ (some (.int r), μ) := by
  unfold Ta_signAt_108 at h
  refine V.rload_n F dX6_signAt_108 rfl rfl ?_
  refine gf_RX6_9 F dX6_signAt_109 ?_
  refine V.iload_n F dX6_signAt_112 rfl rfl ?_
  obtain ⟨c1, h⟩ := chk_out h
  refine V.iald (t0 := 0) (n := 160) F mA11 rfl rfl c1 dX6_signAt_113 ?_
  obtain rfl := r1_out h
  exact V.iret F dX6_signAt_114
def Ta_signAt (x1 : Int32) (μ : Mem) : Option Int32 :=
  chk (inb x1 160) <|
  if (rd μ 11 0 (ix x1)) = 40 then (
    Ta_signAt_108 x1 μ)
  else (
  if (rd μ 11 0 (ix x1)) = 41 then (
    Ta_signAt_108 x1 μ)
  else (
  if (rd μ 11 0 (ix x1)) = 42 then (
    Ta_signAt_108 x1 μ)
  else (
  if (rd μ 11 0 (ix x1)) = 43 then (
    Ta_signAt_108 x1 μ)
  else (
  if (rd μ 11 0 (ix x1)) = 45 then (
    Ta_signAt_108 x1 μ)
  else (
  if (rd μ 11 0 (ix x1)) = 59 then (
    Ta_signAt_108 x1 μ)
  else (
  if (rd μ 11 0 (ix x1)) = 60 then (
    Ta_signAt_108 x1 μ)
  else (
  if (rd μ 11 0 (ix x1)) = 61 then (
    Ta_signAt_108 x1 μ)
  else (
    some 14))))))))
set_option maxHeartbeats 4000000 in
set_option maxRecDepth 100000 in
theorem Ta_signAt_ok {φ : Fr} {d : Nat} (F : Fx φ ΩA cX6_signAt RX6 2 (some .int)) (hd : 1 ≤ d) {x1 : Int32} {μ : Mem} {r : Int32} (h : Ta_signAt x1 μ = some r) : V φ ΩA 2 d 0 [some (rf φ 10 0), some (.int x1)] [] μ (some (.int r), μ) := by
  unfold Ta_signAt at h
  refine V.rload_n F dX6_signAt_0 rfl rfl ?_
  refine gf_RX6_9 F dX6_signAt_1 ?_
  refine V.iload_n F dX6_signAt_4 rfl rfl ?_
  obtain ⟨c1, h⟩ := chk_out h
  refine V.iald (t0 := 0) (n := 160) F mA11 rfl rfl c1 dX6_signAt_5 ?_
  by_cases c2 : (rd μ 11 0 (ix x1)) = 40
  · have h := t_out h c2
    refine V.tabK (tgt := 108) (v := 40) F dX6_signAt_6 (by rw [c2]; decide) (by decide) (by decide) rfl (by decide) ?_
    exact Ta_signAt_108_ok F hd h
  have h := f_out h c2
  by_cases c3 : (rd μ 11 0 (ix x1)) = 41
  · have h := t_out h c3
    refine V.tabK (tgt := 108) (v := 41) F dX6_signAt_6 (by rw [c3]; decide) (by decide) (by decide) rfl (by decide) ?_
    exact Ta_signAt_108_ok F hd h
  have h := f_out h c3
  by_cases c4 : (rd μ 11 0 (ix x1)) = 42
  · have h := t_out h c4
    refine V.tabK (tgt := 108) (v := 42) F dX6_signAt_6 (by rw [c4]; decide) (by decide) (by decide) rfl (by decide) ?_
    exact Ta_signAt_108_ok F hd h
  have h := f_out h c4
  by_cases c5 : (rd μ 11 0 (ix x1)) = 43
  · have h := t_out h c5
    refine V.tabK (tgt := 108) (v := 43) F dX6_signAt_6 (by rw [c5]; decide) (by decide) (by decide) rfl (by decide) ?_
    exact Ta_signAt_108_ok F hd h
  have h := f_out h c5
  by_cases c6 : (rd μ 11 0 (ix x1)) = 45
  · have h := t_out h c6
    refine V.tabK (tgt := 108) (v := 45) F dX6_signAt_6 (by rw [c6]; decide) (by decide) (by decide) rfl (by decide) ?_
    exact Ta_signAt_108_ok F hd h
  have h := f_out h c6
  by_cases c7 : (rd μ 11 0 (ix x1)) = 59
  · have h := t_out h c7
    refine V.tabK (tgt := 108) (v := 59) F dX6_signAt_6 (by rw [c7]; decide) (by decide) (by decide) rfl (by decide) ?_
    exact Ta_signAt_108_ok F hd h
  have h := f_out h c7
  by_cases c8 : (rd μ 11 0 (ix x1)) = 60
  · have h := t_out h c8
    refine V.tabK (tgt := 108) (v := 60) F dX6_signAt_6 (by rw [c8]; decide) (by decide) (by decide) rfl (by decide) ?_
    exact Ta_signAt_108_ok F hd h
  have h := f_out h c8
  by_cases c9 : (rd μ 11 0 (ix x1)) = 61
  · have h := t_out h c9
    refine V.tabK (tgt := 108) (v := 61) F dX6_signAt_6 (by rw [c9]; decide) (by decide) (by decide) rfl (by decide) ?_
    exact Ta_signAt_108_ok F hd h
  have h := f_out h c9
  have K10 : V φ ΩA 2 d 115 [some (rf φ 10 0), some (.int x1)] [] μ (some (.int r), μ) := by
    refine V.bipush (v := 14) F dX6_signAt_115 (by decide) ?_
    obtain rfl := r1_out h
    exact V.iret F dX6_signAt_117
  by_cases c11 : (rd μ 11 0 (ix x1)) = 44
  · exact V.tabK (tgt := 115) (v := 44) F dX6_signAt_6 (by rw [c11]; decide) (by decide) (by decide) rfl (by decide) K10
  by_cases c12 : (rd μ 11 0 (ix x1)) = 46
  · exact V.tabK (tgt := 115) (v := 46) F dX6_signAt_6 (by rw [c12]; decide) (by decide) (by decide) rfl (by decide) K10
  by_cases c13 : (rd μ 11 0 (ix x1)) = 47
  · exact V.tabK (tgt := 115) (v := 47) F dX6_signAt_6 (by rw [c13]; decide) (by decide) (by decide) rfl (by decide) K10
  by_cases c14 : (rd μ 11 0 (ix x1)) = 48
  · exact V.tabK (tgt := 115) (v := 48) F dX6_signAt_6 (by rw [c14]; decide) (by decide) (by decide) rfl (by decide) K10
  by_cases c15 : (rd μ 11 0 (ix x1)) = 49
  · exact V.tabK (tgt := 115) (v := 49) F dX6_signAt_6 (by rw [c15]; decide) (by decide) (by decide) rfl (by decide) K10
  by_cases c16 : (rd μ 11 0 (ix x1)) = 50
  · exact V.tabK (tgt := 115) (v := 50) F dX6_signAt_6 (by rw [c16]; decide) (by decide) (by decide) rfl (by decide) K10
  by_cases c17 : (rd μ 11 0 (ix x1)) = 51
  · exact V.tabK (tgt := 115) (v := 51) F dX6_signAt_6 (by rw [c17]; decide) (by decide) (by decide) rfl (by decide) K10
  by_cases c18 : (rd μ 11 0 (ix x1)) = 52
  · exact V.tabK (tgt := 115) (v := 52) F dX6_signAt_6 (by rw [c18]; decide) (by decide) (by decide) rfl (by decide) K10
  by_cases c19 : (rd μ 11 0 (ix x1)) = 53
  · exact V.tabK (tgt := 115) (v := 53) F dX6_signAt_6 (by rw [c19]; decide) (by decide) (by decide) rfl (by decide) K10
  by_cases c20 : (rd μ 11 0 (ix x1)) = 54
  · exact V.tabK (tgt := 115) (v := 54) F dX6_signAt_6 (by rw [c20]; decide) (by decide) (by decide) rfl (by decide) K10
  by_cases c21 : (rd μ 11 0 (ix x1)) = 55
  · exact V.tabK (tgt := 115) (v := 55) F dX6_signAt_6 (by rw [c21]; decide) (by decide) (by decide) rfl (by decide) K10
  by_cases c22 : (rd μ 11 0 (ix x1)) = 56
  · exact V.tabK (tgt := 115) (v := 56) F dX6_signAt_6 (by rw [c22]; decide) (by decide) (by decide) rfl (by decide) K10
  by_cases c23 : (rd μ 11 0 (ix x1)) = 57
  · exact V.tabK (tgt := 115) (v := 57) F dX6_signAt_6 (by rw [c23]; decide) (by decide) (by decide) rfl (by decide) K10
  by_cases c24 : (rd μ 11 0 (ix x1)) = 58
  · exact V.tabK (tgt := 115) (v := 58) F dX6_signAt_6 (by rw [c24]; decide) (by decide) (by decide) rfl (by decide) K10
  exact V.tabOut (tgt := 115) F dX6_signAt_6 (by have := lv_neT c2 (a := 40) (by decide); have := lv_neT c3 (a := 41) (by decide); have := lv_neT c4 (a := 42) (by decide); have := lv_neT c5 (a := 43) (by decide); have := lv_neT c6 (a := 45) (by decide); have := lv_neT c7 (a := 59) (by decide); have := lv_neT c8 (a := 60) (by decide); have := lv_neT c9 (a := 61) (by decide); have := lv_neT c11 (a := 44) (by decide); have := lv_neT c12 (a := 46) (by decide); have := lv_neT c13 (a := 47) (by decide); have := lv_neT c14 (a := 48) (by decide); have := lv_neT c15 (a := 49) (by decide); have := lv_neT c16 (a := 50) (by decide); have := lv_neT c17 (a := 51) (by decide); have := lv_neT c18 (a := 52) (by decide); have := lv_neT c19 (a := 53) (by decide); have := lv_neT c20 (a := 54) (by decide); have := lv_neT c21 (a := 55) (by decide); have := lv_neT c22 (a := 56) (by decide); have := lv_neT c23 (a := 57) (by decide); have := lv_neT c24 (a := 58) (by decide); omega) (by decide) K10
set_option maxHeartbeats 4000000 in
set_option maxRecDepth 100000 in
theorem Ta_signAt_ct {l : Launch} {G : Glo} {x1 : Int32} {μ : Mem} {r : Int32} (h : Ta_signAt x1 μ = some r) : Ct l ΩA G 1 yX6_signAt cX6_signAt 2 (some .int) [.ref (G.1 10 0), .int x1] μ (some (.int r), μ) := by
  refine Ct.intro (by decide) (Nat.le_of_ble_eq_true rfl) ?_
  intro φ hl hG F
  subst hl; subst hG
  exact Ta_signAt_ok F (Nat.le_refl _) h
def Ta_cutOne (x1 : Int32) (μ : Mem) : Option (Int32 × Mem) :=
  if (rd μ 10 0 5) < (rd μ 10 0 1) then (
    bnd (Ta_isLetter (rd μ 10 0 5) μ) fun r3 =>
    if r3 = 0 then (
      bnd (Ta_isDigit (rd μ 10 0 5) μ) fun r6 =>
      if r6 = 0 then (
        nm (up μ 10 0 5 ((rd μ 10 0 5) + 1)) fun μ8 =>
        bnd (Ta_signAt ((rd μ8 10 0 5) - 1) μ8) fun r10 =>
        some (r10, μ8))
      else (
        bnd2 (Ta_cutNumber x1 μ) fun r12 μ13 =>
        some (r12, μ13)))
    else (
      bnd2 (Ta_cutWord μ) fun r15 μ16 =>
      some (r15, μ16)))
  else (
    some (13, μ))
set_option maxHeartbeats 4000000 in
set_option maxRecDepth 100000 in
theorem Ta_cutOne_ok {φ : Fr} {d : Nat} (F : Fx φ ΩA cX6_cutOne RX6 2 (some .int)) (hd : 8 ≤ d) {x1 : Int32} {μ : Mem} {r : Int32} {μ' : Mem} (h : Ta_cutOne x1 μ = some (r, μ')) : V φ ΩA 2 d 0 [some (rf φ 10 0), some (.int x1)] [] μ (some (.int r), μ') := by
  unfold Ta_cutOne at h
  refine V.rload_n F dX6_cutOne_0 rfl rfl ?_
  refine gf_RX6_28 F dX6_cutOne_1 ?_
  refine V.rload_n F dX6_cutOne_4 rfl rfl ?_
  refine gf_RX6_15 F dX6_cutOne_5 ?_
  refine V.icmp_lt (tgt := 14) F dX6_cutOne_8 (by decide) (fun c1 => ?_) (fun c1 => ?_)
  · have h := t_out h c1
    refine V.rload_n F dX6_cutOne_14 rfl rfl ?_
    refine V.rload_n F dX6_cutOne_15 rfl rfl ?_
    refine gf_RX6_28 F dX6_cutOne_16 ?_
    obtain ⟨r3, e2, h⟩ := bnd_out h
    refine V.callVi (f := 10) (i := 0) (As := [.int (rd μ 10 0 5)]) F ck_RX6_54 (Ta_isLetter_ct e2) (by omega) (by decide) rfl mA10 rfl rfl rfl (Nat.le_of_ble_eq_true rfl) dX6_cutOne_19 ?_
    refine V.if_eq (tgt := 30) F dX6_cutOne_22 (by decide) (fun c4 => ?_) (fun c4 => ?_)
    · have h := t_out h c4
      refine V.rload_n F dX6_cutOne_30 rfl rfl ?_
      refine V.rload_n F dX6_cutOne_31 rfl rfl ?_
      refine gf_RX6_28 F dX6_cutOne_32 ?_
      obtain ⟨r6, e5, h⟩ := bnd_out h
      refine V.callVi (f := 10) (i := 0) (As := [.int (rd μ 10 0 5)]) F ck_RX6_61 (Ta_isDigit_ct e5) (by omega) (by decide) rfl mA10 rfl rfl rfl (Nat.le_of_ble_eq_true rfl) dX6_cutOne_35 ?_
      refine V.if_eq (tgt := 47) F dX6_cutOne_38 (by decide) (fun c7 => ?_) (fun c7 => ?_)
      · have h := t_out h c7
        refine V.rload_n F dX6_cutOne_47 rfl rfl ?_
        refine V.dup F dX6_cutOne_48 rfl ?_
        refine gf_RX6_28 F dX6_cutOne_49 ?_
        refine V.iconst (v := 1) F dX6_cutOne_52 (by decide) ?_
        refine V.iadd F dX6_cutOne_53 ?_
        obtain ⟨μ8, eμ8, h⟩ := nm_out h
        refine pf_RX6_28 F eμ8 dX6_cutOne_54 ?_
        refine V.rload_n F dX6_cutOne_57 rfl rfl ?_
        refine V.rload_n F dX6_cutOne_58 rfl rfl ?_
        refine gf_RX6_28 F dX6_cutOne_59 ?_
        refine V.iconst (v := 1) F dX6_cutOne_62 (by decide) ?_
        refine V.isub F dX6_cutOne_63 ?_
        obtain ⟨r10, e9, h⟩ := bnd_out h
        refine V.callVi (f := 10) (i := 0) (As := [.int ((rd μ8 10 0 5) - 1)]) F ck_RX6_67 (Ta_signAt_ct e9) (by omega) (by decide) rfl mA10 rfl rfl rfl (Nat.le_of_ble_eq_true rfl) dX6_cutOne_64 ?_
        obtain ⟨rfl, rfl⟩ := r2_out h
        exact V.iret F dX6_cutOne_67
      · have h := f_out h c7
        refine V.rload_n F dX6_cutOne_41 rfl rfl ?_
        refine V.iload_n F dX6_cutOne_42 rfl rfl ?_
        obtain ⟨r12, μ13, e11, h⟩ := bnd2_out h
        refine V.callVi (f := 10) (i := 0) (As := [.int x1]) F ck_RX6_64 (Ta_cutNumber_ct e11) (by omega) (by decide) rfl mA10 rfl rfl rfl (Nat.le_of_ble_eq_true rfl) dX6_cutOne_43 ?_
        obtain ⟨rfl, rfl⟩ := r2_out h
        exact V.iret F dX6_cutOne_46
    · have h := f_out h c4
      refine V.rload_n F dX6_cutOne_25 rfl rfl ?_
      obtain ⟨r15, μ16, e14, h⟩ := bnd2_out h
      refine V.callVi (f := 10) (i := 0) (As := []) F ck_RX6_58 (Ta_cutWord_ct e14) (by omega) (by decide) rfl mA10 rfl rfl rfl (Nat.le_of_ble_eq_true rfl) dX6_cutOne_26 ?_
      obtain ⟨rfl, rfl⟩ := r2_out h
      exact V.iret F dX6_cutOne_29
  · have h := f_out h c1
    refine V.bipush (v := 13) F dX6_cutOne_11 (by decide) ?_
    obtain ⟨rfl, rfl⟩ := r2_out h
    exact V.iret F dX6_cutOne_13
set_option maxHeartbeats 4000000 in
set_option maxRecDepth 100000 in
theorem Ta_cutOne_ct {l : Launch} {G : Glo} {x1 : Int32} {μ : Mem} {r : Int32} {μ' : Mem} (h : Ta_cutOne x1 μ = some (r, μ')) : Ct l ΩA G 8 yX6_cutOne cX6_cutOne 2 (some .int) [.ref (G.1 10 0), .int x1] μ (some (.int r), μ') := by
  refine Ct.intro (by decide) (Nat.le_of_ble_eq_true rfl) ?_
  intro φ hl hG F
  subst hl; subst hG
  exact Ta_cutOne_ok F (Nat.le_refl _) h
def Ta_passBlanks_39 (k0 : Mem → Option Mem) (μ : Mem) : Option Mem :=
  nm (up μ 10 0 5 ((rd μ 10 0 5) + 1)) fun μ1 =>
  k0 μ1
set_option maxHeartbeats 4000000 in
set_option maxRecDepth 100000 in
theorem Ta_passBlanks_39_ok {φ : Fr} {d : Nat} (F : Fx φ ΩA cX6_passBlanks RX6 1 (none)) (hd : 1 ≤ d) {k0 : Mem → Option Mem} (hk0 : ∀ (μ : Mem)  (μ' : Mem), k0 μ = some μ' → V φ ΩA 1 d 0 [some (rf φ 10 0)] [] μ (none, μ')) {μ : Mem}  {μ' : Mem} (h : Ta_passBlanks_39 k0 μ = some μ') : V φ ΩA 1 d 39 [some (rf φ 10 0)] [] μ (none, μ') := by
  unfold Ta_passBlanks_39 at h
  refine V.rload_n F dX6_passBlanks_39 rfl rfl ?_
  refine V.dup F dX6_passBlanks_40 rfl ?_
  refine gf_RX6_28 F dX6_passBlanks_41 ?_
  refine V.iconst (v := 1) F dX6_passBlanks_44 (by decide) ?_
  refine V.iadd F dX6_passBlanks_45 ?_
  obtain ⟨μ1, eμ1, h⟩ := nm_out h
  refine pf_RX6_28 F eμ1 dX6_passBlanks_46 ?_
  refine V.goto (tgt := 0) F dX6_passBlanks_49 (by decide) ?_
  exact hk0 _ _ h
def Ta_passBlanks_0 (k0 : Mem → Option Mem) (μ : Mem) : Option Mem :=
  if (rd μ 10 0 5) < (rd μ 10 0 1) then (
    chk (inb (rd μ 10 0 5) 160) <|
    if (rd μ 11 0 (ix (rd μ 10 0 5))) = 32 then (
      Ta_passBlanks_39 k0 μ)
    else (
      chk (inb (rd μ 10 0 5) 160) <|
      if (rd μ 11 0 (ix (rd μ 10 0 5))) = 10 then (
        Ta_passBlanks_39 k0 μ)
      else (
        some μ)))
  else (
    some μ)
set_option maxHeartbeats 4000000 in
set_option maxRecDepth 100000 in
theorem Ta_passBlanks_0_ok {φ : Fr} {d : Nat} (F : Fx φ ΩA cX6_passBlanks RX6 1 (none)) (hd : 1 ≤ d) {k0 : Mem → Option Mem} (hk0 : ∀ (μ : Mem)  (μ' : Mem), k0 μ = some μ' → V φ ΩA 1 d 0 [some (rf φ 10 0)] [] μ (none, μ')) {μ : Mem}  {μ' : Mem} (h : Ta_passBlanks_0 k0 μ = some μ') : V φ ΩA 1 d 0 [some (rf φ 10 0)] [] μ (none, μ') := by
  unfold Ta_passBlanks_0 at h
  refine V.rload_n F dX6_passBlanks_0 rfl rfl ?_
  refine gf_RX6_28 F dX6_passBlanks_1 ?_
  refine V.rload_n F dX6_passBlanks_4 rfl rfl ?_
  refine gf_RX6_15 F dX6_passBlanks_5 ?_
  refine V.icmp_ge (tgt := 52) F dX6_passBlanks_8 (by decide) (fun c1 => ?_) (fun c1 => ?_)
  · have h := f_out h c1
    obtain rfl := r1_out h
    exact V.vret F dX6_passBlanks_52
  · have h := t_out h c1
    refine V.rload_n F dX6_passBlanks_11 rfl rfl ?_
    refine gf_RX6_9 F dX6_passBlanks_12 ?_
    refine V.rload_n F dX6_passBlanks_15 rfl rfl ?_
    refine gf_RX6_28 F dX6_passBlanks_16 ?_
    obtain ⟨c2, h⟩ := chk_out h
    refine V.iald (t0 := 0) (n := 160) F mA11 rfl rfl c2 dX6_passBlanks_19 ?_
    refine V.bipush (v := 32) F dX6_passBlanks_20 (by decide) ?_
    refine V.icmp_eq (tgt := 39) F dX6_passBlanks_22 (by decide) (fun c3 => ?_) (fun c3 => ?_)
    · have h := t_out h c3
      exact Ta_passBlanks_39_ok F hd hk0 h
    · have h := f_out h c3
      refine V.rload_n F dX6_passBlanks_25 rfl rfl ?_
      refine gf_RX6_9 F dX6_passBlanks_26 ?_
      refine V.rload_n F dX6_passBlanks_29 rfl rfl ?_
      refine gf_RX6_28 F dX6_passBlanks_30 ?_
      obtain ⟨c4, h⟩ := chk_out h
      refine V.iald (t0 := 0) (n := 160) F mA11 rfl rfl c4 dX6_passBlanks_33 ?_
      refine V.bipush (v := 10) F dX6_passBlanks_34 (by decide) ?_
      refine V.icmp_ne (tgt := 52) F dX6_passBlanks_36 (by decide) (fun c5 => ?_) (fun c5 => ?_)
      · have h := f_out h c5
        obtain rfl := r1_out h
        exact V.vret F dX6_passBlanks_52
      · have h := t_out h c5
        exact Ta_passBlanks_39_ok F hd hk0 h
def Ta_passBlanks_0L : Nat → Mem → Option Mem
  | 0 => fun _ => none
  | n + 1 => Ta_passBlanks_0 (Ta_passBlanks_0L n)
set_option maxHeartbeats 4000000 in
set_option maxRecDepth 100000 in
theorem Ta_passBlanks_0L_ok {φ : Fr} {d : Nat} (F : Fx φ ΩA cX6_passBlanks RX6 1 (none)) (hd : 1 ≤ d) : ∀ (n : Nat) (μ : Mem)  (μ' : Mem), Ta_passBlanks_0L n μ = some μ' → V φ ΩA 1 d 0 [some (rf φ 10 0)] [] μ (none, μ') := by
  intro n
  induction n with
  | zero => intro μ μ' h; cases h
  | succ n ih => intro μ μ' h; exact Ta_passBlanks_0_ok F hd ih h
def Ta_passBlanks (μ : Mem) : Option Mem := Ta_passBlanks_0L 1000 μ
set_option maxHeartbeats 4000000 in
set_option maxRecDepth 100000 in
theorem Ta_passBlanks_ct {l : Launch} {G : Glo} {μ : Mem}  {μ' : Mem} (h : Ta_passBlanks μ = some μ') : Ct l ΩA G 1 yX6_passBlanks cX6_passBlanks 1 (none) [.ref (G.1 10 0)] μ (none, μ') := by
  refine Ct.intro (by decide) (Nat.le_of_ble_eq_true rfl) ?_
  intro φ hl hG F
  subst hl; subst hG
  refine V.msk (L' := [some (rf φ 10 0)]) [true] rfl ?_
  exact Ta_passBlanks_0L_ok F (Nat.le_refl _) 1000 _ _ h
def Ta_cut_79 (k9 : Int32 → Int32 → Mem → Option Mem) (x2 : Int32) (y0 : Int32) (μ : Mem) : Option Mem :=
  nm (x2 + 1) fun a1 =>
  k9 y0 a1 μ
set_option maxHeartbeats 4000000 in
set_option maxRecDepth 100000 in
theorem Ta_cut_79_ok {φ : Fr} {d : Nat} (F : Fx φ ΩA cX6_cut RX6 3 (none)) (hd : 9 ≤ d) {k9 : Int32 → Int32 → Mem → Option Mem} (hk9 : ∀ (x1 : Int32) (x2 : Int32) (μ : Mem)  (μ' : Mem), k9 x1 x2 μ = some μ' → V φ ΩA 3 d 9 [some (rf φ 10 0), some (.int x1), some (.int x2)] [] μ (none, μ')) {x2 : Int32} {y0 : Int32} {μ : Mem}  {μ' : Mem} (h : Ta_cut_79 k9 x2 y0 μ = some μ') : V φ ΩA 3 d 79 [some (rf φ 10 0), none, some (.int x2)] [.int y0] μ (none, μ') := by
  unfold Ta_cut_79 at h
  refine V.istore_n (L' := [some (rf φ 10 0), some (.int y0), some (.int x2)]) F dX6_cut_79 rfl (by decide) rfl rfl rfl ?_
  obtain ⟨a1, ea1, h⟩ := nm_out h
  refine V.iinc (z := 1) (L' := [some (rf φ 10 0), some (.int y0), some (.int a1)]) F dX6_cut_80 rfl (by decide) ea1 (by decide) rfl rfl ?_
  refine V.goto (tgt := 9) F dX6_cut_83 (by decide) ?_
  exact hk9 _ _ _ _ h
def Ta_cut_9 (k9 : Int32 → Int32 → Mem → Option Mem) (x1 : Int32) (x2 : Int32) (μ : Mem) : Option Mem :=
  if 160 < x2 then (
    some μ)
  else (
    if x1 = 0 then (
      some μ)
    else (
      bnd (Ta_passBlanks μ) fun μ4 =>
      chk (inb x2 161) <|
      nm (up μ4 13 0 (ix x2) (rd μ4 10 0 5)) fun μ6 =>
      chk (inb x2 161) <|
      nm (up μ6 14 0 (ix x2) 0) fun μ8 =>
      bnd2 (Ta_cutOne x2 μ8) fun r10 μ11 =>
      chk (inb x2 161) <|
      nm (up μ11 12 0 (ix x2) r10) fun μ13 =>
      chk (inb x2 161) <|
      if (rd μ13 12 0 (ix x2)) = 13 then (
        Ta_cut_79 k9 x2 0 μ13)
      else (
        chk (inb x2 161) <|
        if (rd μ13 12 0 (ix x2)) = 14 then (
          Ta_cut_79 k9 x2 0 μ13)
        else (
          Ta_cut_79 k9 x2 1 μ13))))
set_option maxHeartbeats 4000000 in
set_option maxRecDepth 100000 in
theorem Ta_cut_9_ok {φ : Fr} {d : Nat} (F : Fx φ ΩA cX6_cut RX6 3 (none)) (hd : 9 ≤ d) {k9 : Int32 → Int32 → Mem → Option Mem} (hk9 : ∀ (x1 : Int32) (x2 : Int32) (μ : Mem)  (μ' : Mem), k9 x1 x2 μ = some μ' → V φ ΩA 3 d 9 [some (rf φ 10 0), some (.int x1), some (.int x2)] [] μ (none, μ')) {x1 : Int32} {x2 : Int32} {μ : Mem}  {μ' : Mem} (h : Ta_cut_9 k9 x1 x2 μ = some μ') : V φ ΩA 3 d 9 [some (rf φ 10 0), some (.int x1), some (.int x2)] [] μ (none, μ') := by
  unfold Ta_cut_9 at h
  refine V.iload_n F dX6_cut_9 rfl rfl ?_
  refine V.sipush (v := 160) F dX6_cut_10 (by decide) ?_
  refine V.icmp_gt (tgt := 86) F dX6_cut_13 (by decide) (fun c1 => ?_) (fun c1 => ?_)
  · have h := t_out h c1
    obtain rfl := r1_out h
    exact V.vret F dX6_cut_86
  · have h := f_out h c1
    refine V.iload_n F dX6_cut_16 rfl rfl ?_
    refine V.if_eq (tgt := 86) F dX6_cut_17 (by decide) (fun c2 => ?_) (fun c2 => ?_)
    · have h := t_out h c2
      obtain rfl := r1_out h
      exact V.vret F dX6_cut_86
    · have h := f_out h c2
      refine V.rload_n F dX6_cut_20 rfl rfl ?_
      obtain ⟨μ4, e3, h⟩ := bnd_out h
      refine V.callVv (f := 10) (i := 0) (As := []) F ck_RX6_47 (Ta_passBlanks_ct e3) (by omega) (by decide) rfl mA10 rfl rfl rfl (Nat.le_of_ble_eq_true rfl) dX6_cut_21 ?_
      refine V.rload_n F dX6_cut_24 rfl rfl ?_
      refine gf_RX6_22 F dX6_cut_25 ?_
      refine V.iload_n F dX6_cut_28 rfl rfl ?_
      refine V.rload_n F dX6_cut_29 rfl rfl ?_
      refine gf_RX6_28 F dX6_cut_30 ?_
      obtain ⟨c5, h⟩ := chk_out h
      obtain ⟨μ6, eμ6, h⟩ := nm_out h
      refine V.iast (t0 := 0) (n := 161) F mA13 (fun _ => rfl) rfl c5 eμ6 dX6_cut_33 ?_
      refine V.rload_n F dX6_cut_34 rfl rfl ?_
      refine gf_RX6_25 F dX6_cut_35 ?_
      refine V.iload_n F dX6_cut_38 rfl rfl ?_
      refine V.iconst (v := 0) F dX6_cut_39 (by decide) ?_
      obtain ⟨c7, h⟩ := chk_out h
      obtain ⟨μ8, eμ8, h⟩ := nm_out h
      refine V.iast (t0 := 0) (n := 161) F mA14 (fun _ => rfl) rfl c7 eμ8 dX6_cut_40 ?_
      refine V.rload_n F dX6_cut_41 rfl rfl ?_
      refine gf_RX6_19 F dX6_cut_42 ?_
      refine V.iload_n F dX6_cut_45 rfl rfl ?_
      refine V.rload_n F dX6_cut_46 rfl rfl ?_
      refine V.iload_n F dX6_cut_47 rfl rfl ?_
      obtain ⟨r10, μ11, e9, h⟩ := bnd2_out h
      refine V.callVi (f := 10) (i := 0) (As := [.int x2]) F ck_RX6_50 (Ta_cutOne_ct e9) (by omega) (by decide) rfl mA10 rfl rfl rfl (Nat.le_of_ble_eq_true rfl) dX6_cut_48 ?_
      obtain ⟨c12, h⟩ := chk_out h
      obtain ⟨μ13, eμ13, h⟩ := nm_out h
      refine V.iast (t0 := 0) (n := 161) F mA12 (fun _ => rfl) rfl c12 eμ13 dX6_cut_51 ?_
      refine V.rload_n F dX6_cut_52 rfl rfl ?_
      refine gf_RX6_19 F dX6_cut_53 ?_
      refine V.iload_n F dX6_cut_56 rfl rfl ?_
      obtain ⟨c14, h⟩ := chk_out h
      refine V.iald (t0 := 0) (n := 161) F mA12 rfl rfl c14 dX6_cut_57 ?_
      refine V.bipush (v := 13) F dX6_cut_58 (by decide) ?_
      refine V.icmp_eq (tgt := 78) F dX6_cut_60 (by decide) (fun c15 => ?_) (fun c15 => ?_)
      · have h := t_out h c15
        refine V.iconst (v := 0) F dX6_cut_78 (by decide) ?_
        refine V.msk (L' := [some (rf φ 10 0), none, some (.int x2)]) [true, false, true] rfl ?_
        exact Ta_cut_79_ok F hd hk9 h
      · have h := f_out h c15
        refine V.rload_n F dX6_cut_63 rfl rfl ?_
        refine gf_RX6_19 F dX6_cut_64 ?_
        refine V.iload_n F dX6_cut_67 rfl rfl ?_
        obtain ⟨c16, h⟩ := chk_out h
        refine V.iald (t0 := 0) (n := 161) F mA12 rfl rfl c16 dX6_cut_68 ?_
        refine V.bipush (v := 14) F dX6_cut_69 (by decide) ?_
        refine V.icmp_eq (tgt := 78) F dX6_cut_71 (by decide) (fun c17 => ?_) (fun c17 => ?_)
        · have h := t_out h c17
          refine V.iconst (v := 0) F dX6_cut_78 (by decide) ?_
          refine V.msk (L' := [some (rf φ 10 0), none, some (.int x2)]) [true, false, true] rfl ?_
          exact Ta_cut_79_ok F hd hk9 h
        · have h := f_out h c17
          refine V.iconst (v := 1) F dX6_cut_74 (by decide) ?_
          refine V.goto (tgt := 79) F dX6_cut_75 (by decide) ?_
          refine V.msk (L' := [some (rf φ 10 0), none, some (.int x2)]) [true, false, true] rfl ?_
          exact Ta_cut_79_ok F hd hk9 h
def Ta_cut_9L : Nat → Int32 → Int32 → Mem → Option Mem
  | 0 => fun _ _ _ => none
  | n + 1 => Ta_cut_9 (Ta_cut_9L n)
set_option maxHeartbeats 4000000 in
set_option maxRecDepth 100000 in
theorem Ta_cut_9L_ok {φ : Fr} {d : Nat} (F : Fx φ ΩA cX6_cut RX6 3 (none)) (hd : 9 ≤ d) : ∀ (n : Nat) (x1 : Int32) (x2 : Int32) (μ : Mem)  (μ' : Mem), Ta_cut_9L n x1 x2 μ = some μ' → V φ ΩA 3 d 9 [some (rf φ 10 0), some (.int x1), some (.int x2)] [] μ (none, μ') := by
  intro n
  induction n with
  | zero => intro x1 x2 μ μ' h; cases h
  | succ n ih => intro x1 x2 μ μ' h; exact Ta_cut_9_ok F hd ih h
def Ta_cut (μ : Mem) : Option Mem :=
  nm (up μ 10 0 5 0) fun μ1 =>
  Ta_cut_9L 1000 1 0 μ1
set_option maxHeartbeats 4000000 in
set_option maxRecDepth 100000 in
theorem Ta_cut_ok {φ : Fr} {d : Nat} (F : Fx φ ΩA cX6_cut RX6 3 (none)) (hd : 9 ≤ d) {μ : Mem}  {μ' : Mem} (h : Ta_cut μ = some μ') : V φ ΩA 3 d 0 [some (rf φ 10 0), none, none] [] μ (none, μ') := by
  unfold Ta_cut at h
  refine V.rload_n F dX6_cut_0 rfl rfl ?_
  refine V.iconst (v := 0) F dX6_cut_1 (by decide) ?_
  obtain ⟨μ1, eμ1, h⟩ := nm_out h
  refine pf_RX6_28 F eμ1 dX6_cut_2 ?_
  refine V.iconst (v := 1) F dX6_cut_5 (by decide) ?_
  refine V.istore_n (L' := [some (rf φ 10 0), some (.int 1), none]) F dX6_cut_6 rfl (by decide) rfl rfl rfl ?_
  refine V.iconst (v := 0) F dX6_cut_7 (by decide) ?_
  refine V.istore_n (L' := [some (rf φ 10 0), some (.int 1), some (.int 0)]) F dX6_cut_8 rfl (by decide) rfl rfl rfl ?_
  exact Ta_cut_9L_ok F hd 1000 _ _ _ _ h
set_option maxHeartbeats 4000000 in
set_option maxRecDepth 100000 in
theorem Ta_cut_ct {l : Launch} {G : Glo} {μ : Mem}  {μ' : Mem} (h : Ta_cut μ = some μ') : Ct l ΩA G 9 yX6_cut cX6_cut 3 (none) [.ref (G.1 10 0)] μ (none, μ') := by
  refine Ct.intro (by decide) (Nat.le_of_ble_eq_true rfl) ?_
  intro φ hl hG F
  subst hl; subst hG
  exact Ta_cut_ok F (Nat.le_refl _) h
def Re_read_56 (y0 : Int32) (μ : Mem) : Option (Int32 × Mem) :=
  nm (up μ 10 0 1 0) fun μ1 =>
  if y0 = 0 then (
    chk (inb (rd μ1 9 0 3) 161) <|
    some (rd μ1 13 0 (ix (rd μ1 9 0 3)), μ1))
  else (
    some ((-1), μ1))
set_option maxHeartbeats 4000000 in
set_option maxRecDepth 100000 in
theorem Re_read_56_ok {φ : Fr} {d : Nat} (F : Fx φ ΩA cX4_read RX4 3 (some .int)) (hd : 105 ≤ d) {y0 : Int32} {μ : Mem} {r : Int32} {μ' : Mem} (h : Re_read_56 y0 μ = some (r, μ')) : V φ ΩA 3 d 56 [some (rf φ 9 0), none, none] [.int y0] μ (some (.int r), μ') := by
  unfold Re_read_56 at h
  refine V.istore_n (L' := [some (rf φ 9 0), none, some (.int y0)]) F dX4_read_56 rfl (by decide) rfl rfl rfl ?_
  refine V.rload_n F dX4_read_57 rfl rfl ?_
  refine gf_RX4_12 F dX4_read_58 ?_
  refine V.iconst (v := 0) F dX4_read_61 (by decide) ?_
  obtain ⟨μ1, eμ1, h⟩ := nm_out h
  refine pf_RX4_43 F eμ1 dX4_read_62 ?_
  refine V.iload_n F dX4_read_65 rfl rfl ?_
  refine V.if_eq (tgt := 73) F dX4_read_66 (by decide) (fun c2 => ?_) (fun c2 => ?_)
  · have h := t_out h c2
    refine V.rload_n F dX4_read_73 rfl rfl ?_
    refine gf_RX4_12 F dX4_read_74 ?_
    refine gf_RX4_46 F dX4_read_77 ?_
    refine V.rload_n F dX4_read_80 rfl rfl ?_
    refine gf_RX4_26 F dX4_read_81 ?_
    obtain ⟨c3, h⟩ := chk_out h
    refine V.iald (t0 := 0) (n := 161) F mA13 rfl rfl c3 dX4_read_84 ?_
    obtain ⟨rfl, rfl⟩ := r2_out h
    exact V.iret F dX4_read_85
  · have h := f_out h c2
    refine V.iconst (v := (-1)) F dX4_read_69 (by decide) ?_
    refine V.goto (tgt := 85) F dX4_read_70 (by decide) ?_
    obtain ⟨rfl, rfl⟩ := r2_out h
    exact V.iret F dX4_read_85
def Re_read (t1 : Nat) (μ : Mem) : Option (Int32 × Mem) :=
  nm (up μ 9 0 1 (nI t1)) fun μ1 =>
  nm (up μ1 9 0 2 0) fun μ2 =>
  nm (up μ2 9 0 3 0) fun μ3 =>
  bnd (Ta_cut μ3) fun μ5 =>
  chk (inb 0 161) <|
  nm (up μ5 9 0 4 (rd μ5 12 0 (ix 0))) fun μ7 =>
  bnd2 (Re_readsParts μ7) fun r9 μ10 =>
  if r9 = 0 then (
    Re_read_56 0 μ10)
  else (
    if (rd μ10 9 0 4) = 13 then (
      Re_read_56 1 μ10)
    else (
      Re_read_56 0 μ10))
set_option maxHeartbeats 4000000 in
set_option maxRecDepth 100000 in
theorem Re_read_ok {φ : Fr} {d : Nat} (F : Fx φ ΩA cX4_read RX4 3 (some .int)) (hd : 105 ≤ d) {t1 : Nat} (ht1 : t1 < 6) {μ : Mem} {r : Int32} {μ' : Mem} (h : Re_read t1 μ = some (r, μ')) : V φ ΩA 3 d 0 [some (rf φ 9 0), some (rf φ 5 t1), none] [] μ (some (.int r), μ') := by
  unfold Re_read at h
  refine V.rload_n F dX4_read_0 rfl rfl ?_
  refine V.rload_n F dX4_read_1 rfl rfl ?_
  obtain ⟨μ1, eμ1, h⟩ := nm_out h
  refine pf_RX4_18 rfl ht1 F eμ1 dX4_read_2 ?_
  refine V.rload_n F dX4_read_5 rfl rfl ?_
  refine V.iconst (v := 0) F dX4_read_6 (by decide) ?_
  obtain ⟨μ2, eμ2, h⟩ := nm_out h
  refine pf_RX4_22 F eμ2 dX4_read_7 ?_
  refine V.rload_n F dX4_read_10 rfl rfl ?_
  refine V.iconst (v := 0) F dX4_read_11 (by decide) ?_
  obtain ⟨μ3, eμ3, h⟩ := nm_out h
  refine pf_RX4_26 F eμ3 dX4_read_12 ?_
  refine V.rload_n F dX4_read_15 rfl rfl ?_
  refine gf_RX4_12 F dX4_read_16 ?_
  obtain ⟨μ5, e4, h⟩ := bnd_out h
  refine V.callVv (f := 10) (i := 0) (As := []) F ck_RX4_32 (Ta_cut_ct e4) (by omega) (by decide) rfl mA10 rfl rfl rfl (Nat.le_of_ble_eq_true rfl) dX4_read_19 ?_
  refine V.rload_n F dX4_read_22 rfl rfl ?_
  refine V.rload_n F dX4_read_23 rfl rfl ?_
  refine gf_RX4_12 F dX4_read_24 ?_
  refine gf_RX4_35 F dX4_read_27 ?_
  refine V.iconst (v := 0) F dX4_read_30 (by decide) ?_
  obtain ⟨c6, h⟩ := chk_out h
  refine V.iald (t0 := 0) (n := 161) F mA12 rfl rfl c6 dX4_read_31 ?_
  obtain ⟨μ7, eμ7, h⟩ := nm_out h
  refine pf_RX4_29 F eμ7 dX4_read_32 ?_
  refine V.rload_n F dX4_read_35 rfl rfl ?_
  obtain ⟨r9, μ10, e8, h⟩ := bnd2_out h
  refine V.callVi (f := 9) (i := 0) (As := []) F ck_RX4_39 (Re_readsParts_ct e8) (by omega) (by decide) rfl mA9 rfl rfl rfl (Nat.le_of_ble_eq_true rfl) dX4_read_36 ?_
  refine V.if_eq (tgt := 55) F dX4_read_39 (by decide) (fun c11 => ?_) (fun c11 => ?_)
  · have h := t_out h c11
    refine V.iconst (v := 0) F dX4_read_55 (by decide) ?_
    refine V.msk (L' := [some (rf φ 9 0), none, none]) [true, false, false] rfl ?_
    exact Re_read_56_ok F hd h
  · have h := f_out h c11
    refine V.rload_n F dX4_read_42 rfl rfl ?_
    refine gf_RX4_29 F dX4_read_43 ?_
    refine V.bipush (v := 13) F dX4_read_46 (by decide) ?_
    refine V.icmp_ne (tgt := 55) F dX4_read_48 (by decide) (fun c12 => ?_) (fun c12 => ?_)
    · have h := f_out h c12
      refine V.iconst (v := 0) F dX4_read_55 (by decide) ?_
      refine V.msk (L' := [some (rf φ 9 0), none, none]) [true, false, false] rfl ?_
      exact Re_read_56_ok F hd h
    · have h := t_out h c12
      refine V.iconst (v := 1) F dX4_read_51 (by decide) ?_
      refine V.goto (tgt := 56) F dX4_read_52 (by decide) ?_
      refine V.msk (L' := [some (rf φ 9 0), none, none]) [true, false, false] rfl ?_
      exact Re_read_56_ok F hd h
set_option maxHeartbeats 4000000 in
set_option maxRecDepth 100000 in
theorem Re_read_ct {l : Launch} {G : Glo} {t1 : Nat} (ht1 : t1 < 6) {μ : Mem} {r : Int32} {μ' : Mem} (h : Re_read t1 μ = some (r, μ')) : Ct l ΩA G 105 yX4_read cX4_read 3 (some .int) [.ref (G.1 9 0), .ref (G.1 5 t1)] μ (some (.int r), μ') := by
  refine Ct.intro (by decide) (Nat.le_of_ble_eq_true rfl) ?_
  intro φ hl hG F
  subst hl; subst hG
  exact Re_read_ok F (Nat.le_refl _) ht1 h
def Sh_isMissing (t0 : Nat) (μ : Mem) : Int32 :=
  if (rd μ 16 t0 0) = (-1) then (
    1)
  else (
    0)
set_option maxHeartbeats 4000000 in
set_option maxRecDepth 100000 in
theorem Sh_isMissing_ok {φ : Fr} {d : Nat} (F : Fx φ ΩA cX5_isMissing RX5 1 (some .boolean)) (hd : 1 ≤ d) {t0 : Nat} (ht0 : t0 < 4) {μ : Mem} {r : Int32} (h : Sh_isMissing t0 μ = r) : V φ ΩA 1 d 0 [some (rf φ 16 t0)] [] μ (some (.int r), μ) := by
  unfold Sh_isMissing at h
  refine V.rload_n F dX5_isMissing_0 rfl rfl ?_
  refine gf_RX5_9 ht0 F dX5_isMissing_1 ?_
  refine V.iconst (v := (-1)) F dX5_isMissing_4 (by decide) ?_
  refine V.icmp_ne (tgt := 12) F dX5_isMissing_5 (by decide) (fun c1 => ?_) (fun c1 => ?_)
  · have h := f_out h c1
    refine V.iconst (v := 0) F dX5_isMissing_12 (by decide) ?_
    obtain rfl := h
    exact V.zret F (by decide) dX5_isMissing_13
  · have h := t_out h c1
    refine V.iconst (v := 1) F dX5_isMissing_8 (by decide) ?_
    refine V.goto (tgt := 13) F dX5_isMissing_9 (by decide) ?_
    obtain rfl := h
    exact V.zret F (by decide) dX5_isMissing_13
set_option maxHeartbeats 4000000 in
set_option maxRecDepth 100000 in
theorem Sh_isMissing_ct {l : Launch} {G : Glo} {t0 : Nat} (ht0 : t0 < 4) {μ : Mem} {r : Int32} (h : Sh_isMissing t0 μ = r) : Ct l ΩA G 1 yX5_isMissing cX5_isMissing 1 (some .boolean) [.ref (G.1 16 t0)] μ (some (.int r), μ) := by
  refine Ct.intro (by decide) (Nat.le_of_ble_eq_true rfl) ?_
  intro φ hl hG F
  subst hl; subst hG
  exact Sh_isMissing_ok F (Nat.le_refl _) ht0 h
def Sh_become_12 (k12 : Nat → Int32 → Mem → Option Mem) (t0 : Nat) (x3 : Int32) (μ : Mem) : Option Mem :=
  if x3 < (rd μ 16 t0 1) then (
    chk (inb x3 40) <|
    nm (up μ 17 t0 (ix x3) 0) fun μ3 =>
    nm (x3 + 1) fun a4 =>
    k12 t0 a4 μ3)
  else (
    some μ)
set_option maxHeartbeats 4000000 in
set_option maxRecDepth 100000 in
theorem Sh_become_12_ok {φ : Fr} {d : Nat} (F : Fx φ ΩA cX5_become RX5 4 (none)) (hd : 1 ≤ d) {k12 : Nat → Int32 → Mem → Option Mem} (hk12 : ∀ (t0 : Nat) (x3 : Int32) (ht0 : t0 < 4) (μ : Mem)  (μ' : Mem), k12 t0 x3 μ = some μ' → V φ ΩA 4 d 12 [some (rf φ 16 t0), none, none, some (.int x3)] [] μ (none, μ')) {t0 : Nat} {x3 : Int32} (ht0 : t0 < 4) {μ : Mem}  {μ' : Mem} (h : Sh_become_12 k12 t0 x3 μ = some μ') : V φ ΩA 4 d 12 [some (rf φ 16 t0), none, none, some (.int x3)] [] μ (none, μ') := by
  unfold Sh_become_12 at h
  refine V.iload_n F dX5_become_12 rfl rfl ?_
  refine V.rload_n F dX5_become_13 rfl rfl ?_
  refine gf_RX5_15 ht0 F dX5_become_14 ?_
  refine V.icmp_ge (tgt := 33) F dX5_become_17 (by decide) (fun c1 => ?_) (fun c1 => ?_)
  · have h := f_out h c1
    obtain rfl := r1_out h
    exact V.vret F dX5_become_33
  · have h := t_out h c1
    refine V.rload_n F dX5_become_20 rfl rfl ?_
    refine gf_RX5_18 ht0 F dX5_become_21 ?_
    refine V.iload_n F dX5_become_24 rfl rfl ?_
    refine V.iconst (v := 0) F dX5_become_25 (by decide) ?_
    obtain ⟨c2, h⟩ := chk_out h
    obtain ⟨μ3, eμ3, h⟩ := nm_out h
    refine V.iast (t0 := 0) (n := 40) F (mA17 ht0) (fun _ => rfl) rfl c2 eμ3 dX5_become_26 ?_
    obtain ⟨a4, ea4, h⟩ := nm_out h
    refine V.iinc (z := 1) (L' := [some (rf φ 16 t0), none, none, some (.int a4)]) F dX5_become_27 rfl (by decide) ea4 (by decide) rfl rfl ?_
    refine V.goto (tgt := 12) F dX5_become_30 (by decide) ?_
    exact hk12 _ _ ht0 _ _ h
def Sh_become_12L : Nat → Nat → Int32 → Mem → Option Mem
  | 0 => fun _ _ _ => none
  | n + 1 => Sh_become_12 (Sh_become_12L n)
set_option maxHeartbeats 4000000 in
set_option maxRecDepth 100000 in
theorem Sh_become_12L_ok {φ : Fr} {d : Nat} (F : Fx φ ΩA cX5_become RX5 4 (none)) (hd : 1 ≤ d) : ∀ (n : Nat) (t0 : Nat) (x3 : Int32) (ht0 : t0 < 4) (μ : Mem)  (μ' : Mem), Sh_become_12L n t0 x3 μ = some μ' → V φ ΩA 4 d 12 [some (rf φ 16 t0), none, none, some (.int x3)] [] μ (none, μ') := by
  intro n
  induction n with
  | zero => intro t0 x3 ht0 μ μ' h; cases h
  | succ n ih => intro t0 x3 ht0 μ μ' h; exact Sh_become_12_ok F hd ih ht0 h
def Sh_become (t0 : Nat) (x1 : Int32) (x2 : Int32) (μ : Mem) : Option Mem :=
  nm (up μ 16 t0 0 x1) fun μ1 =>
  nm (up μ1 16 t0 1 x2) fun μ2 =>
  Sh_become_12L 1000 t0 0 μ2
set_option maxHeartbeats 4000000 in
set_option maxRecDepth 100000 in
theorem Sh_become_ok {φ : Fr} {d : Nat} (F : Fx φ ΩA cX5_become RX5 4 (none)) (hd : 1 ≤ d) {t0 : Nat} {x1 : Int32} {x2 : Int32} (ht0 : t0 < 4) {μ : Mem}  {μ' : Mem} (h : Sh_become t0 x1 x2 μ = some μ') : V φ ΩA 4 d 0 [some (rf φ 16 t0), some (.int x1), some (.int x2), none] [] μ (none, μ') := by
  unfold Sh_become at h
  refine V.rload_n F dX5_become_0 rfl rfl ?_
  refine V.iload_n F dX5_become_1 rfl rfl ?_
  obtain ⟨μ1, eμ1, h⟩ := nm_out h
  refine pf_RX5_9 ht0 F eμ1 dX5_become_2 ?_
  refine V.rload_n F dX5_become_5 rfl rfl ?_
  refine V.iload_n F dX5_become_6 rfl rfl ?_
  obtain ⟨μ2, eμ2, h⟩ := nm_out h
  refine pf_RX5_15 ht0 F eμ2 dX5_become_7 ?_
  refine V.iconst (v := 0) F dX5_become_10 (by decide) ?_
  refine V.istore_n (L' := [some (rf φ 16 t0), some (.int x1), some (.int x2), some (.int 0)]) F dX5_become_11 rfl (by decide) rfl rfl rfl ?_
  refine V.msk (L' := [some (rf φ 16 t0), none, none, some (.int 0)]) [true, false, false, true] rfl ?_
  exact Sh_become_12L_ok F hd 1000 _ _ ht0 _ _ h
set_option maxHeartbeats 4000000 in
set_option maxRecDepth 100000 in
theorem Sh_become_ct {l : Launch} {G : Glo} {t0 : Nat} {x1 : Int32} {x2 : Int32} (ht0 : t0 < 4) {μ : Mem}  {μ' : Mem} (h : Sh_become t0 x1 x2 μ = some μ') : Ct l ΩA G 1 yX5_become cX5_become 4 (none) [.ref (G.1 16 t0), .int x1, .int x2] μ (none, μ') := by
  refine Ct.intro (by decide) (Nat.le_of_ble_eq_true rfl) ?_
  intro φ hl hG F
  subst hl; subst hG
  exact Sh_become_ok F (Nat.le_refl _) ht0 h
def Sh_put (t0 : Nat) (x1 : Int32) (x2 : Int32) (μ : Mem) : Option Mem :=
  if (rd μ 16 t0 0) = 0 then (
    chk (inb x1 40) <|
    nm (up μ 17 t0 (ix x1) (b8 x2)) fun μ3 =>
    some μ3)
  else (
  if (rd μ 16 t0 0) = 1 then (
    chk (inb x1 40) <|
    nm (up μ 17 t0 (ix x1) (b16 x2)) fun μ6 =>
    some μ6)
  else (
  chk (inb x1 40) <|
  nm (up μ 17 t0 (ix x1) x2) fun μ8 =>
  some μ8))
set_option maxHeartbeats 4000000 in
set_option maxRecDepth 100000 in
theorem Sh_put_ok {φ : Fr} {d : Nat} (F : Fx φ ΩA cX5_put RX5 3 (none)) (hd : 1 ≤ d) {t0 : Nat} {x1 : Int32} {x2 : Int32} (ht0 : t0 < 4) {μ : Mem}  {μ' : Mem} (h : Sh_put t0 x1 x2 μ = some μ') : V φ ΩA 3 d 0 [some (rf φ 16 t0), some (.int x1), some (.int x2)] [] μ (none, μ') := by
  unfold Sh_put at h
  refine V.rload_n F dX5_put_0 rfl rfl ?_
  refine gf_RX5_9 ht0 F dX5_put_1 ?_
  by_cases c1 : (rd μ 16 t0 0) = 0
  · have h := t_out h c1
    refine V.lookup (tgt := 32) (off := 28) F dX5_put_4 (by decide) (by rw [c1]; try rfl) (by decide) ?_
    refine V.rload_n F dX5_put_32 rfl rfl ?_
    refine gf_RX5_18 ht0 F dX5_put_33 ?_
    refine V.iload_n F dX5_put_36 rfl rfl ?_
    refine V.iload_n F dX5_put_37 rfl rfl ?_
    refine V.i2b F dX5_put_38 ?_
    obtain ⟨c2, h⟩ := chk_out h
    obtain ⟨μ3, eμ3, h⟩ := nm_out h
    refine V.iast (t0 := 0) (n := 40) F (mA17 ht0) (fun _ => rfl) rfl c2 eμ3 dX5_put_39 ?_
    refine V.goto (tgt := 61) F dX5_put_40 (by decide) ?_
    obtain rfl := r1_out h
    exact V.vret F dX5_put_61
  have h := f_out h c1
  by_cases c4 : (rd μ 16 t0 0) = 1
  · have h := t_out h c4
    refine V.lookup (tgt := 43) (off := 39) F dX5_put_4 (by decide) (by rw [c4]; try rfl) (by decide) ?_
    refine V.rload_n F dX5_put_43 rfl rfl ?_
    refine gf_RX5_18 ht0 F dX5_put_44 ?_
    refine V.iload_n F dX5_put_47 rfl rfl ?_
    refine V.iload_n F dX5_put_48 rfl rfl ?_
    refine V.i2s F dX5_put_49 ?_
    obtain ⟨c5, h⟩ := chk_out h
    obtain ⟨μ6, eμ6, h⟩ := nm_out h
    refine V.iast (t0 := 0) (n := 40) F (mA17 ht0) (fun _ => rfl) rfl c5 eμ6 dX5_put_50 ?_
    refine V.goto (tgt := 61) F dX5_put_51 (by decide) ?_
    obtain rfl := r1_out h
    exact V.vret F dX5_put_61
  have h := f_out h c4
  refine V.lookup (tgt := 54) (off := 50) F dX5_put_4 (by decide) (by show Op.lookupswitch.offset [(0, 28), (1, 39)] _ _ = _; rw [lv_osw c1 (by decide), lv_osw c4 (by decide)]; try rfl) (by decide) ?_
  refine V.rload_n F dX5_put_54 rfl rfl ?_
  refine gf_RX5_18 ht0 F dX5_put_55 ?_
  refine V.iload_n F dX5_put_58 rfl rfl ?_
  refine V.iload_n F dX5_put_59 rfl rfl ?_
  obtain ⟨c7, h⟩ := chk_out h
  obtain ⟨μ8, eμ8, h⟩ := nm_out h
  refine V.iast (t0 := 0) (n := 40) F (mA17 ht0) (fun _ => rfl) rfl c7 eμ8 dX5_put_60 ?_
  obtain rfl := r1_out h
  exact V.vret F dX5_put_61
set_option maxHeartbeats 4000000 in
set_option maxRecDepth 100000 in
theorem Sh_put_ct {l : Launch} {G : Glo} {t0 : Nat} {x1 : Int32} {x2 : Int32} (ht0 : t0 < 4) {μ : Mem}  {μ' : Mem} (h : Sh_put t0 x1 x2 μ = some μ') : Ct l ΩA G 1 yX5_put cX5_put 3 (none) [.ref (G.1 16 t0), .int x1, .int x2] μ (none, μ') := by
  refine Ct.intro (by decide) (Nat.le_of_ble_eq_true rfl) ?_
  intro φ hl hG F
  subst hl; subst hG
  exact Sh_put_ok F (Nat.le_refl _) ht0 h
