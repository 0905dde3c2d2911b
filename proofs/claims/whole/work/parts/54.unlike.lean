/-! ===== tells: who isn't so ===== -/
def fl (X : Nat → List Int32 × List Int32 × List Int32) (t : Nat) (gr : Nat → Nat → Nat) (g c : Nat) : Nat := feelV (X t) (eG gr g c (gr c 2))
def unl (d : Nat → Nat) (v : Nat → Int32) : Nat → Nat
  | 0 => 0
  | g + 1 => if nI (d g) = v g then unl d v g else unl d v g ||| 2 ^ g
theorem unl_lt (d : Nat → Nat) (v : Nat → Int32) : ∀ k, unl d v k < 2 ^ k
  | 0 => Nat.two_pow_pos 0
  | k + 1 => by
    have ih : unl d v k < 2 ^ (k + 1) := Nat.lt_of_lt_of_le (unl_lt d v k) (Nat.pow_le_pow_right (by decide) (by omega))
    rw [unl]
    split
    · exact ih
    · exact Nat.or_lt_two_pow ih (Nat.pow_lt_pow_right (by decide) (by omega))
theorem unl_bit {d : Nat → Nat} {v : Nat → Int32} {i : Nat} : ∀ k, (unl d v k).testBit i = true ↔ i < k ∧ ¬ nI (d i) = v i
  | 0 => by
    rw [unl, Nat.zero_testBit]
    exact ⟨fun h => (by cases h), fun h => absurd h.1 (by omega)⟩
  | k + 1 => by
    rw [unl]
    have ih := unl_bit (d := d) (v := v) (i := i) k
    by_cases q : nI (d k) = v k
    · rw [if_pos q, ih]
      constructor
      · rintro ⟨a, b⟩; exact ⟨by omega, b⟩
      · rintro ⟨a, b⟩
        by_cases e : k = i
        · subst e; exact absurd q b
        · exact ⟨by omega, b⟩
    · rw [if_neg q, bit_orp, ih]
      constructor
      · rintro (⟨a, b⟩ | h)
        · exact ⟨by omega, b⟩
        · subst h; exact ⟨by omega, q⟩
      · rintro ⟨a, b⟩
        by_cases e : k = i
        · exact Or.inr e
        · exact Or.inl ⟨by omega, b⟩
theorem unl_cong {d d' : Nat → Nat} {v : Nat → Int32} : ∀ n, (∀ i, i < n → d i = d' i) → unl d v n = unl d' v n
  | 0, _ => rfl
  | n + 1, h => by rw [unl, unl, unl_cong n (fun i hi => h i (by omega)), h n (by omega)]
theorem unl_0 {d : Nat → Nat} {v : Nat → Int32} {n : Nat} : unl d v n = 0 ↔ ∀ i, i < n → nI (d i) = v i := by
  constructor
  · intro h i hi
    refine Decidable.byContradiction (fun q => ?_)
    have := (unl_bit (d := d) (v := v) n).mpr ⟨hi, q⟩
    rw [h, Nat.zero_testBit] at this; cases this
  · intro h
    apply Nat.eq_of_testBit_eq
    intro i
    rw [Nat.zero_testBit]
    cases q : (unl d v n).testBit i
    · rfl
    · have := (unl_bit (d := d) (v := v) n).mp q
      exact absurd (h i this.1) this.2
theorem or_s0 : ∀ m : Nat, m < 64 → ∀ g : Nat, g < 6 → nI m ||| shl 0 (nI g) = nI m := by decide +kernel
theorem fl_man {X : Nat → List Int32 × List Int32 × List Int32} {hs : Nat → Nat} {gr : Nat → Nat → Nat} {tc : Nat} {μ : Mem} {t g c : Nat} (h : HOK hs gr tc) (hA : HA 0 hs gr μ) (hX : XA tc X μ) (ht : t < tc) (hg : g < hs 3) (hc : c < hs 3) : ∃ m1 m2, S_seeIn (nI g) (nI c) μ = some m1 ∧ Off [18] μ m1 ∧ Ma_feels t m1 = some (nI (fl X t gr g c), m2) ∧ Off [8, 18, 19] μ m2 := by
  obtain ⟨m1, t1, t2, t3⟩ := S_seeIn_sp h hA hg hc
  have hx := (hX.2 t ht).off t3 (by decide) (by decide)
  have b0 : eG gr g c (gr c 2) 0 < 2 ^ 31 := by have := (h.2.2.2.2.1 g hg).1; show gr g 0 < _; omega
  obtain ⟨m2, u1, u2⟩ := Ma_feels_sp hx t2.1 t2.2.1 t2.2.2.1 b0
  exact ⟨m1, m2, t1, t3, u1, (t3.mono (by decide)).tr (u2.mono (by decide))⟩
theorem S_otherwise_sp {X : Nat → List Int32 × List Int32 × List Int32} {hs : Nat → Nat} {gr : Nat → Nat → Nat} {tc : Nat} {μ : Mem} {t s : Nat} {v : Nat → Int32} (h : HOK hs gr tc) (hA : HA 0 hs gr μ) (hX : XA tc X μ) (ht : t < tc) (hv : ∀ g, g < hs 3 → rd μ 17 s g = v g) : ∃ m', S_otherwise s t μ = some (nI (unl (fun g => fl X t gr g (gr g 4)) v (hs 3)), m') ∧ Off [8, 18, 19] μ m' := by
  have hn := h.2.2.2.1
  have key : ∀ (k g F : Nat) (m : Mem), g + k = hs 3 → k < F → Off [8, 18, 19] μ m → ∃ m', S_otherwise_5L F s t (nI (unl (fun g => fl X t gr g (gr g 4)) v g)) (nI g) m = some (nI (unl (fun g => fl X t gr g (gr g 4)) v (hs 3)), m') ∧ Off [8, 18, 19] μ m' := by
    intro k
    induction k with
    | zero =>
      intro g F m hg hF ho
      obtain ⟨F, rfl⟩ : ∃ F', F = F' + 1 := ⟨F - 1, by omega⟩
      have : g = hs 3 := by omega
      subst this
      refine ⟨m, ?_, ho⟩
      show S_otherwise_5 _ _ _ _ _ _ = _
      unfold S_otherwise_5
      rw [ho.rd (by decide), hA.1 3 (by decide), if_neg (nI_nlt (by omega) (by omega))]
    | succ k ih =>
      intro g F m hg hF ho
      obtain ⟨F, rfl⟩ : ∃ F', F = F' + 1 := ⟨F - 1, by omega⟩
      have hgn : g < hs 3 := by omega
      have c5 := (h.2.2.2.2.1 g hgn).2.2.2.2
      have hA' := hA.off ho (by decide) (by decide)
      have hX' : XA tc X m := hX.cg (ho.rd (by decide) _ _) (fun f i j hf _ => ho.rd (by revert f; decide) _ _)
      obtain ⟨m1, m2, t1, t2, t3, t4⟩ := fl_man (t := t) h hA' hX' ht hgn c5
      have as : S_seeAsIs (nI g) m = some m1 := by
        unfold S_seeAsIs
        rw [chk_eq _ (inb_nI (by omega) (by omega)), ix_nI (by omega), show rd m 2 g 4 = nI (gr g 4) from hA'.2 g 4 hgn (by decide), bnd_of t1]
      have hm : unl (fun g => fl X t gr g (gr g 4)) v g < 64 := p64 (n := g) (by omega) (unl_lt _ _ g)
      obtain ⟨m', w1, w2⟩ := ih (g + 1) F m2 (by omega) (by omega) (ho.tr t4)
      rw [unl] at w1
      refine ⟨m', ?_, w2⟩
      show S_otherwise_5 _ _ _ _ _ _ = _
      unfold S_otherwise_5 S_otherwise_48
      rw [hA'.1 3 (by decide), if_pos (nI_lt hgn (by omega)), bnd_of as, bnd2_of t3, chk_eq _ (inb_nI (by omega) (by omega)), ix_nI (by omega), (ho.tr t4).rd (by decide), hv g hgn]
      simp only [nm_eq]
      rw [nI_1, or_bit _ hm _ (by omega)]
      by_cases q : nI (fl X t gr g (gr g 4)) = v g
      · rw [if_pos q] at w1
        rw [if_pos q]; exact w1
      · rw [if_neg q] at w1
        rw [if_neg q]; exact w1
  exact key (hs 3) 0 1000 μ (by omega) (by omega) Off.rf
theorem M_unlike_sp {X : Nat → List Int32 × List Int32 × List Int32} {hs : Nat → Nat} {gr : Nat → Nat → Nat} {tc : Nat} {ν : Mem} {s : Nat} {v : Nat → Int32} (h : HOK hs gr tc) (ht : tc ≤ 6) (hM : HM hs gr ν) (hX : XM tc X ν) (hsx : s < 4) (hv : ∀ g, g < hs 3 → rd ν 16 0 (40 * s + g) = v g) : ∃ w', M_unlike (nI s) ν = some (nI (unl (fun g => fl X (hs 2) gr g (gr g 4)) v (hs 3)), w') ∧ NX JS ν w' := by
  have hn := h.2.2.2.1
  have key : ∀ (k g F : Nat) (m : Mem), g + k = hs 3 → k < F → NX JS ν m → ∃ m', M_unlike_4L F (nI s) (nI (unl (fun g => fl X (hs 2) gr g (gr g 4)) v g)) (nI g) m = some (nI (unl (fun g => fl X (hs 2) gr g (gr g 4)) v (hs 3)), m') ∧ NX JS ν m' := by
    intro k
    induction k with
    | zero =>
      intro g F m hg hF ho
      obtain ⟨F, rfl⟩ : ∃ F', F = F' + 1 := ⟨F - 1, by omega⟩
      have : g = hs 3 := by omega
      subst this
      refine ⟨m, ?_, ho⟩
      show M_unlike_4 _ _ _ _ _ = _
      unfold M_unlike_4
      rw [(hM.nx ho (by decide)).2.2.2.1, if_neg (nI_nlt (by omega) (by omega))]
    | succ k ih =>
      intro g F m hg hF ho
      obtain ⟨F, rfl⟩ : ∃ F', F = F' + 1 := ⟨F - 1, by omega⟩
      have hgn : g < hs 3 := by omega
      have c5 := (h.2.2.2.2.1 g hgn).2.2.2.2
      have hM' := hM.nx ho (by decide)
      obtain ⟨w1, s1, s2⟩ := M_feelsOf_sp (((hX.2 (hs 2) h.2.2.1)).nx ho) (hM'.mro h ht hgn c5) (by have := (h.2.2.2.2.1 g hgn).1; show gr g 0 < _; omega)
      have hm : unl (fun g => fl X (hs 2) gr g (gr g 4)) v g < 64 := p64 (n := g) (by omega) (unl_lt _ _ g)
      obtain ⟨m', b1, b2⟩ := ih (g + 1) F w1 (by omega) (by omega) (ho.tr s2)
      rw [unl] at b1
      refine ⟨m', ?_, b2⟩
      have e16 : rd w1 16 0 (40 * s + g) = v g := by rw [(ho.tr s2).rd (by decide)]; exact hv g hgn
      show M_unlike_4 _ _ _ _ _ = _
      unfold M_unlike_4 M_unlike_43
      rw [hM'.2.2.2.1, if_pos (nI_lt hgn (by omega)), chk_eq _ (inb_nI (by omega) (by omega)), ix_nI (by omega), (hM'.2.2.2.2 g hgn).2.2.2.2, bnd2_of s1, litI 40, pk_mul, nI_add, chk_eq _ (inb_nI (by omega) (by omega)), ix_nI (by omega), e16]
      simp only [nm_eq]
      rw [nI_1, or_bit _ hm _ (by omega), or_s0 _ hm _ (by omega)]
      by_cases q : nI (fl X (hs 2) gr g (gr g 4)) = v g
      · rw [if_pos q] at b1
        rw [if_pos (show nI (feelV (X (hs 2)) (eG gr g (gr g 4) (gr (gr g 4) 2))) = v g from q)]; exact b1
      · rw [if_neg q] at b1
        rw [if_neg (show ¬ nI (feelV (X (hs 2)) (eG gr g (gr g 4) (gr (gr g 4) 2))) = v g from q)]; exact b1
  exact key (hs 3) 0 1000 ν (by omega) (by omega) NX.rf
/-! bits of what holds -/
def acb (P : Nat → Bool) : Nat → Int32 → Nat → Int32
  | 0, acc, _ => acc
  | j + 1, acc, v => acb P j (if P v = true then acc ||| shl 1 (nI v) else acc) (v + 1)
theorem acb_cong {P Q : Nat → Bool} : ∀ (j : Nat) (acc : Int32) (v : Nat), (∀ i, v ≤ i → i < v + j → P i = Q i) → acb P j acc v = acb Q j acc v
  | 0, _, _, _ => rfl
  | j + 1, acc, v, h => by
    rw [acb, acb, h v (Nat.le_refl v) (by omega)]
    exact acb_cong j _ (v + 1) (fun i a b => h i (by omega) (by omega))
theorem acb_no {P : Nat → Bool} : ∀ (j : Nat) (acc : Int32) (v : Nat), (∀ i, v ≤ i → i < v + j → P i = false) → acb P j acc v = acc
  | 0, _, _, _ => rfl
  | j + 1, acc, v, h => by
    rw [acb, h v (Nat.le_refl v) (by omega), if_neg (by decide)]
    exact acb_no j _ (v + 1) (fun i a b => h i (by omega) (by omega))
theorem shl_0 : ∀ v : Nat, v < 16 → shl 0 (nI v) = 0 := by decide +kernel
abbrev RMx : Mem → Mem → Prop := RM [4, 5, 6, 7, 8, 9, 10] ([4, 7, 8, 12] ++ SCM)
/-- the reference tries one thing behind the other -/
theorem M_tries_sp {J : Nat → Mem → Prop} {U : Nat → Nat} {ν : Mem} {s L was : Nat} {x4 x5 : Int32} (hL : L ≤ 15) (hw : was ≤ 15) (hU : ∀ v, v ≤ L → U v < 64) (hl : ∀ q v w, (v ≤ L ∨ v = was) → J q w → ∃ w1, M_lays x5 x4 (nI v) w = some w1 ∧ J v w1 ∧ RMx w w1) (hu : ∀ v w, v ≤ L → J v w → RMx ν w → ∃ w1, M_unlike (nI s) w = some (nI (U v), w1) ∧ J v w1 ∧ RMx w w1) : ∀ (j v F q : Nat) (acc : Int32) (w : Mem), v + j = L + 1 → j < F → J q w → RMx ν w → ∃ w', M_tells_236L F (nI s) x4 x5 (nI was) (nI L) acc (nI v) w = some (acb (fun v => decide (U v = 0)) j acc v, w') ∧ J was w' ∧ RMx ν w' := by
  intro j
  induction j with
  | zero =>
    intro v F q acc w hv hF hJ hr
    obtain ⟨F, rfl⟩ : ∃ F', F = F' + 1 := ⟨F - 1, by omega⟩
    obtain ⟨w1, a1, a2, a3⟩ := hl q was w (Or.inr rfl) hJ
    refine ⟨w1, ?_, a2, hr.tr a3⟩
    show M_tells_236 _ _ _ _ _ _ _ _ _ = _
    unfold M_tells_236
    rw [if_pos (nI_lt (by omega) (by omega)), bnd_of a1]
    rfl
  | succ j ih =>
    intro v F q acc w hv hF hJ hr
    obtain ⟨F, rfl⟩ : ∃ F', F = F' + 1 := ⟨F - 1, by omega⟩
    obtain ⟨w1, a1, a2, a3⟩ := hl q v w (Or.inl (by omega)) hJ
    obtain ⟨w2, b1, b2, b3⟩ := hu v w1 (by omega) a2 (hr.tr a3)
    have hU := hU v (by omega)
    obtain ⟨w', c1, c2, c3⟩ := ih (v + 1) F v (if U v = 0 then acc ||| shl 1 (nI v) else acc) w2 (by omega) (by omega) b2 ((hr.tr a3).tr b3)
    refine ⟨w', ?_, c2, c3⟩
    show M_tells_236 _ _ _ _ _ _ _ _ _ = _
    unfold M_tells_236 M_tells_268
    rw [if_neg (nI_nlt (by omega) (by omega)), bnd_of a1, bnd2_of b1]
    simp only [nm_eq]
    rw [nI_1, shl_0 v (by omega), Int32.or_zero, acb]
    by_cases z : U v = 0
    · rw [if_pos z] at c1
      rw [if_pos (show nI (U v) = 0 by rw [z]; rfl), c1, decide_eq_true z, if_pos rfl]
    · rw [if_neg z] at c1
      rw [if_neg (show ¬ nI (U v) = 0 from fun y => z ((nI_eq (b := 0) (by omega) (by omega)).mp y)), c1, decide_eq_false z, if_neg (by decide)]
/-! by which texts -/
theorem S_texts_sp {X : Nat → List Int32 × List Int32 × List Int32} {hs : Nat → Nat} {gr : Nat → Nat → Nat} {tc : Nat} {μ : Mem} {s : Nat} {v : Nat → Int32} (h : HOK hs gr tc) (ht : tc ≤ 6) (hA : HA 0 hs gr μ) (hX : XA tc X μ) (hv : ∀ g, g < hs 3 → rd μ 17 s g = v g) : ∃ m', S_textsBy s μ = some (acb (fun t => decide (unl (fun g => fl X t gr g (gr g 4)) v (hs 3) = 0)) tc 0 0, m') ∧ Off [8, 18, 19] μ m' := by
  have hn := h.2.2.2.1
  have key : ∀ (j t F : Nat) (acc : Int32) (m : Mem), t + j = tc → j < F → Off [8, 18, 19] μ m → ∃ m', S_textsBy_4L F s acc (nI t) m = some (acb (fun t => decide (unl (fun g => fl X t gr g (gr g 4)) v (hs 3) = 0)) j acc t, m') ∧ Off [8, 18, 19] μ m' := by
    intro j
    induction j with
    | zero =>
      intro t F acc m hj hF ho
      obtain ⟨F, rfl⟩ : ∃ F', F = F' + 1 := ⟨F - 1, by omega⟩
      refine ⟨m, ?_, ho⟩
      show S_textsBy_4 _ _ _ _ _ = _
      unfold S_textsBy_4
      rw [ho.rd (by decide), hX.1, if_neg (nI_nlt (by omega) (by omega))]
      rfl
    | succ j ih =>
      intro t F acc m hj hF ho
      obtain ⟨F, rfl⟩ : ∃ F', F = F' + 1 := ⟨F - 1, by omega⟩
      have hX' : XA tc X m := hX.cg (ho.rd (by decide) _ _) (fun f i j hf _ => ho.rd (by revert f; decide) _ _)
      obtain ⟨m1, a1, a2⟩ := S_otherwise_sp (t := t) (s := s) (v := v) h (hA.off ho (by decide) (by decide)) hX' (by omega) (fun g hg => by rw [ho.rd (by decide)]; exact hv g hg)
      have hU : unl (fun g => fl X t gr g (gr g 4)) v (hs 3) < 64 := p64 hn (unl_lt _ _ _)
      obtain ⟨m', c1, c2⟩ := ih (t + 1) F (if unl (fun g => fl X t gr g (gr g 4)) v (hs 3) = 0 then acc ||| shl 1 (nI t) else acc) m1 (by omega) (by omega) (ho.tr a2)
      refine ⟨m', ?_, c2⟩
      show S_textsBy_4 _ _ _ _ _ = _
      unfold S_textsBy_4 S_textsBy_32
      rw [hX'.1, if_pos (nI_lt (by omega) (by omega)), chk_eq _ (inb_nI (by omega) (by omega)), ix_nI (by omega), bnd2_of a1]
      simp only [nm_eq]
      rw [nI_1, acb]
      by_cases z : unl (fun g => fl X t gr g (gr g 4)) v (hs 3) = 0
      · rw [if_pos z] at c1
        rw [if_pos (show nI (unl (fun g => fl X t gr g (gr g 4)) v (hs 3)) = 0 by rw [z]; rfl), c1, decide_eq_true z, if_pos rfl]
      · rw [if_neg z] at c1
        rw [if_neg (show ¬ nI (unl (fun g => fl X t gr g (gr g 4)) v (hs 3)) = 0 from fun y => z ((nI_eq (b := 0) (by omega) (by omega)).mp y)), c1, decide_eq_false z, if_neg (by decide)]
  exact key tc 0 1000 0 μ (by omega) (by omega) Off.rf
