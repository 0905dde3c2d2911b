/-! ===== the class's reading, method by method, against the grammar ===== -/
/-- which call reads w -/
def clF (F L i w o : Nat) (μ : Mem) : Option (Int32 × Mem) := match w with
  | 7 => Re_readsAny_12L (Re_rec F) L (nI o) (nI i) μ
  | 8 => Re_readsAll_12L (Re_rec F) L (nI o) (nI i) μ
  | 9 => Re_readsSum_12L (Re_rec F) L (nI o) (nI i) μ
  | 10 => Re_readsTerm_12L (Re_rec F) L (nI o) (nI i) μ
  | w => Re_rec F w (nI o) μ
def rkF (w o : Nat) : Nat := match w with
  | 7 => 7 * (5 - o) + 5
  | 8 => 7 * (5 - o) + 4
  | 9 => 7 * (5 - o) + 1
  | 10 => 7 * (5 - o)
  | w => 7 * (5 - o) + (6 - w)
/-- where it ends: at the fault's token with 0, or behind what was read with 1, its codes laid -/
def RP (T : Nat → Int32) (Q : Nat → Nat) (N t l : Nat) (μ : Mem) (r : Nat × Option (List Int32)) (b : Int32) (μ' : Mem) : Prop := Keep t l μ μ' ∧ match r.2 with
  | none => b = 0 ∧ rd μ' 9 0 3 = nI r.1 ∧ ∀ j, j < N → rd μ' 12 0 j = T j
  | some cs => b = 1 ∧ RS T Q N t r.1 (l + cs.length) μ' ∧ Hold t l cs μ'
theorem RS.tk {T : Nat → Int32} {Q : Nat → Nat} {N t k l : Nat} {μ : Mem} (h : RS T Q N t k l μ) : rd μ 9 0 4 = T k := h.2.2.2.2.1
theorem RP.no {T : Nat → Int32} {Q : Nat → Nat} {N t k l : Nat} {μ : Mem} (h : RS T Q N t k l μ) : RP T Q N t l μ (k, none) 0 μ := ⟨Keep.rf, rfl, h.2.2.2.1, fun j hj => (h.2.2.2.2.2 j hj).1⟩
theorem RP.nil {T : Nat → Int32} {Q : Nat → Nat} {N t k l : Nat} {μ : Mem} (h : RS T Q N t k l μ) : RP T Q N t l μ (k, some []) 1 μ := ⟨Keep.rf, rfl, h, fun i hi => by simp at hi⟩
theorem RP.fail {T : Nat → Int32} {Q : Nat → Nat} {N t k l l' : Nat} {μ μ1 μ' : Mem} {b : Int32} (h : RP T Q N t l' μ1 (k, none) b μ') (k1 : Keep t l μ μ1) (hl : l ≤ l') : RP T Q N t l μ (k, none) b μ' := ⟨k1.tr h.1 hl, h.2⟩
theorem RP.more {T : Nat → Int32} {Q : Nat → Nat} {N t k l : Nat} {μ μ1 μ' : Mem} {b : Int32} {c1 c2 : List Int32} (h1 : Keep t l μ μ1) (hh : Hold t l c1 μ1) (h : RP T Q N t (l + c1.length) μ1 (k, some c2) b μ') : RP T Q N t l μ (k, some (c1 ++ c2)) b μ' := by
  obtain ⟨g1, g2, g3, g4⟩ := h
  refine ⟨h1.tr g1 (by omega), g2, ?_, (hh.keep g1 (Nat.le_refl _)).app g4⟩
  rw [List.length_append, ← Nat.add_assoc]
  exact g3
set_option maxHeartbeats 2000000 in
theorem Re_sp {T : Nat → Int32} {Q : Nat → Nat} {N t : Nat} (hT : TokN T Q N) : ∀ (n w o k l F L i : Nat) (r : Nat × Option (List Int32)) (μ : Mem), k < N → o ≤ 5 → l ≤ k → w ≤ 10 → gr T Q n w o k = some r → RS T Q N t k l μ → rkF w o < F → N - k < L → i ≤ k → ∃ b μ', clF F L i w o μ = some (b, μ') ∧ RP T Q N t l μ r b μ' := by
  have hN : N ≤ 161 := hT.2.1
  intro n
  induction n with
  | zero => intro w o k l F L i r μ h1 h2 h3 h4 h; cases h
  | succ n ih =>
    intro w o k l F L i r μ hk ho hl hw h hS hF hL hi
    have nxt : ∀ {t : Int32}, T k = t → t ≠ 13 → t ≠ 14 → k + 1 < N := fun e h1 h2 => hT.lt hk (by rw [e]; exact h1) (by rw [e]; exact h2)
    -- a part (a call), then a loop: the method's body is 'first, else second'
    have two : ∀ {a b : Nat} (M : Option (Int32 × Mem)), a < 7 → 7 ≤ b → b ≤ 10 → rkF a o < F - 1 → rkF b o < F - 1 →
        M = (bnd2 (clF (F - 1) 1000 0 a o μ) fun r2 μ3 => if r2 = 0 then some (0, μ3) else clF (F - 1) 1000 0 b o μ3) →
        (sq (gr T Q n a o k) fun k1 c1 => sq (gr T Q n b o k1) fun k2 c2 => some (k2, some (c1 ++ c2))) = some r → ∃ b μ', M = some (b, μ') ∧ RP T Q N t l μ r b μ' := by
      intro a b M ha hb hb2 hra hrb hM h
      rw [hM]
      rcases sq_some h with ⟨k1, e1, rfl⟩ | ⟨k1, c1, e1, h⟩
      · obtain ⟨b1, m1, q1, q2⟩ := ih a o k l (F - 1) 1000 0 _ μ hk ho hl (by omega) e1 hS hra (by omega) (by omega)
        refine ⟨0, m1, ?_, ?_⟩
        · rw [bnd2_of q1, if_pos q2.2.1]
        · have := q2.2.1; subst this; exact q2
      · obtain ⟨g1, g2, g3⟩ := grm_ok hT n a o k _ hk e1
        obtain ⟨g4, -, -⟩ := g3 c1 rfl
        dsimp only at g1 g2 g4
        obtain ⟨b1, m1, q1, q2⟩ := ih a o k l (F - 1) 1000 0 _ μ hk ho hl (by omega) e1 hS hra (by omega) (by omega)
        obtain ⟨q3, q4, q5, q6⟩ := q2
        rw [bnd2_of q1, if_neg (by rw [q4]; decide)]
        rcases sq_some h with ⟨k2, e2, rfl⟩ | ⟨k2, c2, e2, h⟩
        · obtain ⟨b2, m2, p1, p2⟩ := ih b o k1 (l + c1.length) (F - 1) 1000 0 _ m1 g1 ho (by omega) hb2 e2 q5 hrb (by omega) (by omega)
          exact ⟨b2, m2, p1, p2.fail q3 (by omega)⟩
        · obtain ⟨b2, m2, p1, p2⟩ := ih b o k1 (l + c1.length) (F - 1) 1000 0 _ m1 g1 ho (by omega) hb2 e2 q5 hrb (by omega) (by omega)
          cases h
          exact ⟨b2, m2, p1, RP.more q3 q6 p2⟩
    -- a loop's round, with the sign's code
    have round : ∀ {a : Nat} {c : Int32} (M : Option (Int32 × Mem)), a < 7 → rkF a o < F → 0 < L → k + 1 < N →
        M = (bnd (Re_pass μ) fun μ4 => bnd2 (clF F 1000 0 a o μ4) fun r6 μ7 => if r6 = 0 then some (0, μ7) else bnd (Re_put c μ7) fun μ10 => clF F (L - 1) (i + 1) w o μ10) →
        (sq (gr T Q n a o (k + 1)) fun k1 c1 => sq (gr T Q n w o k1) fun k2 c2 => some (k2, some (c1 ++ ([c] ++ c2)))) = some r → ∃ b μ', M = some (b, μ') ∧ RP T Q N t l μ r b μ' := by
      intro a c M ha hra hL0 hk1 hM h
      rw [hM]
      obtain ⟨m0, p0, hS0, k0⟩ := Re_pass_sp hN hS hk1
      rw [bnd_of p0]
      have k0' : Keep t l μ m0 := ⟨k0.1, k0.2.1, fun i hi => k0.2.2 i (by omega)⟩
      rcases sq_some h with ⟨k1, e1, rfl⟩ | ⟨k1, c1, e1, h⟩
      · obtain ⟨b1, m1, q1, q2⟩ := ih a o (k + 1) l F 1000 0 _ m0 hk1 ho (by omega) (by omega) e1 hS0 hra (by omega) (by omega)
        refine ⟨0, m1, ?_, ?_⟩
        · rw [bnd2_of q1, if_pos q2.2.1]
        · have := q2.2.1; subst this; exact q2.fail k0' (Nat.le_refl _)
      · obtain ⟨g1, g2, g3⟩ := grm_ok hT n a o (k + 1) _ hk1 e1
        obtain ⟨g4, -, -⟩ := g3 c1 rfl
        dsimp only at g1 g2 g4
        obtain ⟨b1, m1, q1, q2⟩ := ih a o (k + 1) l F 1000 0 _ m0 hk1 ho (by omega) (by omega) e1 hS0 hra (by omega) (by omega)
        obtain ⟨q3, q4, q5, q6⟩ := q2
        rw [bnd2_of q1, if_neg (by rw [q4]; decide)]
        obtain ⟨m2, s1, s2, s3, s4⟩ := Re_put_sp c q5 (by omega)
        rw [bnd_of s1]
        have kk : Keep t l μ m2 := (k0'.tr q3 (Nat.le_refl _)).tr s3 (by omega)
        have hh : Hold t l (c1 ++ [c]) m2 := (q6.keep s3 (Nat.le_refl _)).app s4
        have hl2 : (c1 ++ [c]).length = c1.length + 1 := by simp
        rcases sq_some h with ⟨k2, e2, rfl⟩ | ⟨k2, c2, e2, h⟩
        · obtain ⟨b2, m3, p1, p2⟩ := ih w o k1 (l + c1.length + 1) F (L - 1) (i + 1) _ m2 g1 ho (by omega) hw e2 s2 hF (by omega) (by omega)
          exact ⟨b2, m3, p1, p2.fail kk (by omega)⟩
        · obtain ⟨b2, m3, p1, p2⟩ := ih w o k1 (l + c1.length + 1) F (L - 1) (i + 1) _ m2 g1 ho (by omega) hw e2 s2 hF (by omega) (by omega)
          cases h
          refine ⟨b2, m3, p1, ?_⟩
          rw [show c1 ++ ([c] ++ c2) = (c1 ++ [c]) ++ c2 by simp]
          exact RP.more kk hh (by rw [hl2, ← Nat.add_assoc]; exact p2)
    match w, hw, h, hF, @round with
    | 0, hw, h, hF, round =>
      obtain ⟨F, rfl⟩ : ∃ F', F = F' + 1 := ⟨F - 1, by omega⟩
      have e : rkF 0 o = 7 * (5 - o) + 6 := rfl
      exact two (a := 1) (b := 7) _ (by decide) (by decide) (by decide) (by have : rkF 1 o = 7 * (5 - o) + 5 := rfl; omega) (by have : rkF 7 o = 7 * (5 - o) + 5 := rfl; omega) rfl h
    | 1, hw, h, hF, round =>
      obtain ⟨F, rfl⟩ : ∃ F', F = F' + 1 := ⟨F - 1, by omega⟩
      have e : rkF 1 o = 7 * (5 - o) + 5 := rfl
      exact two (a := 2) (b := 8) _ (by decide) (by decide) (by decide) (by have : rkF 2 o = 7 * (5 - o) + 4 := rfl; omega) (by have : rkF 8 o = 7 * (5 - o) + 4 := rfl; omega) rfl h
    | 4, hw, h, hF, round =>
      obtain ⟨F, rfl⟩ : ∃ F', F = F' + 1 := ⟨F - 1, by omega⟩
      have e : rkF 4 o = 7 * (5 - o) + 2 := rfl
      exact two (a := 5) (b := 9) _ (by decide) (by decide) (by decide) (by have : rkF 5 o = 7 * (5 - o) + 1 := rfl; omega) (by have : rkF 9 o = 7 * (5 - o) + 1 := rfl; omega) rfl h
    | 5, hw, h, hF, round =>
      obtain ⟨F, rfl⟩ : ∃ F', F = F' + 1 := ⟨F - 1, by omega⟩
      have e : rkF 5 o = 7 * (5 - o) + 1 := rfl
      exact two (a := 6) (b := 10) _ (by decide) (by decide) (by decide) (by have : rkF 6 o = 7 * (5 - o) := rfl; omega) (by have : rkF 10 o = 7 * (5 - o) := rfl; omega) rfl h
    | 2, hw, h, hF, round =>
      obtain ⟨F, rfl⟩ : ∃ F', F = F' + 1 := ⟨F - 1, by omega⟩
      have e : rkF 2 o = 7 * (5 - o) + 4 := rfl
      replace h : (if T k = 11 then (if o < 5 then sq (gr T Q n 2 (o + 1) (k + 1)) fun k1 c1 => some (k1, some (c1 ++ [-11])) else some (k, none)) else gr T Q n 3 o k) = some r := h
      show ∃ b μ', Re_readsNot (Re_rec F) (nI o) μ = some (b, μ') ∧ _
      unfold Re_readsNot
      rw [hS.tk]
      by_cases h1 : T k = 11
      · rw [if_pos h1] at h ⊢
        by_cases h2 : o < 5
        · rw [if_pos h2] at h
          rw [litI 5, if_pos (nI_lt h2 (by omega)), nI_1]
          have hk1 := nxt h1 (by decide) (by decide)
          obtain ⟨m0, p0, hS0, k0⟩ := Re_pass_sp hN hS hk1
          rw [bnd_of p0]
          have k0' : Keep t l μ m0 := ⟨k0.1, k0.2.1, fun i hi => k0.2.2 i (by omega)⟩
          have er : rkF 2 (o + 1) = 7 * (5 - (o + 1)) + 4 := rfl
          rcases sq_some h with ⟨k1, e1, rfl⟩ | ⟨k1, c1, e1, h⟩
          · obtain ⟨b1, m1, q1, q2⟩ := ih 2 (o + 1) (k + 1) l F 1000 0 _ m0 hk1 (by omega) (by omega) (by decide) e1 hS0 (by omega) (by omega) (by omega)
            have q1 : Re_rec F 2 (nI (o + 1)) m0 = some (b1, m1) := q1
            refine ⟨0, m1, ?_, ?_⟩
            · rw [bnd2_of q1, if_pos q2.2.1]
            · have := q2.2.1; subst this; exact q2.fail k0' (Nat.le_refl _)
          · obtain ⟨b1, m1, q1, q2⟩ := ih 2 (o + 1) (k + 1) l F 1000 0 _ m0 hk1 (by omega) (by omega) (by decide) e1 hS0 (by omega) (by omega) (by omega)
            have q1 : Re_rec F 2 (nI (o + 1)) m0 = some (b1, m1) := q1
            obtain ⟨g1, g2, g3⟩ := grm_ok hT n 2 (o + 1) (k + 1) _ hk1 e1
            obtain ⟨g4, -, -⟩ := g3 c1 rfl
            dsimp only at g1 g2 g4
            obtain ⟨q3, q4, q5, q6⟩ := q2
            obtain ⟨m2, s1, s2, s3, s4⟩ := Re_put_sp (-11) q5 (by omega)
            cases h
            refine ⟨1, m2, ?_, ⟨(k0'.tr q3 (Nat.le_refl _)).tr s3 (by omega), rfl, ?_, (q6.keep s3 (Nat.le_refl _)).app s4⟩⟩
            · rw [bnd2_of q1, if_neg (by rw [q4]; decide), bnd_of s1]
            · rw [List.length_append, ← Nat.add_assoc]; exact s2
        · rw [if_neg h2] at h
          cases h
          rw [litI 5, if_neg (nI_nlt (by omega) (by omega))]
          exact ⟨0, μ, rfl, RP.no hS⟩
      · rw [if_neg h1] at h ⊢
        obtain ⟨b1, m1, q1, q2⟩ := ih 3 o k l F 1000 0 _ μ hk ho hl (by decide) h hS (by have : rkF 3 o = 7 * (5 - o) + 3 := rfl; omega) (by omega) (by omega)
        have q1 : Re_rec F 3 (nI o) μ = some (b1, m1) := q1
        have hb : b1 = 0 ∨ b1 = 1 := by
          obtain ⟨-, q2⟩ := q2
          match r, q2 with
          | (_, none), q2 => exact Or.inl q2.1
          | (_, some _), q2 => exact Or.inr q2.1
        exact ⟨b1, m1, by rw [bnd2_of q1, chk_eq _ hb], q2⟩
    | 3, hw, h, hF, round =>
      obtain ⟨F, rfl⟩ : ∃ F', F = F' + 1 := ⟨F - 1, by omega⟩
      have e : rkF 3 o = 7 * (5 - o) + 3 := rfl
      have e4 : rkF 4 o = 7 * (5 - o) + 2 := rfl
      show ∃ b μ', Re_readsLess (Re_rec F) (nI o) μ = some (b, μ') ∧ _
      unfold Re_readsLess
      rcases sq_some h with ⟨k1, e1, rfl⟩ | ⟨k1, c1, e1, h⟩
      · obtain ⟨b1, m1, q1, q2⟩ := ih 4 o k l F 1000 0 _ μ hk ho hl (by decide) e1 hS (by omega) (by omega) (by omega)
        have q1 : Re_rec F 4 (nI o) μ = some (b1, m1) := q1
        refine ⟨0, m1, ?_, ?_⟩
        · rw [bnd2_of q1, if_pos q2.2.1]
        · have := q2.2.1; subst this; exact q2
      · obtain ⟨g1, g2, g3⟩ := grm_ok hT n 4 o k _ hk e1
        obtain ⟨g4, -, -⟩ := g3 c1 rfl
        dsimp only at g1 g2 g4
        obtain ⟨b1, m1, q1, q2⟩ := ih 4 o k l F 1000 0 _ μ hk ho hl (by decide) e1 hS (by omega) (by omega) (by omega)
        have q1 : Re_rec F 4 (nI o) μ = some (b1, m1) := q1
        obtain ⟨q3, q4, q5, q6⟩ := q2
        rw [bnd2_of q1, if_neg (by rw [q4]; decide)]
        simp only [nm_eq]
        rw [q5.tk]
        have tail : (T k1 = 60 ∨ T k1 = 61) → ∃ b μ', Re_readsLess_29 (Re_rec F) (nI o) (T k1) m1 = some (b, μ') ∧ RP T Q N t l μ r b μ' := by
          intro h1
          rw [if_pos h1] at h
          have hk1 : k1 + 1 < N := hT.lt g1 (by rcases h1 with q | q <;> rw [q] <;> decide) (by rcases h1 with q | q <;> rw [q] <;> decide)
          unfold Re_readsLess_29
          obtain ⟨m0, p0, hS0, k0⟩ := Re_pass_sp hN q5 hk1
          rw [bnd_of p0]
          have k0' : Keep t (l + c1.length) m1 m0 := ⟨k0.1, k0.2.1, fun i hi => k0.2.2 i (by omega)⟩
          rcases sq_some h with ⟨k2, e2, rfl⟩ | ⟨k2, c2, e2, h⟩
          · obtain ⟨b2, m2, p1, p2⟩ := ih 4 o (k1 + 1) (l + c1.length) F 1000 0 _ m0 hk1 ho (by omega) (by decide) e2 hS0 (by omega) (by omega) (by omega)
            have p1 : Re_rec F 4 (nI o) m0 = some (b2, m2) := p1
            refine ⟨0, m2, ?_, ?_⟩
            · rw [bnd2_of p1, if_pos p2.2.1]
            · have := p2.2.1; subst this; exact p2.fail (q3.tr k0' (by omega)) (by omega)
          · obtain ⟨b2, m2, p1, p2⟩ := ih 4 o (k1 + 1) (l + c1.length) F 1000 0 _ m0 hk1 ho (by omega) (by decide) e2 hS0 (by omega) (by omega) (by omega)
            have p1 : Re_rec F 4 (nI o) m0 = some (b2, m2) := p1
            obtain ⟨j1, j2, j3⟩ := grm_ok hT n 4 o (k1 + 1) _ hk1 e2
            obtain ⟨j4, -, -⟩ := j3 c2 rfl
            dsimp only at j1 j2 j4
            obtain ⟨p3, p4, p5, p6⟩ := p2
            obtain ⟨m3, s1, s2, s3, s4⟩ := Re_put_sp (-(T k1)) p5 (by omega)
            cases h
            refine ⟨1, m3, ?_, ?_⟩
            · rw [bnd2_of p1, if_neg (by rw [p4]; decide), bnd_of s1]
            · refine RP.more (q3.tr k0' (by omega)) (q6.keep k0' (Nat.le_refl _)) ⟨p3.tr s3 (by omega), rfl, ?_, (p6.keep s3 (Nat.le_refl _)).app s4⟩
              rw [List.length_append, ← Nat.add_assoc]
              exact s2
        by_cases h60 : T k1 = 60
        · rw [if_pos h60]
          exact tail (Or.inl h60)
        · rw [if_neg h60]
          by_cases h61 : T k1 = 61
          · rw [if_pos h61]
            exact tail (Or.inr h61)
          · rw [if_neg h61]
            rw [if_neg (fun q => q.elim h60 h61)] at h
            cases h
            exact ⟨1, m1, rfl, q3, rfl, q5, q6⟩
    | 6, hw, h, hF, round =>
      obtain ⟨F, rfl⟩ : ∃ F', F = F' + 1 := ⟨F - 1, by omega⟩
      have e : rkF 6 o = 7 * (5 - o) := rfl
      replace h : (if T k = 12 then some (k + 1, some [nI (Q k)])
        else if T k < 6 then some (k + 1, some [(-1) - T k])
        else if T k = 45 then (if o < 5 then sq (gr T Q n 6 (o + 1) (k + 1)) fun k1 c1 => some (k1, some (c1 ++ [-100])) else some (k, none))
        else if T k = 40 then (if o < 5 then sq (gr T Q n 0 (o + 1) (k + 1)) fun k1 c1 => (if T k1 = 41 then some (k1 + 1, some c1) else some (k1, none)) else some (k, none))
        else some (k, none)) = some r := h
      show ∃ b μ', Re_readsOne (Re_rec F) (nI o) μ = some (b, μ') ∧ _
      have leaf : ∀ c : Int32, k + 1 < N → r = (k + 1, some [c]) → ∃ b μ', Re_readsOne_49 (Re_rec F) c μ = some (b, μ') ∧ RP T Q N t l μ r b μ' := by
        intro c hk1 er
        subst er
        obtain ⟨m1, s1, s2, s3, s4⟩ := Re_put_sp c hS (by omega)
        obtain ⟨m2, p1, p2, p3⟩ := Re_pass_sp hN s2 hk1
        have p3' : Keep t (l + 1) m1 m2 := ⟨p3.1, p3.2.1, fun i hi => p3.2.2 i (by omega)⟩
        refine ⟨1, m2, ?_, s3.tr p3' (by omega), rfl, p2, s4.keep p3' (Nat.le_refl _)⟩
        unfold Re_readsOne_49
        rw [bnd_of s1, bnd_of p1]
      unfold Re_readsOne
      simp only [hS.tk]
      by_cases h1 : T k = 12
      · rw [if_pos h1] at h ⊢
        cases h
        have hk1 := nxt h1 (by decide) (by decide)
        unfold Re_readsOne_18
        rw [hS.tk, if_pos h1, hS.2.2.2.1, chk_eq _ (inb_nI (by omega) (by omega)), ix_nI (by omega), (hS.2.2.2.2.2 k hk).2 h1]
        exact leaf _ hk1 rfl
      · rw [if_neg h1] at h ⊢
        by_cases h2 : T k < 6
        · rw [if_pos h2] at h ⊢
          cases h
          have hk1 : k + 1 < N := hT.lt hk (fun q => by rw [q] at h2; exact absurd h2 (by decide)) (fun q => by rw [q] at h2; exact absurd h2 (by decide))
          unfold Re_readsOne_18
          rw [hS.tk, if_neg h1]
          exact leaf _ hk1 rfl
        · rw [if_neg h2] at h ⊢
          by_cases h3 : T k = 45
          · rw [if_pos h3] at h ⊢
            unfold Re_readsOne_76
            by_cases h4 : o < 5
            · rw [if_pos h4] at h
              rw [litI 5, if_pos (nI_lt h4 (by omega))]
              have hk1 := nxt h3 (by decide) (by decide)
              have ee : Re_eats 40 μ = some (0, μ) := by
                unfold Re_eats
                rw [hS.tk, if_neg (by rw [h3]; decide)]
              rw [bnd2_of ee, if_pos rfl, nI_1]
              obtain ⟨m0, p0, hS0, k0⟩ := Re_pass_sp hN hS hk1
              rw [bnd_of p0]
              have k0' : Keep t l μ m0 := ⟨k0.1, k0.2.1, fun i hi => k0.2.2 i (by omega)⟩
              have er : rkF 6 (o + 1) = 7 * (5 - (o + 1)) := rfl
              rcases sq_some h with ⟨k1, e1, rfl⟩ | ⟨k1, c1, e1, h⟩
              · obtain ⟨b1, m1, q1, q2⟩ := ih 6 (o + 1) (k + 1) l F 1000 0 _ m0 hk1 (by omega) (by omega) (by decide) e1 hS0 (by omega) (by omega) (by omega)
                have q1 : Re_rec F 6 (nI (o + 1)) m0 = some (b1, m1) := q1
                refine ⟨0, m1, ?_, ?_⟩
                · rw [bnd2_of q1, if_pos q2.2.1]
                · have := q2.2.1; subst this; exact q2.fail k0' (Nat.le_refl _)
              · obtain ⟨b1, m1, q1, q2⟩ := ih 6 (o + 1) (k + 1) l F 1000 0 _ m0 hk1 (by omega) (by omega) (by decide) e1 hS0 (by omega) (by omega) (by omega)
                have q1 : Re_rec F 6 (nI (o + 1)) m0 = some (b1, m1) := q1
                obtain ⟨g1, g2, g3⟩ := grm_ok hT n 6 (o + 1) (k + 1) _ hk1 e1
                obtain ⟨g4, -, -⟩ := g3 c1 rfl
                dsimp only at g1 g2 g4
                obtain ⟨q3, q4, q5, q6⟩ := q2
                obtain ⟨m2, s1, s2, s3, s4⟩ := Re_put_sp (-100) q5 (by omega)
                cases h
                refine ⟨1, m2, ?_, ⟨(k0'.tr q3 (Nat.le_refl _)).tr s3 (by omega), rfl, ?_, (q6.keep s3 (Nat.le_refl _)).app s4⟩⟩
                · rw [bnd2_of q1, if_neg (by rw [q4]; decide), bnd_of s1]
                · rw [List.length_append, ← Nat.add_assoc]; exact s2
            · rw [if_neg h4] at h
              cases h
              rw [litI 5, if_neg (nI_nlt (by omega) (by omega))]
              exact ⟨0, μ, rfl, RP.no hS⟩
          · rw [if_neg h3] at h ⊢
            by_cases h5 : T k = 40
            · rw [if_pos h5] at h ⊢
              unfold Re_readsOne_76
              by_cases h4 : o < 5
              · rw [if_pos h4] at h
                rw [litI 5, if_pos (nI_lt h4 (by omega))]
                have hk1 := nxt h5 (by decide) (by decide)
                obtain ⟨m0, p0, hS0, k0⟩ := Re_pass_sp hN hS hk1
                have k0' : Keep t l μ m0 := ⟨k0.1, k0.2.1, fun i hi => k0.2.2 i (by omega)⟩
                have ee : Re_eats 40 μ = some (1, m0) := by
                  unfold Re_eats
                  rw [hS.tk, if_pos h5, bnd_of p0]
                rw [bnd2_of ee, if_neg (by decide), nI_1]
                have er : rkF 0 (o + 1) = 7 * (5 - (o + 1)) + 6 := rfl
                rcases sq_some h with ⟨k1, e1, rfl⟩ | ⟨k1, c1, e1, h⟩
                · obtain ⟨b1, m1, q1, q2⟩ := ih 0 (o + 1) (k + 1) l F 1000 0 _ m0 hk1 (by omega) (by omega) (by decide) e1 hS0 (by omega) (by omega) (by omega)
                  have q1 : Re_rec F 0 (nI (o + 1)) m0 = some (b1, m1) := q1
                  refine ⟨0, m1, ?_, ?_⟩
                  · rw [bnd2_of q1, if_pos q2.2.1]
                  · have := q2.2.1; subst this; exact q2.fail k0' (Nat.le_refl _)
                · obtain ⟨b1, m1, q1, q2⟩ := ih 0 (o + 1) (k + 1) l F 1000 0 _ m0 hk1 (by omega) (by omega) (by decide) e1 hS0 (by omega) (by omega) (by omega)
                  have q1 : Re_rec F 0 (nI (o + 1)) m0 = some (b1, m1) := q1
                  obtain ⟨g1, g2, g3⟩ := grm_ok hT n 0 (o + 1) (k + 1) _ hk1 e1
                  obtain ⟨g4, -, -⟩ := g3 c1 rfl
                  dsimp only at g1 g2 g4
                  obtain ⟨q3, q4, q5, q6⟩ := q2
                  rw [bnd2_of q1, if_neg (by rw [q4]; decide)]
                  by_cases h6 : T k1 = 41
                  · rw [if_pos h6] at h
                    cases h
                    have hk2 : k1 + 1 < N := hT.lt g1 (by rw [h6]; decide) (by rw [h6]; decide)
                    obtain ⟨m2, s1, s2, s3⟩ := Re_pass_sp hN q5 hk2
                    have s3' : Keep t (l + c1.length) m1 m2 := ⟨s3.1, s3.2.1, fun i hi => s3.2.2 i (by omega)⟩
                    have e2 : Re_eats 41 m1 = some (1, m2) := by
                      unfold Re_eats
                      rw [q5.tk, if_pos h6, bnd_of s1]
                    exact ⟨1, m2, by rw [bnd2_of e2, if_neg (by decide)], (k0'.tr q3 (Nat.le_refl _)).tr s3' (by omega), rfl, s2, q6.keep s3' (Nat.le_refl _)⟩
                  · rw [if_neg h6] at h
                    cases h
                    have e2 : Re_eats 41 m1 = some (0, m1) := by
                      unfold Re_eats
                      rw [q5.tk, if_neg h6]
                    exact ⟨0, m1, by rw [bnd2_of e2, if_pos rfl], k0'.tr q3 (Nat.le_refl _), rfl, q5.2.2.2.1, fun j hj => (q5.2.2.2.2.2 j hj).1⟩
              · rw [if_neg h4] at h
                cases h
                rw [litI 5, if_neg (nI_nlt (by omega) (by omega))]
                exact ⟨0, μ, rfl, RP.no hS⟩
            · rw [if_neg h5] at h ⊢
              cases h
              exact ⟨0, μ, rfl, RP.no hS⟩
    | 7, hw, h, hF, round =>
      obtain ⟨L, rfl⟩ : ∃ L', L = L' + 1 := ⟨L - 1, by omega⟩
      have e : rkF 7 o = 7 * (5 - o) + 5 := rfl
      replace h : (if T k = 9 then sq (gr T Q n 1 o (k + 1)) fun k1 c1 => sq (gr T Q n 7 o k1) fun k2 c2 => some (k2, some (c1 ++ ([-9] ++ c2))) else some (k, some [])) = some r := h
      show ∃ b μ', Re_readsAny_12 (Re_rec F) (Re_readsAny_12L (Re_rec F) L) (nI o) (nI i) μ = some (b, μ') ∧ _
      unfold Re_readsAny_12
      rw [hS.tk]
      by_cases h1 : T k = 9
      · have hk1 := nxt h1 (by decide) (by decide)
        rw [if_pos h1] at h ⊢
        rw [litI 160, if_pos (nI_lt (by omega) (by omega))]
        simp only [nm_eq]
        rw [nI_1]
        exact round (a := 1) (c := -9) _ (by decide) (by have : rkF 1 o = 7 * (5 - o) + 5 := rfl; omega) (by omega) hk1 rfl h
      · rw [if_neg h1] at h ⊢
        cases h
        exact ⟨1, μ, by split <;> rfl, RP.nil hS⟩
    | 8, hw, h, hF, round =>
      obtain ⟨L, rfl⟩ : ∃ L', L = L' + 1 := ⟨L - 1, by omega⟩
      have e : rkF 8 o = 7 * (5 - o) + 4 := rfl
      replace h : (if T k = 10 then sq (gr T Q n 2 o (k + 1)) fun k1 c1 => sq (gr T Q n 8 o k1) fun k2 c2 => some (k2, some (c1 ++ ([-10] ++ c2))) else some (k, some [])) = some r := h
      show ∃ b μ', Re_readsAll_12 (Re_rec F) (Re_readsAll_12L (Re_rec F) L) (nI o) (nI i) μ = some (b, μ') ∧ _
      unfold Re_readsAll_12
      rw [hS.tk]
      by_cases h1 : T k = 10
      · have hk1 := nxt h1 (by decide) (by decide)
        rw [if_pos h1] at h ⊢
        rw [litI 160, if_pos (nI_lt (by omega) (by omega))]
        simp only [nm_eq]
        rw [nI_1]
        exact round (a := 2) (c := -10) _ (by decide) (by have : rkF 2 o = 7 * (5 - o) + 4 := rfl; omega) (by omega) hk1 rfl h
      · rw [if_neg h1] at h ⊢
        cases h
        exact ⟨1, μ, by split <;> rfl, RP.nil hS⟩
    | 9, hw, h, hF, round =>
      obtain ⟨L, rfl⟩ : ∃ L', L = L' + 1 := ⟨L - 1, by omega⟩
      have e : rkF 9 o = 7 * (5 - o) + 1 := rfl
      replace h : (if T k = 43 ∨ T k = 45 then sq (gr T Q n 5 o (k + 1)) fun k1 c1 => sq (gr T Q n 9 o k1) fun k2 c2 => some (k2, some (c1 ++ ([-(T k)] ++ c2))) else some (k, some [])) = some r := h
      show ∃ b μ', Re_readsSum_12 (Re_rec F) (Re_readsSum_12L (Re_rec F) L) (nI o) (nI i) μ = some (b, μ') ∧ _
      have go : (T k = 43 ∨ T k = 45) → ∃ b μ', Re_readsSum_37 (Re_rec F) (Re_readsSum_12L (Re_rec F) L) (nI o) (nI i) μ = some (b, μ') ∧ RP T Q N t l μ r b μ' := by
        intro h1
        rw [if_pos h1] at h
        have hk1 : k + 1 < N := hT.lt hk (by rcases h1 with q | q <;> rw [q] <;> decide) (by rcases h1 with q | q <;> rw [q] <;> decide)
        unfold Re_readsSum_37
        simp only [nm_eq]
        rw [hS.tk, nI_1]
        exact round (a := 5) (c := -(T k)) _ (by decide) (by have : rkF 5 o = 7 * (5 - o) + 1 := rfl; omega) (by omega) hk1 rfl h
      unfold Re_readsSum_12
      simp only [hS.tk]
      by_cases h1 : T k = 43
      · have hk1 := nxt h1 (by decide) (by decide)
        rw [litI 160, if_pos (nI_lt (by omega) (by omega)), if_pos h1]
        exact go (Or.inl h1)
      · by_cases h2 : T k = 45
        · have hk1 := nxt h2 (by decide) (by decide)
          rw [litI 160, if_pos (nI_lt (by omega) (by omega)), if_neg h1, if_pos h2]
          exact go (Or.inr h2)
        · rw [if_neg h1, if_neg h2]
          rw [if_neg (fun q => q.elim h1 h2)] at h
          cases h
          exact ⟨1, μ, by split <;> rfl, RP.nil hS⟩
    | 10, hw, h, hF, round =>
      obtain ⟨L, rfl⟩ : ∃ L', L = L' + 1 := ⟨L - 1, by omega⟩
      have e : rkF 10 o = 7 * (5 - o) := rfl
      replace h : (if T k = 42 then sq (gr T Q n 6 o (k + 1)) fun k1 c1 => sq (gr T Q n 10 o k1) fun k2 c2 => some (k2, some (c1 ++ ([-42] ++ c2))) else some (k, some [])) = some r := h
      show ∃ b μ', Re_readsTerm_12 (Re_rec F) (Re_readsTerm_12L (Re_rec F) L) (nI o) (nI i) μ = some (b, μ') ∧ _
      unfold Re_readsTerm_12
      rw [hS.tk]
      by_cases h1 : T k = 42
      · have hk1 := nxt h1 (by decide) (by decide)
        rw [if_pos h1] at h ⊢
        rw [litI 160, if_pos (nI_lt (by omega) (by omega))]
        simp only [nm_eq]
        rw [nI_1]
        exact round (a := 6) (c := -42) _ (by decide) (by have : rkF 6 o = 7 * (5 - o) := rfl; omega) (by omega) hk1 rfl h
      · rw [if_neg h1] at h ⊢
        cases h
        exact ⟨1, μ, by split <;> rfl, RP.nil hS⟩
    | w + 11, hw, h, hF, round => exact absurd hw (by omega)
