/-! ===== back, day, run, film ===== -/
theorem M_back_rows {ν : Mem} : ∃ ν', M_back_13L 1000 0 ν = some (rd ν 0 0 42, ν') ∧ RM [5, 6] [4, 7, 8, 12] ν ν' ∧ rd ν' 0 0 12 = rd ν 0 0 42 ∧ rd ν' 0 0 7 = rd ν 0 0 43 ∧ rd ν' 0 0 8 = rd ν 0 0 44 ∧ rd ν' 0 0 4 = rd ν 0 0 45 ∧ (∀ i, i < 18 → rd ν' 5 0 i = rd ν 11 0 i) ∧ ∀ i, i < 6 → rd ν' 6 0 i = rd ν 12 0 i := by
  have two : ∀ (k g F : Nat) (m : Mem), g + k = 6 → k < F → RM [5, 6] [4, 7, 8, 12] ν m → (∀ i, i < 18 → rd m 5 0 i = rd ν 11 0 i) → (∀ i, i < g → rd m 6 0 i = rd ν 12 0 i) → ∃ ν', M_back_39L F (nI g) m = some (rd ν 0 0 42, ν') ∧ RM [5, 6] [4, 7, 8, 12] ν ν' ∧ rd ν' 0 0 12 = rd ν 0 0 42 ∧ rd ν' 0 0 7 = rd ν 0 0 43 ∧ rd ν' 0 0 8 = rd ν 0 0 44 ∧ rd ν' 0 0 4 = rd ν 0 0 45 ∧ (∀ i, i < 18 → rd ν' 5 0 i = rd ν 11 0 i) ∧ ∀ i, i < 6 → rd ν' 6 0 i = rd ν 12 0 i := by
    intro k
    induction k with
    | zero =>
      intro g F m hg hF r1 r2 r3
      obtain ⟨F, rfl⟩ : ∃ F', F = F' + 1 := ⟨F - 1, by omega⟩
      have hg' : g = 6 := by omega
      subst hg'
      have z : ∀ j, j ∉ [4, 7, 8, 12] → rd m 0 0 j = rd ν 0 0 j := fun j hj => r1 0 j (by decide) (fun _ => hj)
      refine ⟨up (up (up (up m 0 0 12 (rd ν 0 0 42)) 0 0 7 (rd ν 0 0 43)) 0 0 8 (rd ν 0 0 44)) 0 0 4 (rd ν 0 0 45), ?_, (((r1.wr0 (by decide)).wr0 (by decide)).wr0 (by decide)).wr0 (by decide), ?_, ?_, ?_, ?_, r2, r3⟩
      · show M_back_39 _ _ _ = _
        unfold M_back_39
        rw [litI 6, if_neg (nI_nlt (Nat.le_refl _) (by omega))]
        simp only [nm_eq]
        rw [rd_up_j (show 12 ≠ 4 by decide), rd_up_j (show 12 ≠ 8 by decide), rd_up_j (show 12 ≠ 7 by decide), rd_up_s, rd_up_j (show 45 ≠ 8 by decide), rd_up_j (show 45 ≠ 7 by decide), rd_up_j (show 45 ≠ 12 by decide), rd_up_j (show 44 ≠ 7 by decide), rd_up_j (show 44 ≠ 12 by decide), rd_up_j (show 43 ≠ 12 by decide), z 42 (by decide), z 43 (by decide), z 44 (by decide), z 45 (by decide)]
      · rw [rd_up_j (by decide), rd_up_j (by decide), rd_up_j (by decide), rd_up_s]
      · rw [rd_up_j (by decide), rd_up_j (by decide), rd_up_s]
      · rw [rd_up_j (by decide), rd_up_s]
      · rw [rd_up_s]
    | succ k ih =>
      intro g F m hg hF r1 r2 r3
      obtain ⟨F, rfl⟩ : ∃ F', F = F' + 1 := ⟨F - 1, by omega⟩
      obtain ⟨ν', w⟩ := ih (g + 1) F (up m 6 0 g (rd m 12 0 g)) (by omega) (by omega) (r1.wr' (by decide)) r2 (fun i hi => by
        by_cases q : i = g
        · subst q; rw [rd_up_s]; exact r1 12 i (by decide) (fun q => absurd q (by decide))
        · rw [rd_up_j q]; exact r3 i (by omega))
      refine ⟨ν', ?_, w.2⟩
      show M_back_39 _ _ _ = _
      unfold M_back_39
      rw [litI 6, if_pos (nI_lt (by omega) (by omega)), chk_eq _ (inb_nI (by omega) (by omega)), chk_eq _ (inb_nI (by omega) (by omega)), nm_eq, nm_eq, nI_1, ix_nI (by omega)]
      exact w.1
  have one : ∀ (k g F : Nat) (m : Mem), g + k = 18 → k < F → RM [5, 6] [4, 7, 8, 12] ν m → (∀ i, i < g → rd m 5 0 i = rd ν 11 0 i) → ∃ ν', M_back_13L F (nI g) m = some (rd ν 0 0 42, ν') ∧ RM [5, 6] [4, 7, 8, 12] ν ν' ∧ rd ν' 0 0 12 = rd ν 0 0 42 ∧ rd ν' 0 0 7 = rd ν 0 0 43 ∧ rd ν' 0 0 8 = rd ν 0 0 44 ∧ rd ν' 0 0 4 = rd ν 0 0 45 ∧ (∀ i, i < 18 → rd ν' 5 0 i = rd ν 11 0 i) ∧ ∀ i, i < 6 → rd ν' 6 0 i = rd ν 12 0 i := by
    intro k
    induction k with
    | zero =>
      intro g F m hg hF r1 r2
      obtain ⟨F, rfl⟩ : ∃ F', F = F' + 1 := ⟨F - 1, by omega⟩
      have hg' : g = 18 := by omega
      subst hg'
      obtain ⟨ν', w⟩ := two 6 0 1000 m (by omega) (by omega) r1 r2 (fun i hi => by omega)
      refine ⟨ν', ?_, w.2⟩
      show M_back_13 _ _ _ = _
      unfold M_back_13
      rw [litI 18, if_neg (nI_nlt (Nat.le_refl _) (by omega))]
      exact w.1
    | succ k ih =>
      intro g F m hg hF r1 r2
      obtain ⟨F, rfl⟩ : ∃ F', F = F' + 1 := ⟨F - 1, by omega⟩
      obtain ⟨ν', w⟩ := ih (g + 1) F (up m 5 0 g (rd m 11 0 g)) (by omega) (by omega) (r1.wr' (by decide)) (fun i hi => by
        by_cases q : i = g
        · subst q; rw [rd_up_s]; exact r1 11 i (by decide) (fun q => absurd q (by decide))
        · rw [rd_up_j q]; exact r2 i (by omega))
      refine ⟨ν', ?_, w.2⟩
      show M_back_13 _ _ _ = _
      unfold M_back_13
      rw [litI 18, if_pos (nI_lt (by omega) (by omega)), chk_eq _ (inb_nI (by omega) (by omega)), chk_eq _ (inb_nI (by omega) (by omega)), nm_eq, nm_eq, nI_1, ix_nI (by omega)]
      exact w.1
  exact one 18 0 1000 ν (by omega) (by omega) RM.rf (fun i hi => by omega)
theorem back_agree : Agree S_back M_back := by
  intro μ ν I
  have I0 := I
  obtain ⟨hs, gr, tc, X, B, z, sk, sm, sv, ⟨h, ht, hA, hM⟩, ⟨h5, h6⟩, ⟨h7, h8⟩, ⟨h9, h10, h11⟩, h12⟩ := I
  rcases h12 with ⟨a, b⟩ | ⟨a, hk, gk, kb, kc, kd, ke, kf⟩
  · refine ⟨-3, μ, ν, ?_, ?_, I0⟩
    · unfold S_back
      rw [if_pos a]
    · unfold M_back
      rw [if_pos b]
  have hn := kb.2.2.2.1
  have hn2 := h.2.2.2.1
  obtain ⟨μ1, s1, s2, s3, s4, s5⟩ := Ho_become_sp (Or.inr ⟨rfl, rfl⟩) kc hn
  obtain ⟨ν', t1, t2, t3, t4, t5, t6, t7, t8⟩ := M_back_rows (ν := ν)
  have m1 : ∀ f j, f ≠ 0 → f ∉ [5, 6] → rd ν' f 0 j = rd ν f 0 j := fun f j hf hj => t2 f j hj (fun q => absurd q hf)
  have m0 : ∀ j, j ∉ [4, 7, 8, 12] → rd ν' 0 0 j = rd ν 0 0 j := fun j hj => t2 0 j (by decide) (fun _ => hj)
  have A1 : HA 1 hk gk μ1 := ⟨fun j hj => by rw [s4 1 j (by decide)]; exact kc.1 j hj, fun g j hg hj => by rw [s5 g j (by omega)]; exact kc.2 g j hg hj⟩
  have eS : S_back μ = some (nI (hk 3), μ1) := by
    unfold S_back
    rw [if_neg (by rw [a]; decide), bnd_of s1, s2.1 3 (by decide)]
  have eM : M_back ν = some (nI (hk 3), ν') := by
    unfold M_back
    rw [if_neg (by rw [kd.1]; exact nI_neg1 (by omega)), t1, kd.1]
  refine ⟨nI (hk 3), μ1, ν', eS, eM, hk, gk, tc, X, B, z, sk, sm, sv, ⟨kb, ht, s2, t4.trans kd.2.1, t5.trans kd.2.2.1, t6.trans kd.2.2.2.1, t3.trans kd.1, fun g hg => ?_⟩, ⟨h5.cg (s3 0 0 4 (by decide)) (fun f i j hf _ => s3 f i j ?_), h6.cg (m0 3 (by decide)) (fun f j hf => m1 f j ?_ ?_)⟩, ⟨h7.cg (s3 10 0 1 (by decide)) (fun j => s3 11 0 j (by decide)), h8.cg (m0 6 (by decide)) (fun j => m1 3 j (by decide) (by decide))⟩, ⟨h9, h10.cg (fun f i j hf => s3 f i j ?_), h11.cg (fun f j hf => m1 f j ?_ ?_)⟩, Or.inr ⟨(s3 0 0 2 (by decide)).trans a, hk, gk, kb, A1, kd.cg (fun j hj => m0 j ?_) (fun f j hf => m1 f j ?_ ?_), Nat.le_refl _, fun _ _ => rfl⟩⟩
  · obtain ⟨b1, b2, b3, b4⟩ := kd.2.2.2.2 g hg
    rw [t7 _ (by omega), t7 _ (by omega), t7 _ (by omega), t8 _ (by omega), m1 4 g (by decide) (by decide), kf g hg]
    exact ⟨(hM.2.2.2.2 g (by omega)).1, b1, b2, b3, b4⟩
  · revert f; decide
  · revert f; decide
  · revert f; decide
  · revert f; decide
  · revert f; decide
  · revert f; decide
  · revert j; decide
  · revert f; decide
  · revert f; decide
