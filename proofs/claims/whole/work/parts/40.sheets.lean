/-! ===== sheet, cell, copy ===== -/
theorem S_isSheet_sp (x : Int32) : (∃ s, s < 4 ∧ x = nI s ∧ S_isSheet x = 1 ∧ M_isSheet x = some 1) ∨ (S_isSheet x = 0 ∧ M_isSheet x = some 0) := by
  have hM : ∀ v, M_in x.toInt64 0 (lN 3) = v → (v = 0 ∨ v = 1) → M_isSheet x = some v := by
    intro v e hv
    unfold M_isSheet
    rw [show (3 : Int64) = lN 3 from rfl, e, nm_eq, chk_eq _ hv]
  rcases i32_rng x (b := 3) (by omega) with h | h | ⟨s, hs, rfl⟩
  · refine Or.inr ⟨by unfold S_isSheet; rw [if_pos h], hM 0 (M_in_out (by omega) (Or.inl h)) (Or.inl rfl)⟩
  · refine Or.inr ⟨?_, hM 0 (M_in_out (by omega) (Or.inr h)) (Or.inl rfl)⟩
    unfold S_isSheet
    rw [if_neg (fun q => absurd (Int32.lt_trans h q) (by decide)), if_neg]
    intro q
    obtain ⟨k, hk, rfl⟩ := nI_of (fun q => absurd (Int32.lt_trans h q) (by decide) : ¬ x < 0)
    have a := (nI_ltI (by omega) hk).mp h
    have b := (nI_ltI (b := 4) hk (by omega)).mp q
    omega
  · exact Or.inl ⟨s, by omega, rfl, by unfold S_isSheet; rw [if_neg (nI_pos (by omega)), if_pos (show nI s < 4 from nI_lt (b := 4) (by omega) (by omega))], hM 1 (M_in_yes (by omega) hs) (Or.inr rfl)⟩
theorem S_isSort_sp {x : Int32} : ((x < 0 ∨ nI 2 < x) ∧ S_isSort x = 0) ∨ ∃ k, k ≤ 2 ∧ x = nI k ∧ S_isSort x = 1 := by
  unfold S_isSort
  rcases i32_rng x (b := 2) (by omega) with h | h | ⟨k, hk, rfl⟩
  · exact Or.inl ⟨Or.inl h, by rw [if_pos h]⟩
  · exact Or.inl ⟨Or.inr h, by rw [if_neg (fun q => absurd (Int32.lt_trans h q) (by decide)), if_pos (show 2 < x from h)]⟩
  · exact Or.inr ⟨k, hk, rfl, by rw [if_neg (nI_pos (by omega)), if_neg (show ¬ 2 < nI k from nI_nlt (a := 2) (by omega) (by omega))]⟩
theorem Inv.sheets {hs : Nat → Nat} {gr : Nat → Nat → Nat} {tc : Nat} {X : Nat → List Int32 × List Int32 × List Int32} {B : Nat → Int32} {z : Nat} {sk sm sk' sm' : Nat → Nat} {sv sv' : Nat → Nat → Int32} {μ ν μ' ν' : Mem} (H : InvC hs gr tc X B z sk sm sv μ ν) (g1 : ShO sk' sm') (g2 : ShA sk' sm' sv' μ') (g3 : ShM sk' sm' sv' ν') (ha : RA (16 :: 17 :: SCA) μ μ') (hm : RM [13, 14, 15, 16, 7, 8, 9, 10] SCM ν ν') : Inv μ' ν' := by
  obtain ⟨⟨h1, h2, h3, h4⟩, ⟨h5, h6⟩, ⟨h7, h8⟩, ⟨h9, h10, h11⟩, h12⟩ := H
  have m0 : ∀ j, j ∉ SCM → rd ν' 0 0 j = rd ν 0 0 j := fun j hj => hm 0 j (by decide) (fun _ => hj)
  have m1 : ∀ f j, f ≠ 0 → f ∉ [13, 14, 15, 16, 7, 8, 9, 10] → rd ν' f 0 j = rd ν f 0 j := fun f j hf hj => hm f j hj (fun q => absurd q hf)
  refine ⟨hs, gr, tc, X, B, z, sk', sm', sv', ⟨h1, h2, h3.cg (fun j => ha 1 0 j (by decide)) (fun g j => ha 2 _ j (by decide)), h4.cg (fun j hj => m0 j ?_) (fun f j hf => m1 f j ?_ ?_)⟩, ⟨h5.cg (ha 0 0 4 (by decide)) (fun f i j hf _ => ha f i j ?_), h6.cg (m0 3 (by decide)) (fun f j hf => m1 f j ?_ ?_)⟩, ⟨h7.cg (ha 10 0 1 (by decide)) (fun j => ha 11 0 j (by decide)), h8.cg (m0 6 (by decide)) (fun j => m1 3 j (by decide) (by decide))⟩, ⟨g1, g2, g3⟩, h12.cg (Nat.le_refl _) (fun _ _ => rfl) (Nat.le_refl _) (ha 0 0 2 (by decide)) (fun j => ha 1 1 j (by decide)) (fun g j => ha 2 _ j (by decide)) (fun j hj => m0 j ?_) (fun f j hf => m1 f j ?_ ?_)⟩
  · revert j; decide
  · revert f; decide
  · revert f; decide
  · revert f; decide
  · revert f; decide
  · revert f; decide
  · revert j; decide
  · revert f; decide
  · revert f; decide
theorem Sh_become_sp {t m : Nat} (hm : m ≤ 40) (k : Int32) (μ : Mem) : ∃ μ', Sh_become t k (nI m) μ = some μ' ∧ RA [16, 17] μ μ' ∧ rd μ' 16 t 0 = k ∧ rd μ' 16 t 1 = nI m ∧ (∀ i, i < m → rd μ' 17 t i = 0) ∧ ∀ f i j, f ∈ [16, 17] → i ≠ t → rd μ' f i j = rd μ f i j := by
  obtain ⟨m0, em0⟩ : ∃ w, w = up (up μ 16 t 0 k) 16 t 1 (nI m) := ⟨_, rfl⟩
  have key : ∀ (n g F : Nat) (w : Mem), g + n = m → n < F → RA [17] m0 w → (∀ i, i < g → rd w 17 t i = 0) → (∀ i j, i ≠ t → rd w 17 i j = rd μ 17 i j) → ∃ μ', Sh_become_12L F t (nI g) w = some μ' ∧ RA [17] m0 μ' ∧ (∀ i, i < m → rd μ' 17 t i = 0) ∧ ∀ i j, i ≠ t → rd μ' 17 i j = rd μ 17 i j := by
    intro n
    induction n with
    | zero =>
      intro g F w hg hF r1 r2 r3
      obtain ⟨F, rfl⟩ : ∃ F', F = F' + 1 := ⟨F - 1, by omega⟩
      refine ⟨w, ?_, r1, fun i hi => r2 i (by omega), r3⟩
      show Sh_become_12 _ _ _ _ = _
      unfold Sh_become_12
      rw [r1 16 t 1 (by decide), em0, rd_up_s, if_neg (nI_nlt (by omega) (by omega))]
    | succ n ih =>
      intro g F w hg hF r1 r2 r3
      obtain ⟨F, rfl⟩ : ∃ F', F = F' + 1 := ⟨F - 1, by omega⟩
      obtain ⟨μ', w1, w2⟩ := ih (g + 1) F (up w 17 t g 0) (by omega) (by omega) (r1.wr' (by decide)) (fun i hi => by
        by_cases q : i = g
        · subst q; exact rd_up_s _ _ _ _ _
        · rw [rd_up_j q]; exact r2 i (by omega)) (fun i j hi => by rw [rd_up_i hi]; exact r3 i j hi)
      refine ⟨μ', ?_, w2⟩
      show Sh_become_12 _ _ _ _ = _
      unfold Sh_become_12
      rw [r1 16 t 1 (by decide), em0, rd_up_s, if_pos (nI_lt (by omega) (by omega)), chk_eq _ (inb_nI (by omega) (by omega)), nm_eq, nm_eq, nI_1, ix_nI (by omega)]
      exact w1
  obtain ⟨μ', w1, w2, w3, w4⟩ := key m 0 1000 m0 (by omega) (by omega) RA.rf (fun i hi => by omega) (fun i j hi => by rw [em0, rd_up_f (by decide), rd_up_f (by decide)])
  refine ⟨μ', ?_, ?_, ?_, ?_, w3, fun f i j hf hi => ?_⟩
  · unfold Sh_become
    simp only [nm_eq]
    rw [← em0]
    exact w1
  · refine RA.tr ?_ (w2.mono (by decide))
    rw [em0]
    exact (RA.rf.wr' (by decide)).wr' (by decide)
  · rw [w2 16 t 0 (by decide), em0, rd_up_j (by decide), rd_up_s]
  · rw [w2 16 t 1 (by decide), em0, rd_up_s]
  · rcases List.mem_cons.mp hf with q | q
    · subst q; rw [w2 16 i j (by decide), em0, rd_up_i hi, rd_up_i hi]
    · rw [List.mem_singleton.mp q]; exact w4 i j hi
theorem M_sheet_59_sp {s : Nat} (hs : s < 4) (k x : Int32) (y : Nat) (hy : y ≤ 1) (ν : Mem) (h : k < 0 ∨ ∃ m, m ≤ 40 ∧ x = nI m) : ∃ ν', M_sheet_59 (nI s) k x (nI s) (nI y) ν = some (1, ν') ∧ RM [13, 14, 15, 16] [] ν ν' ∧ rd ν' 13 0 s = nI y ∧ rd ν' 14 0 s = k ∧ rd ν' 15 0 s = x ∧ (∀ i m, ¬ k < 0 → x = nI m → m ≤ 40 → i < m → rd ν' 16 0 (40 * s + i) = 0) ∧ (∀ f i, f ∈ [13, 14, 15] → i ≠ s → rd ν' f 0 i = rd ν f 0 i) ∧ ∀ j, (j < 40 * s ∨ 40 * s + 40 ≤ j) → rd ν' 16 0 j = rd ν 16 0 j := by
  obtain ⟨m0, em0⟩ : ∃ w, w = up (up (up ν 13 0 s (nI y)) 14 0 s k) 15 0 s x := ⟨_, rfl⟩
  have e0 : M_sheet_59 (nI s) k x (nI s) (nI y) ν = M_sheet_77L 1000 (nI s) k x 0 m0 := by
    have ey : vp_nar .boolean (nI y) = nI y := by
      obtain rfl | rfl : y = 0 ∨ y = 1 := by omega
      · rfl
      · rfl
    unfold M_sheet_59
    rw [chk_eq _ (inb_nI (by omega) (by omega)), nm_eq, chk_eq _ (inb_nI (by omega) (by omega)), nm_eq, chk_eq _ (inb_nI (by omega) (by omega)), nm_eq, ix_nI (by omega), ey, ← em0]
  have f0 : RM [13, 14, 15] [] ν m0 := by
    rw [em0]
    exact ((RM.rf.wr' (by decide)).wr' (by decide)).wr' (by decide)
  have g13 : rd m0 13 0 s = nI y := by rw [em0, rd_up_f (by decide), rd_up_f (by decide), rd_up_s]
  have g14 : rd m0 14 0 s = k := by rw [em0, rd_up_f (by decide), rd_up_s]
  have g15 : rd m0 15 0 s = x := by rw [em0, rd_up_s]
  have gi : ∀ f i, f ∈ [13, 14, 15] → i ≠ s → rd m0 f 0 i = rd ν f 0 i := by
    intro f i _ hi
    rw [em0, rd_up_j hi, rd_up_j hi, rd_up_j hi]
  rw [e0]
  by_cases hk : k < 0
  · refine ⟨m0, ?_, f0.mono (by decide) (by decide), g13, g14, g15, fun i m q => absurd hk q, gi, fun j _ => f0 16 j (by decide) (fun q => absurd q (by decide))⟩
    show M_sheet_77 _ _ _ _ _ _ = _
    unfold M_sheet_77
    split
    · first
        | rfl
        | rw [if_pos hk]
    · rfl
  · obtain ⟨m, hm, rfl⟩ := h.resolve_left hk
    have key : ∀ (n g F : Nat) (w : Mem), g + n = m → n < F → RM [16] [] m0 w → (∀ i, i < g → rd w 16 0 (40 * s + i) = 0) → (∀ j, (j < 40 * s ∨ 40 * s + 40 ≤ j) → rd w 16 0 j = rd ν 16 0 j) → ∃ ν', M_sheet_77L F (nI s) k (nI m) (nI g) w = some (1, ν') ∧ RM [16] [] m0 ν' ∧ (∀ i, i < m → rd ν' 16 0 (40 * s + i) = 0) ∧ ∀ j, (j < 40 * s ∨ 40 * s + 40 ≤ j) → rd ν' 16 0 j = rd ν 16 0 j := by
      intro n
      induction n with
      | zero =>
        intro g F w hg hF r1 r2 r3
        obtain ⟨F, rfl⟩ : ∃ F', F = F' + 1 := ⟨F - 1, by omega⟩
        refine ⟨w, ?_, r1, fun i hi => r2 i (by omega), r3⟩
        show M_sheet_77 _ _ _ _ _ _ = _
        unfold M_sheet_77
        rw [if_neg (nI_nlt (by omega) (by omega))]
      | succ n ih =>
        intro g F w hg hF r1 r2 r3
        obtain ⟨F, rfl⟩ : ∃ F', F = F' + 1 := ⟨F - 1, by omega⟩
        obtain ⟨μ', w1, w2⟩ := ih (g + 1) F (up w 16 0 (40 * s + g) 0) (by omega) (by omega) (r1.wr' (by decide)) (fun i hi => by
          by_cases q : i = g
          · subst q; exact rd_up_s _ _ _ _ _
          · rw [rd_up_j (by omega)]; exact r2 i (by omega)) (fun j hj => by rw [rd_up_j (by omega)]; exact r3 j hj)
        refine ⟨μ', ?_, w2⟩
        show M_sheet_77 _ _ _ _ _ _ = _
        unfold M_sheet_77
        rw [if_pos (nI_lt (by omega) (by omega)), if_neg hk, litI 40, pk_mul, nI_add, chk_eq _ (inb_nI (by omega) (by omega)), nm_eq, nm_eq, nI_1, ix_nI (by omega)]
        exact w1
    obtain ⟨ν', w1, w2, w3, w4⟩ := key m 0 1000 m0 (by omega) (by omega) RM.rf (fun i hi => by omega) (fun j _ => f0 16 j (by decide) (fun q => absurd q (by decide)))
    have s3 : ∀ f i, f ∈ [13, 14, 15] → rd ν' f 0 i = rd m0 f 0 i := fun f i hf => w2 f i (by revert f; decide) (fun q => by subst q; exact absurd hf (by decide))
    refine ⟨ν', w1, (f0.mono (by decide) (by decide)).tr (w2.mono (by decide) (by decide)), by rw [s3 13 s (by decide), g13], by rw [s3 14 s (by decide), g14], by rw [s3 15 s (by decide), g15], fun i m' _ e hm' hi => ?_, fun f i hf hi => by rw [s3 f i hf, gi f i hf hi], w4⟩
    have : m = m' := (nI_eq (by omega) (by omega)).mp e
    subst this
    exact w3 i hi
/-- both sheets take a sort and a size, all items 0 -/
theorem sheet_new {hs : Nat → Nat} {gr : Nat → Nat → Nat} {tc : Nat} {X : Nat → List Int32 × List Int32 × List Int32} {B : Nat → Int32} {z : Nat} {sk sm : Nat → Nat} {sv : Nat → Nat → Int32} {μ ν : Mem} (IC : InvC hs gr tc X B z sk sm sv μ ν) {s k m : Nat} (hsx : s < 4) (hk : k ≤ 2) (hm : m ≤ 40) : ∃ μ' ν', Sh_become s (nI k) (nI m) μ = some μ' ∧ M_sheet_59 (nI s) (nI k) (nI m) (nI s) 1 ν = some (1, ν') ∧ InvC hs gr tc X B z (u1 sk s k) (u1 sm s m) (fun a i => if a = s then 0 else sv a i) μ' ν' := by
  obtain ⟨μ', a1, a2, a3, a4, a5, a6⟩ := Sh_become_sp (t := s) hm (nI k) μ
  obtain ⟨ν', b1, b2, b3, b4, b5, b6, b7, b8⟩ := M_sheet_59_sp hsx (nI k) (nI m) 1 (Nat.le_refl _) ν (Or.inr ⟨m, hm, rfl⟩)
  obtain ⟨h0, h0', h0'', ⟨h9, h10, h11⟩, h12⟩ := IC
  refine ⟨μ', ν', a1, b1, ?_⟩
  obtain ⟨h1, h2, h3, h4⟩ := h0
  obtain ⟨h5, h6⟩ := h0'
  obtain ⟨h7, h8⟩ := h0''
  have m0 : ∀ j, rd ν' 0 0 j = rd ν 0 0 j := fun j => b2 0 j (by decide) (fun _ => List.not_mem_nil)
  have m1 : ∀ f j, f ≠ 0 → f ∉ [13, 14, 15, 16] → rd ν' f 0 j = rd ν f 0 j := fun f j hf hj => b2 f j hj (fun q => absurd q hf)
  refine ⟨⟨h1, h2, h3.cg (fun j => a2 1 0 j (by decide)) (fun g j => a2 2 _ j (by decide)), h4.cg (fun j hj => m0 j) (fun f j hf => m1 f j ?_ ?_)⟩, ⟨h5.cg (a2 0 0 4 (by decide)) (fun f i j hf _ => a2 f i j ?_), h6.cg (m0 3) (fun f j hf => m1 f j ?_ ?_)⟩, ⟨h7.cg (a2 10 0 1 (by decide)) (fun j => a2 11 0 j (by decide)), h8.cg (m0 6) (fun j => m1 3 j (by decide) (by decide))⟩, ⟨fun s' hs' => ?_, fun s' hs' => ?_, fun s' hs' => ?_⟩, h12.cg (Nat.le_refl _) (fun _ _ => rfl) (Nat.le_refl _) (a2 0 0 2 (by decide)) (fun j => a2 1 1 j (by decide)) (fun g j => a2 2 _ j (by decide)) (fun j hj => m0 j) (fun f j hf => m1 f j ?_ ?_)⟩
  · revert f; decide
  · revert f; decide
  · revert f; decide
  · revert f; decide
  · revert f; decide
  · by_cases q : s' = s
    · subst q; rw [u1_s, u1_s]; omega
    · rw [u1_n _ q, u1_n _ q]; exact h9 s' hs'
  · by_cases q : s' = s
    · subst q
      simp only [u1_s, if_true]
      rw [if_neg (by omega)]
      exact ⟨a3, a4, a5⟩
    · have := h10 s' hs'
      simp only [u1_n _ q, if_neg q]
      by_cases w : sk s' = 3
      · rw [if_pos w] at this ⊢
        rw [a6 16 s' 0 (by decide) q]; exact this
      · rw [if_neg w] at this ⊢
        exact ⟨by rw [a6 16 s' 0 (by decide) q]; exact this.1, by rw [a6 16 s' 1 (by decide) q]; exact this.2.1, fun i hi => by rw [a6 17 s' i (by decide) q]; exact this.2.2 i hi⟩
  · by_cases q : s' = s
    · subst q
      simp only [u1_s, if_true]
      rw [if_neg (by omega)]
      exact ⟨b3, b4, b5, fun i hi => b6 i m (nI_pos (by omega)) rfl hm hi⟩
    · have := h11 s' hs'
      have hm' := (h9 s' hs').2
      simp only [u1_n _ q, if_neg q]
      by_cases w : sk s' = 3
      · rw [if_pos w] at this ⊢
        rw [b7 13 s' (by decide) q]; exact this
      · rw [if_neg w] at this ⊢
        exact ⟨by rw [b7 13 s' (by decide) q]; exact this.1, by rw [b7 14 s' (by decide) q]; exact this.2.1, by rw [b7 15 s' (by decide) q]; exact this.2.2.1, fun i hi => by rw [b8 (40 * s' + i) (by omega)]; exact this.2.2.2 i hi⟩
  · revert f; decide
  · revert f; decide
theorem sheet_agree (x1 x2 x3 : Int32) : Agree (S_sheet x1 x2 x3) (M_sheet x1 x2 x3) := by
  intro μ ν I
  have I0 := I
  obtain ⟨hs, gr, tc, X, B, z, sk, sm, sv, IC⟩ := I
  have no : ∀ v : Int32, S_sheet x1 x2 x3 μ = some (v, μ) → M_sheet x1 x2 x3 ν = some (v, ν) → ∃ r μ' ν', S_sheet x1 x2 x3 μ = some (r, μ') ∧ M_sheet x1 x2 x3 ν = some (r, ν') ∧ Inv μ' ν' := fun v a b => ⟨v, μ, ν, a, b, I0⟩
  rcases S_isSheet_sp x1 with ⟨s, hsx, rfl, e1, e2⟩ | ⟨e1, e2⟩
  rotate_left
  · refine no (-2) ?_ ?_
    · unfold S_sheet
      rw [e1, nm_eq, if_pos rfl]
    · unfold M_sheet
      rw [bnd_of e2, if_pos rfl]
  have hin : ∀ v, M_in x2.toInt64 (-1) 2 = v ↔ (if (-1 : Int) ≤ x2.toInt ∧ x2.toInt ≤ 2 then (1 : Int32) else 0) = v := by
    intro v
    rw [M_in_iff, show (-1 : Int64).toInt = -1 from by decide, show (2 : Int64).toInt = 2 from by decide]
  by_cases qm : x2 = -1
  · subst qm
    have i1 : M_in (-1 : Int32).toInt64 (-1) 2 = 1 := (hin 1).mpr (by decide)
    obtain ⟨μ', a1, a2, a3, a4, a5, a6⟩ := Sh_become_sp (t := s) (m := 0) (by omega) (-1) μ
    obtain ⟨ν', b1, b2, b3, b4, b5, b6, b7, b8⟩ := M_sheet_59_sp hsx (-1) x3 0 (by omega) ν (Or.inl (by decide))
    have a1 : Sh_become s (-1) 0 μ = some μ' := a1
    have b1 : M_sheet_59 (nI s) (-1) x3 (nI s) 0 ν = some (1, ν') := b1
    obtain ⟨-, -, -, ⟨h9, h10, h11⟩, -⟩ := id IC
    refine ⟨1, μ', ν', ?_, ?_, Inv.sheets (sk' := u1 sk s 3) (sm' := sm) (sv' := sv) IC (fun s' hs' => ?_) (fun s' hs' => ?_) (fun s' hs' => ?_) (a2.mono (by decide)) (b2.mono (by decide) (by decide))⟩
    · unfold S_sheet
      rw [e1, nm_eq, if_neg (by decide), if_pos rfl]
      unfold S_sheet_22
      rw [if_pos rfl, chk_eq _ (inb_nI (by omega) (by omega)), ix_nI (by omega), bnd_of a1]
    · unfold M_sheet
      rw [bnd_of e2, if_neg (by decide), i1, nm_eq, if_neg (by decide), if_pos (by decide)]
      unfold M_sheet_34
      rw [if_pos (by decide)]
      unfold M_sheet_45
      rw [if_pos (by decide), b1]
    · by_cases q : s' = s
      · subst q; rw [u1_s]; exact ⟨by omega, (h9 s' hs').2⟩
      · rw [u1_n _ q]; exact h9 s' hs'
    · by_cases q : s' = s
      · subst q; rw [u1_s, if_pos rfl]; exact a3
      · have := h10 s' hs'
        rw [u1_n _ q]
        by_cases w : sk s' = 3
        · rw [if_pos w] at this ⊢
          rw [a6 16 s' 0 (by decide) q]; exact this
        · rw [if_neg w] at this ⊢
          exact ⟨by rw [a6 16 s' 0 (by decide) q]; exact this.1, by rw [a6 16 s' 1 (by decide) q]; exact this.2.1, fun i hi => by rw [a6 17 s' i (by decide) q]; exact this.2.2 i hi⟩
    · by_cases q : s' = s
      · subst q; rw [u1_s, if_pos rfl]; exact b3
      · have := h11 s' hs'
        have hm' := (h9 s' hs').2
        rw [u1_n _ q]
        by_cases w : sk s' = 3
        · rw [if_pos w] at this ⊢
          rw [b7 13 s' (by decide) q]; exact this
        · rw [if_neg w] at this ⊢
          exact ⟨by rw [b7 13 s' (by decide) q]; exact this.1, by rw [b7 14 s' (by decide) q]; exact this.2.1, by rw [b7 15 s' (by decide) q]; exact this.2.2.1, fun i hi => by rw [b8 (40 * s' + i) (by omega)]; exact this.2.2.2 i hi⟩
  rcases S_isSort_sp (x := x2) with ⟨q2, f1⟩ | ⟨k, hk, rfl, f1⟩
  · refine no (-2) ?_ ?_
    · unfold S_sheet
      rw [e1, nm_eq, if_neg (by decide), if_neg qm, f1, nm_eq, if_pos rfl]
    · have i0 : M_in x2.toInt64 (-1) 2 = 0 := by
        rw [hin 0, if_neg]
        rintro ⟨w1, w2⟩
        rcases q2 with q2 | q2
        · have := toI_neg q2
          apply qm
          apply Int32.toInt_inj.mp
          rw [show (-1 : Int32).toInt = -1 from by decide]
          omega
        · have := Int32.lt_iff_toInt_lt.mp q2
          rw [nI_toInt (by omega)] at this
          omega
      unfold M_sheet
      rw [bnd_of e2, if_neg (by decide), i0, nm_eq, if_pos rfl]
  have i1 : M_in (nI k).toInt64 (-1) 2 = 1 := by
    rw [hin 1, nI_toInt (by omega), if_pos (by omega)]
  have knn : ¬ nI k < 0 := nI_pos (by omega)
  have eS : S_sheet (nI s) (nI k) x3 μ = if (40 : Int32) < x3 then some (-2, μ) else if x3 < 0 then some (-14, μ) else bnd (Sh_become s (nI k) x3 μ) fun μ6 => some (1, μ6) := by
    unfold S_sheet
    rw [e1, nm_eq, if_neg (by decide), if_neg qm, f1, nm_eq, if_neg (by decide)]
    unfold S_sheet_22
    rw [if_neg qm, chk_eq _ (inb_nI (by omega) (by omega)), ix_nI (by omega)]
  have eM : M_sheet (nI s) (nI k) x3 ν = if (40 : Int32) < x3 then some (-2, ν) else if x3 < 0 then some (-14, ν) else M_sheet_59 (nI s) (nI k) x3 (nI s) 1 ν := by
    unfold M_sheet
    rw [bnd_of e2, if_neg (by decide), i1, nm_eq, if_neg (by decide), if_neg knn]
    unfold M_sheet_34
    rw [if_neg knn]
    unfold M_sheet_45
    rw [if_neg knn]
  rcases i32_rng x3 (b := 40) (by omega) with q3 | q3 | ⟨m, hm, rfl⟩
  · refine no (-14) ?_ ?_
    · rw [eS, if_neg (fun q => absurd (Int32.lt_trans q3 (Int32.lt_trans (by decide : (0 : Int32) < 40) q)) (Int32.lt_irrefl)), if_pos q3]
    · rw [eM, if_neg (fun q => absurd (Int32.lt_trans q3 (Int32.lt_trans (by decide : (0 : Int32) < 40) q)) (Int32.lt_irrefl)), if_pos q3]
  · refine no (-2) ?_ ?_
    · rw [eS, if_pos (show 40 < x3 from q3)]
    · rw [eM, if_pos (show 40 < x3 from q3)]
  · obtain ⟨μ', ν', c1, c2, c3⟩ := sheet_new IC hsx hk hm
    refine ⟨1, μ', ν', ?_, ?_, _, _, _, _, _, _, _, _, _, c3⟩
    · rw [eS, if_neg (show ¬ 40 < nI m from nI_nlt (a := 40) (by omega) (by omega)), if_neg (nI_pos (by omega)), bnd_of c1]
    · rw [eM, if_neg (show ¬ 40 < nI m from nI_nlt (a := 40) (by omega) (by omega)), if_neg (nI_pos (by omega)), c2]
