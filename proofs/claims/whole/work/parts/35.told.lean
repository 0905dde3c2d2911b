/-! ===== told ===== -/
theorem i32_rng (x : Int32) {b : Nat} (hb : b < 2 ^ 31) : x < 0 ∨ nI b < x ∨ ∃ j, j ≤ b ∧ x = nI j := by
  rcases i32_cases x with h | ⟨j, hj, rfl⟩
  · exact Or.inl h
  · rcases Nat.lt_or_ge b j with q | q
    · exact Or.inr (Or.inl (nI_lt q hj))
    · exact Or.inr (Or.inr ⟨j, q, rfl⟩)
theorem M_in_rng {x : Int32} {b : Nat} (hb : b < 2 ^ 31) : M_in x.toInt64 0 (lN b) = if ¬ x < 0 ∧ ¬ nI b < x then 1 else 0 := M_in_byte x 0 b (by omega) hb
theorem M_in_out {x : Int32} {b : Nat} (hb : b < 2 ^ 31) (h : x < 0 ∨ nI b < x) : M_in x.toInt64 0 (lN b) = 0 := by
  rw [M_in_rng hb, if_neg]
  rintro ⟨h1, h2⟩
  rcases h with h | h
  · exact h1 h
  · exact h2 h
theorem M_in_yes {j b : Nat} (hb : b < 2 ^ 31) (h : j ≤ b) : M_in (nI j).toInt64 0 (lN b) = 1 := by
  rw [M_in_nI (by omega) b hb, if_pos h]
theorem neg_ne {x : Int32} (h : x < 0) {j : Nat} (hj : j < 2 ^ 31) : ¬ x = nI j := fun q => nI_pos hj (by rw [← q]; exact h)
theorem neg_lt {x : Int32} (h : x < 0) {j : Nat} (hj : j < 2 ^ 31) : x < nI j := Int32.lt_of_lt_of_le h (nI_pos' hj)
theorem big_ne {x : Int32} {b j : Nat} (h : nI b < x) (hb : b < 2 ^ 31) (hj : j ≤ b) : ¬ x = nI j := fun q => nI_nlt (a := b) (b := j) hj hb (by rw [← q]; exact h)
theorem big_nlt {x : Int32} {b j : Nat} (h : nI b < x) (hb : b < 2 ^ 31) (hj : j ≤ b) : ¬ x < nI j := fun q => nI_nlt (a := b) (b := j) hj hb (Int32.lt_trans h q)
theorem big_gt {x : Int32} {b j : Nat} (h : nI b < x) (hb : b < 2 ^ 31) (hj : j ≤ b) : nI j < x := Int32.lt_of_le_of_lt (nI_le hj hb) h
def tolV (hs : Nat → Nat) (gr : Nat → Nat → Nat) (X : Nat → List Int32 × List Int32 × List Int32) (g : Nat) (j : Nat) : Nat := match j with
  | 0 => hs 0
  | 1 => hs 1
  | 2 => gr g 1
  | 3 => gr g 2
  | 4 => gr g 3
  | 5 => gr g 0
  | 6 => gr g 4
  | 7 => gr (gr g 4) 2
  | 8 => heatV (X (hs 2)) (eG gr g (gr g 4) (gr (gr g 4) 2)) (gr g 3) (hs 0)
  | 9 => calmV (X (hs 2)) (eG gr g (gr g 4) (gr (gr g 4) 2)) (gr g 3) (hs 0)
  | _ => feelV (X (hs 2)) (eG gr g (gr g 4) (gr (gr g 4) 2))
theorem M_told_28_sp {hs : Nat → Nat} {gr : Nat → Nat → Nat} {tc : Nat} {X : Nat → List Int32 × List Int32 × List Int32} {ν : Mem} (h : HOK hs gr tc) (ht : tc ≤ 6) (H : HM hs gr ν) (hX : XM tc X ν) {g j : Nat} {x1 : Int32} (hj : j ≤ 10) (hg : 2 ≤ j → g < hs 3 ∧ x1 = nI g) : ∃ ν', M_told_28 x1 (nI j) ν = some (nI (tolV hs gr X g j), ν') ∧ NX JS ν ν' := by
  have hn := h.2.2.2.1
  have hr := h.2.2.1
  by_cases j0 : j = 0
  · subst j0
    exact ⟨ν, by unfold M_told_28; rw [if_pos (by decide), if_pos (by decide), H.1]; rfl, NX.rf⟩
  by_cases j1 : j = 1
  · subst j1
    exact ⟨ν, by unfold M_told_28; rw [if_pos (by decide), if_neg (by decide), if_pos (by decide), H.2.1]; rfl, NX.rf⟩
  obtain ⟨hg2, e1⟩ := hg (by omega)
  clear hg
  have hg := hg2
  subst e1
  obtain ⟨a1, a2, a3, a4, a5⟩ := H.2.2.2.2 g hg
  obtain ⟨c1, c2, c3, c4, c5⟩ := h.2.2.2.2.1 g hg
  have R := H.mro h ht hg c5
  have he := eG_EB (c := gr g 4) (T := gr (gr g 4) 2) h hg (by omega) (h.2.2.2.2.1 _ c5).2.2.1
  have hx := hX.2 (hs 2) hr
  have hd := h.1
  have rows : ∀ k, k ≤ 2 → 2 ≤ j → j = k + 2 → rd ν 5 0 (3 * g + k) = nI (tolV hs gr X g j) → ∃ ν', M_told_28 (nI g) (nI j) ν = some (nI (tolV hs gr X g j), ν') ∧ NX JS ν ν' := by
    intro k hk h2 hjk e
    refine ⟨ν, ?_, NX.rf⟩
    unfold M_told_28
    rw [litI 5, if_pos (nI_lt (by omega) (by omega)), if_neg (show ¬ nI j = 0 from nI_lit_ne (b := 0) (by omega) (by omega) (by omega)), if_neg (show ¬ nI j = 1 from nI_lit_ne (b := 1) (by omega) (by omega) (by omega)), litI 3, pk_mul, nI_add, litI 2, nI_sub' (by omega), chk_eq _ (inb_nI (by omega) (by omega)), ix_nI (by omega), show 3 * g + j - 2 = 3 * g + k by omega, e]
  by_cases j2 : j = 2
  · subst j2; exact rows 0 (by decide) (by decide) rfl a2
  by_cases j3 : j = 3
  · subst j3; exact rows 1 (by decide) (by decide) rfl a3
  by_cases j4 : j = 4
  · subst j4; exact rows 2 (by decide) (by decide) rfl a4
  have n5 : ¬ nI j < (5 : Int32) := nI_nlt (b := 5) (by omega) (by omega)
  unfold M_told_28
  rw [if_neg n5]
  by_cases j5 : j = 5
  · subst j5
    refine ⟨ν, ?_, NX.rf⟩
    rw [if_pos (by decide), if_pos (by decide), chk_eq _ (inb_nI (by omega) (by omega)), ix_nI (by omega), a1]; rfl
  by_cases j6 : j = 6
  · subst j6
    refine ⟨ν, ?_, NX.rf⟩
    rw [if_pos (by decide), if_neg (by decide), if_pos (by decide), chk_eq _ (inb_nI (by omega) (by omega)), ix_nI (by omega), a5]; rfl
  by_cases j7 : j = 7
  · subst j7
    refine ⟨ν, ?_, NX.rf⟩
    rw [if_pos (by decide), if_neg (by decide), if_neg (by decide), chk_eq _ (inb_nI (by omega) (by omega)), ix_nI (by omega), a5, bnd_of (M_thingOf_sp (by omega) (H.2.2.2.2 _ c5).2.2.1)]; rfl
  rw [if_neg (show ¬ nI j < (8 : Int32) from nI_nlt (b := 8) (by omega) (by omega)), chk_eq _ (inb_nI (by omega) (by omega)), ix_nI (by omega), nm_eq, a5, litI 3, pk_mul, litI 2, nI_add, chk_eq _ (inb_nI (by omega) (by omega)), chk_eq _ (inb_nI (by omega) (by omega)), ix_nI (by omega), a4]
  by_cases j8 : j = 8
  · subst j8
    obtain ⟨ν', s1, s2⟩ := M_heatsOf_sp (P := gr g 3) hx R he (by omega)
    rw [if_pos (by decide), bnd2_of s1]
    exact ⟨ν', rfl, s2⟩
  by_cases j9 : j = 9
  · subst j9
    obtain ⟨ν', s1, s2⟩ := M_calmsOf_sp (P := gr g 3) hx R he (by omega)
    rw [if_neg (by decide), if_pos (by decide), bnd2_of s1]
    exact ⟨ν', rfl, s2⟩
  · have j10 : j = 10 := by omega
    subst j10
    obtain ⟨ν', s1, s2⟩ := M_feelsOf_sp hx R (by have := he.1; omega)
    rw [if_neg (by decide), if_neg (by decide), bnd2_of s1]
    exact ⟨ν', rfl, s2⟩
theorem told_agree (x1 x2 : Int32) : Agree (S_told x1 x2) (M_told x1 x2) := by
  intro μ ν I
  have I0 := I
  obtain ⟨hs, gr, tc, X, B, z, sk, sm, sv, ⟨h, ht, hA, hM⟩, ⟨hXA, hXM⟩, -, -, -⟩ := I
  have hn := h.2.2.2.1
  have hr := h.2.2.1
  have hd := h.1
  have out : x2 < 0 ∨ nI 10 < x2 → ∃ r μ' ν', S_told x1 x2 μ = some (r, μ') ∧ M_told x1 x2 ν = some (r, ν') ∧ Inv μ' ν' := by
    intro hx
    refine ⟨-2, μ, ν, ?_, ?_, I0⟩
    · have e : S_isSettable x2 x1 μ = 0 := by
        unfold S_isSettable
        rcases hx with hx | hx
        · rw [if_neg (show ¬ x2 = 0 from neg_ne hx (j := 0) (by omega)), if_neg (show ¬ x2 = 1 from neg_ne hx (j := 1) (by omega)), if_pos (show x2 < 2 from neg_lt hx (j := 2) (by omega))]
        · rw [if_neg (show ¬ x2 = 0 from big_ne hx (j := 0) (by omega) (by omega)), if_neg (show ¬ x2 = 1 from big_ne hx (j := 1) (by omega) (by omega)), if_neg (show ¬ x2 < 2 from big_nlt hx (j := 2) (by omega) (by omega)), if_pos (show 4 < x2 from big_gt hx (j := 4) (by omega) (by omega))]
      unfold S_told
      rw [nm_eq, e, if_pos rfl, nm_eq]
      rcases S_isGroom_sp (x := x1) (hA.1 3 (by decide)) with ⟨-, e2⟩ | ⟨-, e2⟩
      · rw [e2, if_neg (by decide)]
        rcases hx with hx | hx
        · rw [if_pos (show x2 < 5 from neg_lt hx (j := 5) (by omega))]
        · rw [if_neg (show ¬ x2 < 5 from big_nlt hx (j := 5) (by omega) (by omega)), if_pos (show 10 < x2 from hx)]
      · rw [e2, if_pos rfl]
    · unfold M_told
      rw [show (10 : Int64) = lN 10 from rfl, M_in_out (by omega) hx, nm_eq, if_pos rfl]
  rcases i32_rng x2 (b := 10) (by omega) with hx | hx | ⟨j, hj, rfl⟩
  · exact out (Or.inl hx)
  · exact out (Or.inr hx)
  have eM : M_told x1 (nI j) ν = if (1 : Int32) < nI j then (if (if gOK (hs 3) x1 then (1 : Int32) else 0) = 0 then some (-2, ν) else M_told_28 x1 (nI j) ν) else M_told_28 x1 (nI j) ν := by
    unfold M_told
    rw [show (10 : Int64) = lN 10 from rfl, M_in_yes (by omega) hj, nm_eq, if_neg (by decide), bnd_of (M_isOne_sp hM.2.2.2.1 (by omega))]
  by_cases j2 : j < 2
  · obtain ⟨ν', s1, s2⟩ := M_told_28_sp (g := 0) (x1 := x1) h ht hM hXM hj (fun q => by omega)
    rw [eM, if_neg (show ¬ (1 : Int32) < nI j from nI_nlt (a := 1) (by omega) (by omega)), s1]
    refine ⟨_, μ, ν', ?_, rfl, I0.same RA.rf (s2.same (by decide))⟩
    obtain rfl | rfl : j = 0 ∨ j = 1 := by omega
    · unfold S_told
      rw [nm_eq, show S_isSettable (nI 0) x1 μ = 1 from rfl, if_neg (by decide), show S_settable (nI 0) x1 μ = some (rd μ 1 0 0) from rfl, hA.1 0 (by decide)]
      rfl
    · unfold S_told
      rw [nm_eq, show S_isSettable (nI 1) x1 μ = 1 from rfl, if_neg (by decide), show S_settable (nI 1) x1 μ = some (rd μ 1 0 1) from rfl, hA.1 1 (by decide)]
      rfl
  rw [eM, if_pos (show (1 : Int32) < nI j from nI_lt (a := 1) (by omega) (by omega))]
  rcases S_isGroom_sp (x := x1) (hA.1 3 (by decide)) with ⟨hgo, e2⟩ | ⟨hg, e2⟩
  · rw [if_pos hgo, if_neg (by decide)]
    obtain ⟨g, hg, rfl⟩ := gOK_nI hgo (by omega)
    obtain ⟨ν', s1, s2⟩ := M_told_28_sp (g := g) (x1 := nI g) h ht hM hXM hj (fun _ => ⟨hg, rfl⟩)
    rw [s1]
    by_cases j5 : j < 5
    · refine ⟨_, μ, ν', ?_, rfl, I0.same RA.rf (s2.same (by decide))⟩
      have es : S_isSettable (nI j) (nI g) μ = 1 := by
        unfold S_isSettable
        rw [if_neg (show ¬ nI j = 0 from nI_lit_ne (b := 0) (by omega) (by omega) (by omega)), if_neg (show ¬ nI j = 1 from nI_lit_ne (b := 1) (by omega) (by omega) (by omega)), if_neg (show ¬ nI j < 2 from nI_nlt (b := 2) (by omega) (by omega)), if_neg (show ¬ 4 < nI j from nI_nlt (a := 4) (by omega) (by omega)), nm_eq, e2, if_neg (by decide)]
      unfold S_told
      rw [nm_eq, es, if_neg (by decide)]
      have sl : ∀ k, k < 5 → rd μ 2 g k = nI (gr g k) := fun k hk => hA.2 g k hg hk
      have ixg : ix (nI g) = g := ix_nI (by omega)
      have ib : inb (nI g) 6 := inb_nI (by omega) (by omega)
      obtain rfl | rfl | rfl : j = 2 ∨ j = 3 ∨ j = 4 := by omega
      · unfold S_settable
        rw [if_neg (by decide), if_neg (by decide), if_pos (by decide), chk_eq _ ib, ixg, sl 1 (by decide)]; rfl
      · unfold S_settable
        rw [if_neg (by decide), if_neg (by decide), if_neg (by decide), if_pos (by decide), chk_eq _ ib, ixg, sl 2 (by decide)]; rfl
      · unfold S_settable
        rw [if_neg (by decide), if_neg (by decide), if_neg (by decide), if_neg (by decide), chk_eq _ ib, ixg, sl 3 (by decide)]; rfl
    · have es : S_isSettable (nI j) (nI g) μ = 0 := by
        unfold S_isSettable
        rw [if_neg (show ¬ nI j = 0 from nI_lit_ne (b := 0) (by omega) (by omega) (by omega)), if_neg (show ¬ nI j = 1 from nI_lit_ne (b := 1) (by omega) (by omega) (by omega)), if_neg (show ¬ nI j < 2 from nI_nlt (b := 2) (by omega) (by omega)), if_pos (show 4 < nI j from nI_lt (a := 4) (by omega) (by omega))]
      obtain ⟨m, t1, t2, t3⟩ := S_seeAsIs_sp h hA hg
      have he := eG_EB (c := gr g 4) (T := gr (gr g 4) 2) h hg (by have := (h.2.2.2.2.1 g hg).2.2.2.2; omega) (h.2.2.2.2.1 _ (h.2.2.2.2.1 g hg).2.2.2.2).2.2.1
      have hx := (hXA.2 (hs 2) hr).off t3 (by decide) (by decide)
      have er := S_rule_sp h ht (hA.off t3 (by decide) (by decide))
      unfold S_told
      rw [nm_eq, es, if_pos rfl, nm_eq, e2, if_neg (by decide), if_neg (show ¬ nI j < 5 from nI_nlt (b := 5) (by omega) (by omega)), if_neg (show ¬ 10 < nI j from nI_nlt (a := 10) (by omega) (by omega)), bnd_of t1, bnd_of er, chk_eq _ (show hs 2 < 6 by omega), bnd_of er, chk_eq _ (show hs 2 < 6 by omega), bnd_of er, chk_eq _ (show hs 2 < 6 by omega)]
      have fin : ∀ (w : Int32) (m' : Mem), Off [8, 18, 19] μ m' → some (w, m') = some (nI (tolV hs gr X g j), m') → ∃ r μ' ν'', some (w, m') = some (r, μ') ∧ some (nI (tolV hs gr X g j), ν') = some (r, ν'') ∧ Inv μ' ν'' := by
        intro w m' o e
        exact ⟨_, m', ν', e, rfl, I0.same (o.same (by decide)) (s2.same (by decide))⟩
      have o3 : Off [8, 18, 19] μ m := t3.mono (by decide)
      by_cases q5 : j = 5
      · subst q5; rw [if_pos (by decide), t2.1]; exact fin _ _ o3 rfl
      by_cases q6 : j = 6
      · subst q6; rw [if_neg (by decide), if_pos (by decide), t2.2.2.2.2.2.1]; exact fin _ _ o3 rfl
      by_cases q7 : j = 7
      · subst q7; rw [if_neg (by decide), if_neg (by decide), if_pos (by decide), t2.2.2.1]; exact fin _ _ o3 rfl
      by_cases q8 : j = 8
      · subst q8
        obtain ⟨m2, u1, u2⟩ := Ma_heats_sp hx t2 he (by omega)
        rw [if_neg (by decide), if_neg (by decide), if_neg (by decide), if_pos (by decide), bnd2_of u1]; exact fin _ _ (o3.tr (u2.mono (by decide))) rfl
      by_cases q9 : j = 9
      · subst q9
        obtain ⟨m2, u1, u2⟩ := Ma_calms_sp hx t2 he (by omega)
        rw [if_neg (by decide), if_neg (by decide), if_neg (by decide), if_neg (by decide), if_pos (by decide), bnd2_of u1]; exact fin _ _ (o3.tr (u2.mono (by decide))) rfl
      · have q10 : j = 10 := by omega
        subst q10
        obtain ⟨m2, u1, u2⟩ := Ma_feels_sp hx t2.1 t2.2.1 t2.2.2.1 (by have := he.1; omega)
        rw [if_neg (by decide), if_neg (by decide), if_neg (by decide), if_neg (by decide), if_neg (by decide), bnd2_of u1]; exact fin _ _ (o3.tr (u2.mono (by decide))) rfl
  · rw [if_neg hg, if_pos rfl]
    refine ⟨-2, μ, ν, ?_, rfl, I0⟩
    have es : S_isSettable (nI j) x1 μ = 0 := by
      unfold S_isSettable
      rw [if_neg (show ¬ nI j = 0 from nI_lit_ne (b := 0) (by omega) (by omega) (by omega)), if_neg (show ¬ nI j = 1 from nI_lit_ne (b := 1) (by omega) (by omega) (by omega)), if_neg (show ¬ nI j < 2 from nI_nlt (b := 2) (by omega) (by omega)), nm_eq, e2, if_pos rfl]
      split <;> rfl
    unfold S_told
    rw [nm_eq, es, if_pos rfl, nm_eq, e2, if_pos rfl]
