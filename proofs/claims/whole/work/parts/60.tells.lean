/-! ===== tells, both sides ===== -/
theorem tens : ∀ j : Nat, j < 40 → nI j / 10 = nI (j / 10) ∧ irm (nI j) 10 = nI (j % 10) := by decide +kernel
theorem tells_in {hs : Nat → Nat} {gr : Nat → Nat → Nat} {tc : Nat} {X : Nat → List Int32 × List Int32 × List Int32} {B : Nat → Int32} {z : Nat} {sk sm : Nat → Nat} {sv : Nat → Nat → Int32} {μ ν : Mem} (IC : InvC hs gr tc X B z sk sm sv μ ν) {s j y : Nat} (hsx : s < 4) (hj : (y = 0 ∧ j ≤ 4) ∨ (y = 1 ∧ 10 ≤ j ∧ j < 40 ∧ j % 10 < hs 3)) : ∃ r μ' ν', S_tells_52 (nI s) (nI j) (nI y) μ = some (r, μ') ∧ M_tells_57 (nI s) (nI j) ν = some (r, ν') ∧ Inv μ' ν' := by
  have I0 : Inv μ ν := IC.inv
  have h : HOK hs gr tc := IC.1.1
  have ht : tc ≤ 6 := IC.1.2.1
  have hA := IC.1.2.2.1
  have hM := IC.1.2.2.2
  have hXA := IC.2.1.1
  have hXM := IC.2.1.2
  have hn := h.2.2.2.1
  have hr := h.2.2.1
  have fin : ∀ {m' w'}, Off [8, 18, 19] μ m' → HM hs gr w' → RMx ν w' → Inv m' w' := fun {m' w'} oo hm rm => Inv.house (hs' := hs) (gr' := gr) IC h (hA.off oo (by decide) (by decide)) hm (Nat.le_refl _) (fun _ _ => rfl) ((oo.same (by decide)).mono (by decide)) (fun j => oo.rd (by decide) _ _) (fun g j => oo.rd (by decide) _ _) rm
  obtain ⟨t1, t2⟩ := tens j (by omega)
  unfold S_tells_52 M_tells_57
  rw [chk_eq _ (inb_nI (by omega) (by omega)), chk_eq _ (inb_nI (by omega) (by omega)), chk_eq _ (inb_nI (by omega) (by omega)), ix_nI (show s < 2 ^ 31 by omega), nm_eq]
  rcases sheet_case IC.2.2.2.1.1 IC.2.2.2.1.2.1 IC.2.2.2.1.2.2 hsx with ⟨q1, q2, q3⟩ | ⟨q1, q2, q3, q4, q5, q6, q7, q8, q9, q10⟩
  · rw [q2, q3, if_neg (show ¬ (1 : Int32) = 0 by decide), if_pos rfl]
    exact ⟨-11, μ, ν, rfl, rfl, I0⟩
  rw [q2, q3, if_pos rfl, if_neg (show ¬ (1 : Int32) = 0 by decide), q5, q7, hA.1 3 (by decide), hM.2.2.2.1]
  by_cases qs : sm s = hs 3
  rotate_left
  · rw [if_neg (fun z => qs ((nI_eq (by omega) (by omega)).mp z)), if_neg (fun z => qs ((nI_eq (by omega) (by omega)).mp z))]
    exact ⟨-2, μ, ν, rfl, rfl, I0⟩
  rw [if_pos (show nI (sm s) = nI (hs 3) by rw [qs]), if_pos (show nI (sm s) = nI (hs 3) by rw [qs])]
  rw [qs] at q9 q10
  rcases hj with ⟨rfl, hj⟩ | ⟨rfl, hj1, hj2, hj3⟩
  · rw [if_pos (show nI 0 = 0 by rfl)]
    by_cases j0 : j = 0
    · subst j0
      rw [if_pos (show nI 0 = 0 by rfl), if_pos (show nI 0 = 0 by rfl)]
      obtain ⟨m', a1, a2⟩ := S_otherwise_sp (t := hs 2) (s := s) (v := sv s) h hA hXA hr q9
      obtain ⟨w', b1, b2⟩ := M_unlike_sp h ht hM hXM hsx q10
      rw [bnd_of (S_rule_sp h ht hA), chk_eq _ (show hs 2 < 6 by omega), bnd2_of a1, bnd2_of b1]
      exact ⟨_, m', w', rfl, rfl, I0.same (a2.same (by decide)) (b2.same (by decide))⟩
    rw [if_neg (show ¬ nI j = 0 from fun z => j0 ((nI_eq (b := 0) (by omega) (by omega)).mp z)), if_neg (show ¬ nI j = 0 from fun z => j0 ((nI_eq (b := 0) (by omega) (by omega)).mp z))]
    by_cases j4 : j = 4
    · subst j4
      obtain ⟨r, m', w', a1, a2, a3, a4, a5⟩ := texts_both (x4 := nI (4 % 10)) h ht hA hM hXA hXM hsx q9 q10
      rw [if_pos (show nI 4 = 4 by rfl), bnd2_of a1, if_neg (show ¬ nI 4 < 4 by decide), nm_eq, t2, if_pos (show nI 4 = 4 by rfl), a2]
      exact ⟨r, m', w', rfl, rfl, fin a3 a4 a5⟩
    · obtain ⟨r, m', w', a1, a2, a3, a4⟩ := ways_both (x := j) h ht hA hM hXA hXM hsx (by omega) q9 q10
      rw [if_neg (show ¬ nI j = 4 from fun z => j4 ((nI_eq (b := 4) (by omega) (by omega)).mp z)), bnd2_of a1, if_pos (show nI j < 4 from nI_lt (b := 4) (by omega) (by omega)), a2]
      exact ⟨r, m', w', rfl, rfl, I0.same a3 a4⟩
  · obtain ⟨col, hc, ecol⟩ : ∃ col, col < 3 ∧ j / 10 = col + 1 := ⟨j / 10 - 1, by omega, by omega⟩
    obtain ⟨r, m', w', a1, a2, a3, a4, a5⟩ := would_both (col := col) h ht hA hM hXA hXM hsx hj3 hc q9 q10
    rw [if_neg (show ¬ nI 1 = 0 by decide), t1, t2, ecol, bnd2_of a1]
    rw [if_neg (show ¬ nI j = 0 from fun z => absurd ((nI_eq (b := 0) (by omega) (by omega)).mp z) (by omega)), if_neg (show ¬ nI j < 4 from nI_nlt (b := 4) (by omega) (by omega)), nm_eq, if_neg (show ¬ nI j = 4 from fun z => absurd ((nI_eq (b := 4) (by omega) (by omega)).mp z) (by omega))]
    refine ⟨r, m', w', rfl, ?_, fin a3 a4 a5⟩
    obtain rfl | rfl | rfl : col = 0 ∨ col = 1 ∨ col = 2 := by omega
    · rw [if_pos (show nI j < 20 from nI_lt (b := 20) (by omega) (by omega))]
      exact a2
    · rw [if_neg (show ¬ nI j < 20 from nI_nlt (b := 20) (by omega) (by omega)), if_pos (show nI j < 30 from nI_lt (b := 30) (by omega) (by omega))]
      exact a2
    · rw [if_neg (show ¬ nI j < 20 from nI_nlt (b := 20) (by omega) (by omega)), if_neg (show ¬ nI j < 30 from nI_nlt (b := 30) (by omega) (by omega))]
      exact a2
theorem M_in_1039 {x : Int32} : M_in x.toInt64 10 39 = if x < 10 ∨ 39 < x then 0 else 1 := by
  rw [M_in_iff, show (10 : Int64).toInt = 10 from by decide, show (39 : Int64).toInt = 39 from by decide]
  by_cases q : x < 10 ∨ 39 < x
  · rw [if_pos q, if_neg]
    rintro ⟨a, b⟩
    rcases q with q | q
    · have := Int32.lt_iff_toInt_lt.mp q
      rw [show (10 : Int32).toInt = 10 from by decide] at this
      omega
    · have := Int32.lt_iff_toInt_lt.mp q
      rw [show (39 : Int32).toInt = 39 from by decide] at this
      omega
  · rw [if_neg q, if_pos]
    refine ⟨?_, ?_⟩
    · refine Int.not_lt.mp (fun z => q (Or.inl (Int32.lt_iff_toInt_lt.mpr ?_)))
      rw [show (10 : Int32).toInt = 10 from by decide]; exact z
    · refine Int.not_lt.mp (fun z => q (Or.inr (Int32.lt_iff_toInt_lt.mpr ?_)))
      rw [show (39 : Int32).toInt = 39 from by decide]; exact z
theorem tells_agree (x1 x2 : Int32) : Agree (S_tells x1 x2) (M_tells x1 x2) := by
  intro μ ν I
  have I0 := I
  obtain ⟨hs, gr, tc, X, B, z, sk, sm, sv, IC⟩ := I
  have h : HOK hs gr tc := IC.1.1
  have hA := IC.1.2.2.1
  have hM := IC.1.2.2.2
  have hn := h.2.2.2.1
  -- which of one: y
  obtain ⟨y, hy, eS, eM⟩ : ∃ y : Nat, ((y = 0 ∧ (x2 < 10 ∨ 39 < x2 ∨ ¬ gOK (hs 3) (irm x2 10))) ∨ (y = 1 ∧ ¬ x2 < 10 ∧ ¬ 39 < x2 ∧ gOK (hs 3) (irm x2 10))) ∧ S_tells x1 x2 μ = S_tells_28 x1 x2 (nI y) μ ∧ M_tells x1 x2 ν = M_tells_30 x1 x2 (nI y) ν := by
    by_cases q1 : x2 < 10
    · refine ⟨0, Or.inl ⟨rfl, Or.inl q1⟩, ?_, ?_⟩
      · unfold S_tells; rw [if_pos q1]; rfl
      · unfold M_tells; rw [M_in_1039, if_pos (Or.inl q1), nm_eq, if_pos rfl]; rfl
    by_cases q2 : 39 < x2
    · refine ⟨0, Or.inl ⟨rfl, Or.inr (Or.inl q2)⟩, ?_, ?_⟩
      · unfold S_tells
        rw [if_neg q1, if_neg (show ¬ x2 < 40 from fun w => by
          have a := Int32.lt_iff_toInt_lt.mp w
          have b := Int32.lt_iff_toInt_lt.mp q2
          rw [show (40 : Int32).toInt = 40 from by decide] at a
          rw [show (39 : Int32).toInt = 39 from by decide] at b
          omega)]
        rfl
      · unfold M_tells; rw [M_in_1039, if_pos (Or.inr q2), nm_eq, if_pos rfl]; rfl
    have q3 : x2 < 40 := by
      refine Int32.lt_iff_toInt_lt.mpr ?_
      rw [show (40 : Int32).toInt = 40 from by decide]
      have : ¬ (39 : Int32).toInt < x2.toInt := fun w => q2 (Int32.lt_iff_toInt_lt.mpr w)
      rw [show (39 : Int32).toInt = 39 from by decide] at this
      omega
    have eM0 : M_tells x1 x2 ν = if (if gOK (hs 3) (irm x2 10) then (1 : Int32) else 0) = 0 then M_tells_30 x1 x2 0 ν else M_tells_30 x1 x2 1 ν := by
      unfold M_tells
      rw [M_in_1039, if_neg (fun w => w.elim q1 q2), nm_eq, if_neg (by decide), bnd_of (M_isOne_sp hM.2.2.2.1 (by omega))]
    have eS0 : S_tells x1 x2 μ = if S_isGroom (irm x2 10) μ = 0 then S_tells_28 x1 x2 0 μ else S_tells_28 x1 x2 1 μ := by
      unfold S_tells
      rw [if_neg q1, if_pos q3, nm_eq]
    rcases S_isGroom_sp (x := irm x2 10) (hA.1 3 (by decide)) with ⟨p, e⟩ | ⟨p, e⟩
    · refine ⟨1, Or.inr ⟨rfl, q1, q2, p⟩, ?_, ?_⟩
      · rw [eS0, e, if_neg (by decide)]; rfl
      · rw [eM0, if_pos p, if_neg (by decide)]; rfl
    · refine ⟨0, Or.inl ⟨rfl, Or.inr (Or.inr p)⟩, ?_, ?_⟩
      · rw [eS0, e, if_pos rfl]; rfl
      · rw [eM0, if_neg p, if_pos rfl]; rfl
  rw [eS, eM]
  unfold S_tells_28 M_tells_30
  rcases S_isSheet_sp x1 with ⟨s, hsx, rfl, e1, e2⟩ | ⟨e1, e2⟩
  rotate_left
  · rw [e1, nm_eq, if_pos rfl, bnd_of e2, if_pos rfl]
    exact ⟨-2, μ, ν, rfl, rfl, I0⟩
  rw [e1, nm_eq, if_neg (show ¬ (1 : Int32) = 0 by decide), bnd_of e2, if_neg (show ¬ (1 : Int32) = 0 by decide), nm_eq]
  have y01 : y = 0 ∨ y = 1 := by omega
  have e45 : S_tells_45 (nI s) x2 (nI y) μ = if y = 0 then some (-2, μ) else S_tells_52 (nI s) x2 (nI y) μ := by
    unfold S_tells_45
    rcases y01 with w | w
    · rw [w, if_pos (show nI 0 = 0 by rfl), if_pos rfl]
    · rw [w, if_neg (show ¬ nI 1 = 0 by decide), if_neg (by decide)]
  have eMy : (if nI y = 0 then some ((-2 : Int32), ν) else M_tells_57 (nI s) x2 ν) = if y = 0 then some (-2, ν) else M_tells_57 (nI s) x2 ν := by
    rcases y01 with w | w
    · rw [w, if_pos (show nI 0 = 0 by rfl), if_pos rfl]
    · rw [w, if_neg (show ¬ nI 1 = 0 by decide), if_neg (by decide)]
  rw [e45, eMy]
  rcases M_in_or (x := x2) (b := 4) (by omega) with ⟨q, e⟩ | ⟨j, hj, rfl, e⟩
  · have e : M_in x2.toInt64 0 4 = 0 := e
    rw [e, if_pos rfl]
    have both : (if x2 < 0 then (if y = 0 then some ((-2 : Int32), μ) else S_tells_52 (nI s) x2 (nI y) μ) else (if 4 < x2 then (if y = 0 then some ((-2 : Int32), μ) else S_tells_52 (nI s) x2 (nI y) μ) else S_tells_52 (nI s) x2 (nI y) μ)) = if y = 0 then some ((-2 : Int32), μ) else S_tells_52 (nI s) x2 (nI y) μ := by
      rcases q with q | q
      · rw [if_pos q]
      · rw [if_pos (show 4 < x2 from q), ite_self]
    rw [both]
    rcases hy with ⟨rfl, -⟩ | ⟨rfl, h1, h2, h3⟩
    · rw [if_pos rfl, if_pos rfl]
      exact ⟨-2, μ, ν, rfl, rfl, I0⟩
    · rw [if_neg (by decide), if_neg (by decide)]
      obtain ⟨j, hj, rfl⟩ : ∃ j : Nat, j ≤ 39 ∧ x2 = nI j := by
        rcases i32_rng x2 (b := 39) (by omega) with w | w | w
        · exact absurd (Int32.lt_trans w (by decide)) h1
        · exact absurd w h2
        · exact w
      have hj10 : 10 ≤ j := Nat.not_lt.mp (fun w => h1 (nI_lt (b := 10) w (by omega)))
      rw [(tens j (by omega)).2] at h3
      obtain ⟨g, hg, eg⟩ := gOK_nI h3 (by omega)
      have eg := (nI_eq (by omega) (by omega)).mp eg
      exact tells_in IC hsx (Or.inr ⟨rfl, hj10, by omega, by omega⟩)
  · have e : M_in (nI j).toInt64 0 4 = 1 := e
    rw [e, if_neg (show ¬ (1 : Int32) = 0 by decide), if_neg (nI_nlt0 (show j < 2 ^ 31 by omega)), if_neg (show ¬ 4 < nI j from nI_nlt (a := 4) hj (by omega))]
    have y0 : y = 0 := by
      rcases hy with ⟨w, -⟩ | ⟨-, w, -⟩
      · exact w
      · exact absurd (nI_lt (a := j) (b := 10) (by omega) (by omega)) w
    subst y0
    exact tells_in IC hsx (Or.inl ⟨rfl, hj⟩)
