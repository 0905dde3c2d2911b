/-! ===== run ===== -/
theorem S_isDays_sp (x : Int32) {b : Nat} (hb : b < 2 ^ 31) : ((x < 0 ∨ nI b < x) ∧ S_isDays x (nI b) = 0 ∧ M_in x.toInt64 0 (lN b) = 0) ∨ ∃ d, d ≤ b ∧ x = nI d ∧ S_isDays x (nI b) = 1 ∧ M_in x.toInt64 0 (lN b) = 1 := by
  unfold S_isDays
  rcases i32_rng x hb with h | h | ⟨d, hd, rfl⟩
  · exact Or.inl ⟨Or.inl h, by rw [if_pos h], M_in_out hb (Or.inl h)⟩
  · exact Or.inl ⟨Or.inr h, by rw [if_neg (fun q => nI_pos hb (Int32.lt_trans h q)), if_pos h], M_in_out hb (Or.inr h)⟩
  · exact Or.inr ⟨d, hd, rfl, by rw [if_neg (nI_pos (by omega)), if_neg (nI_nlt hd hb)], M_in_yes hb hd⟩
theorem S_run_sum {hs : Nat → Nat} {gr : Nat → Nat → Nat} {tc : Nat} {X : Nat → List Int32 × List Int32 × List Int32} {μ : Mem} (h : HOK hs gr tc) (ht : tc ≤ 6) (hA : HA 0 hs gr μ) (hX : XA tc X μ) {d w : Nat} (hd : d ≤ 40) (hw : w ≤ 1) : ∃ m', S_run_118L 1000 (nI d) (nI w) 0 0 0 μ = some (nI (sm (fun g => if w = 0 then lvP X hs gr g (gr g 4) (gr (gr g 4) 2) d else lvB X hs gr g (gr g 4) (gr (gr g 4) 2) d) (hs 3)), m') ∧ Off [8, 18, 19] μ m' := by
  have hn := h.2.2.2.1
  have key : ∀ (k g F : Nat) (m : Mem), g + k = hs 3 → k < F → Off [8, 18, 19] μ m → ∃ m', S_run_118L F (nI d) (nI w) (nI (sm (fun g => lvP X hs gr g (gr g 4) (gr (gr g 4) 2) d) g)) (nI (sm (fun g => lvB X hs gr g (gr g 4) (gr (gr g 4) 2) d) g)) (nI g) m = some (nI (if w = 0 then sm (fun g => lvP X hs gr g (gr g 4) (gr (gr g 4) 2) d) (hs 3) else sm (fun g => lvB X hs gr g (gr g 4) (gr (gr g 4) 2) d) (hs 3)), m') ∧ Off [8, 18, 19] μ m' := by
    intro k
    induction k with
    | zero =>
      intro g F m hg hF ho
      obtain ⟨F, rfl⟩ : ∃ F', F = F' + 1 := ⟨F - 1, by omega⟩
      have : g = hs 3 := by omega
      subst this
      refine ⟨m, ?_, ho⟩
      show S_run_118 _ _ _ _ _ _ _ = _
      unfold S_run_118
      rw [ho.rd (by decide), hA.1 3 (by decide), if_neg (nI_nlt (by omega) (by omega))]
      by_cases q : w = 0
      · subst q; rw [if_pos (by decide), if_pos rfl]
      · rw [if_neg (show ¬ nI w = 0 from nI_lit_ne (b := 0) (by omega) (by omega) q), if_neg q]
    | succ k ih =>
      intro g F m hg hF ho
      obtain ⟨F, rfl⟩ : ∃ F', F = F' + 1 := ⟨F - 1, by omega⟩
      have hgn : g < hs 3 := by omega
      have c5 := (h.2.2.2.2.1 g hgn).2.2.2.2
      have hA' := hA.off ho (by decide) (by decide)
      have hX' : XA tc X m := hX.cg (ho.rd (by decide) _ _) (fun f i j hf _ => ho.rd (by revert f; decide) _ _)
      obtain ⟨m1, t1, t2, t3⟩ := S_seeAsIs_sp h hA' hgn
      obtain ⟨u1, m2, u2, u3, u4, u5, -⟩ := lives_class h ht hA' hX' hgn (by omega) (h.2.2.2.2.1 _ c5).2.2.1 hd t2 t3
      obtain ⟨m', w1, w2⟩ := ih (g + 1) F m2 (by omega) (by omega) (ho.tr u3)
      refine ⟨m', ?_, w2⟩
      show S_run_118 _ _ _ _ _ _ _ = _
      unfold S_run_118
      rw [hA'.1 3 (by decide), if_pos (nI_lt hgn (by omega)), bnd_of t1, bnd_of u1, chk_eq _ (show hs 2 < 6 by have := h.2.2.1; omega), bnd_of u2]
      simp only [nm_eq]
      rw [u4, u5, nI_add, nI_add, nI_1]
      exact w1
  obtain ⟨m', a1, a2⟩ := key (hs 3) 0 1000 μ (by omega) (by omega) Off.rf
  refine ⟨m', ?_, a2⟩
  have a1 : S_run_118L 1000 (nI d) (nI w) 0 0 0 μ = _ := a1
  rw [a1]
  by_cases q : w = 0
  · simp only [if_pos q]
  · simp only [if_neg q]
theorem M_run_sum {hs : Nat → Nat} {gr : Nat → Nat → Nat} {tc : Nat} {X : Nat → List Int32 × List Int32 × List Int32} {ν : Mem} (h : HOK hs gr tc) (ht : tc ≤ 6) (hM : HM hs gr ν) (hX : XM tc X ν) {d w : Nat} (hd : d ≤ 40) (hw : w ≤ 1) : ∃ m', M_run_106L 1000 (nI d) (nI w) 0 0 ν = some (nI (sm (fun g => if w = 0 then lvP X hs gr g (gr g 4) (gr (gr g 4) 2) d else lvB X hs gr g (gr g 4) (gr (gr g 4) 2) d) (hs 3)), m') ∧ NX JV ν m' := by
  have hn := h.2.2.2.1
  obtain ⟨V, eV⟩ : ∃ V, V = fun g => if w = 0 then lvP X hs gr g (gr g 4) (gr (gr g 4) 2) d else lvB X hs gr g (gr g 4) (gr (gr g 4) 2) d := ⟨_, rfl⟩
  rw [← eV]
  have key : ∀ (k g F : Nat) (m : Mem), g + k = hs 3 → k < F → NX JV ν m → ∃ m', M_run_106L F (nI d) (nI w) (nI (sm V g)) (nI g) m = some (nI (sm V (hs 3)), m') ∧ NX JV ν m' := by
    intro k
    induction k with
    | zero =>
      intro g F m hg hF ho
      obtain ⟨F, rfl⟩ : ∃ F', F = F' + 1 := ⟨F - 1, by omega⟩
      have : g = hs 3 := by omega
      subst this
      refine ⟨m, ?_, ho⟩
      show M_run_106 _ _ _ _ _ _ = _
      unfold M_run_106
      rw [ho.2 12 (by decide), hM.2.2.2.1, if_neg (nI_nlt (by omega) (by omega))]
    | succ k ih =>
      intro g F m hg hF ho
      obtain ⟨F, rfl⟩ : ∃ F', F = F' + 1 := ⟨F - 1, by omega⟩
      have hgn : g < hs 3 := by omega
      have c5 := (h.2.2.2.2.1 g hgn).2.2.2.2
      have hM' := hM.nx ho (by decide)
      have hX' : XM tc X m := hX.cg (ho.2 3 (by decide)) (fun f j hf => ho.rd (by revert f; decide) _ _)
      obtain ⟨m1, t1, t2, t3, t4, -⟩ := lives_ref h ht hM' hX' hgn c5 hd
      obtain ⟨m', w1, w2⟩ := ih (g + 1) F m1 (by omega) (by omega) (ho.tr t2)
      refine ⟨m', ?_, w2⟩
      rw [show sm V (g + 1) = sm V g + V g from rfl] at w1
      show M_run_106 _ _ _ _ _ _ = _
      unfold M_run_106
      rw [hM'.2.2.2.1, if_pos (nI_lt hgn (by omega)), chk_eq _ (inb_nI (by omega) (by omega)), ix_nI (by omega), (hM'.2.2.2.2 g hgn).2.2.2.2, bnd_of t1, t3, t4]
      unfold M_run_146
      simp only [nm_eq]
      rw [nI_add, nI_add, nI_1]
      by_cases q : w = 0
      · have : V g = lvP X hs gr g (gr g 4) (gr (gr g 4) 2) d := by rw [eV]; exact if_pos q
        rw [this] at w1
        rw [if_pos (show nI w = 0 by rw [q]; rfl)]
        exact w1
      · have : V g = lvB X hs gr g (gr g 4) (gr (gr g 4) 2) d := by rw [eV]; exact if_neg q
        rw [this] at w1
        rw [if_neg (show ¬ nI w = 0 from nI_lit_ne (b := 0) (by omega) (by omega) q)]
        exact w1
  exact key (hs 3) 0 1000 ν (by omega) (by omega) NX.rf
theorem run_agree (x1 x2 : Int32) : Agree (S_run x1 x2) (M_run x1 x2) := by
  intro μ ν I
  have I0 := I
  obtain ⟨hs, gr, tc, X, B, z, sk, sm', sv, IC⟩ := I
  have h : HOK hs gr tc := IC.1.1
  have ht : tc ≤ 6 := IC.1.2.1
  have hA := IC.1.2.2.1
  have hM := IC.1.2.2.2
  have hn := h.2.2.2.1
  -- the two flags are one
  have flag : (S_run x1 x2 μ = S_run_28 x1 x2 0 μ ∧ M_run x1 x2 ν = M_run_30 x1 x2 0 ν) ∨ ∃ j, 10 ≤ j ∧ j ≤ 29 ∧ x2 = nI j ∧ j % 10 < hs 3 ∧ S_run x1 x2 μ = S_run_28 x1 x2 1 μ ∧ M_run x1 x2 ν = M_run_30 x1 x2 1 ν := by
    have hin : M_in x2.toInt64 10 29 = if ¬ x2 < nI 10 ∧ ¬ nI 29 < x2 then 1 else 0 := M_in_byte x2 10 29 (by omega) (by omega)
    have lowS : x2 < 10 → S_run x1 x2 μ = S_run_28 x1 x2 0 μ := fun q => by unfold S_run; rw [if_pos q]
    have lowM : x2 < 10 → M_run x1 x2 ν = M_run_30 x1 x2 0 ν := fun q => by unfold M_run; rw [hin, if_neg (fun w => w.1 q), nm_eq, if_pos rfl]
    rcases i32_rng x2 (b := 29) (by omega) with q | q | ⟨j, hj, rfl⟩
    · exact Or.inl ⟨lowS (neg_lt q (j := 10) (by omega)), lowM (neg_lt q (j := 10) (by omega))⟩
    · refine Or.inl ⟨?_, ?_⟩
      · unfold S_run
        rw [if_neg (show ¬ x2 < 10 from big_nlt q (j := 10) (by omega) (by omega)), if_neg]
        intro w
        obtain ⟨k, hk, rfl⟩ := nI_of (fun w => absurd (Int32.lt_trans q w) (by decide) : ¬ x2 < 0)
        have a := (nI_ltI (by omega) hk).mp q
        have b := (nI_ltI (b := 30) hk (by omega)).mp w
        omega
      · unfold M_run
        rw [hin, if_neg (fun w => w.2 q), nm_eq, if_pos rfl]
    · by_cases l10 : j < 10
      · exact Or.inl ⟨lowS (nI_lt (b := 10) l10 (by omega)), lowM (nI_lt (b := 10) l10 (by omega))⟩
      · have n10 : ¬ nI j < 10 := nI_nlt (b := 10) (by omega) (by omega)
        have ei : irm (nI j) 10 = nI (j % 10) := irm_nI (d := 10) (by omega) (by omega) (by omega)
        have eS : S_run x1 (nI j) μ = if S_isGroom (nI (j % 10)) μ = 0 then S_run_28 x1 (nI j) 0 μ else S_run_28 x1 (nI j) 1 μ := by
          unfold S_run
          rw [if_neg n10, if_pos (show nI j < 30 from nI_lt (b := 30) (by omega) (by omega)), ei, nm_eq]
        have eM : M_run x1 (nI j) ν = if (if gOK (hs 3) (nI (j % 10)) then (1 : Int32) else 0) = 0 then M_run_30 x1 (nI j) 0 ν else M_run_30 x1 (nI j) 1 ν := by
          unfold M_run
          rw [hin, if_pos ⟨n10, nI_nlt (by omega) (by omega)⟩, nm_eq, if_neg (by decide), ei, bnd_of (M_isOne_sp hM.2.2.2.1 (by omega))]
        rcases S_isGroom_sp (x := nI (j % 10)) (hA.1 3 (by decide)) with ⟨p, e⟩ | ⟨p, e⟩
        · rw [e, if_neg (by decide)] at eS
          rw [if_pos p, if_neg (by decide)] at eM
          have := (nI_ltI (by omega) (by omega)).mp p.2
          exact Or.inr ⟨j, by omega, hj, rfl, this, eS, eM⟩
        · rw [e, if_pos rfl] at eS
          rw [if_neg p, if_pos rfl] at eM
          exact Or.inl ⟨eS, eM⟩
  rcases S_isDays_sp x1 (b := 40) (by omega) with ⟨-, e1, e2⟩ | ⟨d, hd, rfl, e1, e2⟩
  · have e1 : S_isDays x1 40 = 0 := e1
    have e2 : M_in x1.toInt64 0 40 = 0 := e2
    have a : ∀ y, S_run_28 x1 x2 y μ = some (-2, μ) := fun y => by unfold S_run_28; rw [e1, nm_eq, if_pos rfl]
    have b : ∀ y, M_run_30 x1 x2 y ν = some (-2, ν) := fun y => by unfold M_run_30; rw [e2, nm_eq, if_pos rfl]
    rcases flag with ⟨f1, f2⟩ | ⟨j, -, -, -, -, f1, f2⟩
    · exact ⟨-2, μ, ν, by rw [f1, a], by rw [f2, b], I0⟩
    · exact ⟨-2, μ, ν, by rw [f1, a], by rw [f2, b], I0⟩
  have e1 : S_isDays (nI d) 40 = 1 := e1
  have e2 : M_in (nI d).toInt64 0 40 = 1 := e2
  have h01 : M_in x2.toInt64 0 1 = if ¬ x2 < 0 ∧ ¬ nI 1 < x2 then 1 else 0 := M_in_rng (b := 1) (by omega)
  rcases flag with ⟨f1, f2⟩ | ⟨j, j10, j29, rfl, hjn, f1, f2⟩
  · rw [f1, f2]
    have sum : ∀ w, w ≤ 1 → x2 = nI w → ∃ r μ' ν', S_run_28 (nI d) x2 0 μ = some (r, μ') ∧ M_run_30 (nI d) x2 0 ν = some (r, ν') ∧ Inv μ' ν' := by
      intro w hw e
      subst e
      obtain ⟨m', a1, a2⟩ := S_run_sum h ht hA IC.2.1.1 hd hw
      obtain ⟨w', b1, b2⟩ := M_run_sum h ht hM IC.2.1.2 hd hw
      refine ⟨nI (sm (fun g => if w = 0 then lvP X hs gr g (gr g 4) (gr (gr g 4) 2) d else lvB X hs gr g (gr g 4) (gr (gr g 4) 2) d) (hs 3)), m', w', ?_, ?_, I0.same (a2.same (by decide)) (b2.same (by decide))⟩
      rotate_left
      · unfold M_run_30
        rw [e2, nm_eq, if_neg (by decide), h01, if_pos ⟨nI_pos (by omega), nI_nlt (by omega) (by omega)⟩, nm_eq, if_neg (by decide)]
        unfold M_run_60
        rw [if_pos rfl]
        exact b1
      · have e54 : S_run_54 (nI d) (nI w) 0 μ = S_run_118L 1000 (nI d) (nI w) 0 0 0 μ := by
          unfold S_run_54
          rw [if_pos rfl]
        unfold S_run_28
        rw [e1, nm_eq, if_neg (by decide), e54, if_pos rfl]
        obtain rfl | rfl : w = 0 ∨ w = 1 := by omega
        · rw [if_pos (by decide)]; exact a1
        · rw [if_neg (by decide), if_pos (by decide)]; exact a1
    by_cases q0 : x2 = 0
    · exact sum 0 (by omega) q0
    by_cases q1 : x2 = 1
    · exact sum 1 (by omega) q1
    · refine ⟨-2, μ, ν, ?_, ?_, I0⟩
      · unfold S_run_28
        rw [e1, nm_eq, if_neg (by decide), if_neg q0, if_neg q1, if_pos rfl]
      · unfold M_run_30
        rw [e2, nm_eq, if_neg (by decide), h01, if_neg, nm_eq, if_pos rfl, if_pos rfl]
        rintro ⟨w1, w2⟩
        obtain ⟨k, hk, rfl⟩ := nI_of w1
        have : ¬ 1 < k := fun z => w2 (nI_lt z hk)
        obtain rfl | rfl : k = 0 ∨ k = 1 := by omega
        · exact q0 rfl
        · exact q1 rfl
  · rw [f1, f2]
    have c5 := (h.2.2.2.2.1 (j % 10) hjn).2.2.2.2
    have ei : irm (nI j) 10 = nI (j % 10) := irm_nI (d := 10) (by omega) (by omega) (by omega)
    obtain ⟨m1, t1, t2, t3⟩ := S_seeAsIs_sp h hA hjn
    obtain ⟨u1, m2, u2, u3, u4, u5, u6⟩ := lives_class h ht hA IC.2.1.1 hjn (by omega) (h.2.2.2.2.1 _ c5).2.2.1 hd t2 t3
    obtain ⟨w1, v1, v2, v3, v4, v5⟩ := lives_ref h ht hM IC.2.1.2 hjn c5 hd
    have eS : S_run_28 (nI d) (nI j) 1 μ = if nI j < 20 then some (rd m2 18 0 3, m2) else some (rd m2 18 0 8, m2) := by
      unfold S_run_28
      rw [e1, nm_eq, if_neg (by decide), if_neg (show ¬ nI j = 0 from nI_lit_ne (b := 0) (by omega) (by omega) (by omega)), if_neg (show ¬ nI j = 1 from nI_lit_ne (b := 1) (by omega) (by omega) (by omega)), if_neg (by decide)]
      unfold S_run_54
      rw [if_neg (by decide), ei, bnd_of t1, bnd_of u1, chk_eq _ (show hs 2 < 6 by have := h.2.2.1; omega), bnd_of u2]
    have eM : M_run_30 (nI d) (nI j) 1 ν = if nI j < 20 then some (rd w1 0 0 28, w1) else some (rd w1 0 0 30, w1) := by
      unfold M_run_30
      rw [e2, nm_eq, if_neg (by decide), h01, if_neg (fun w => w.2 (nI_lt (by omega) (by omega))), nm_eq, if_pos rfl, if_neg (by decide)]
      unfold M_run_60
      rw [if_neg (by decide), ei, chk_eq _ (inb_nI (by omega) (by omega)), ix_nI (by omega), (hM.2.2.2.2 _ hjn).2.2.2.2, bnd_of v1]
    rw [eS, eM]
    have J : Inv m2 w1 := I0.same (u3.same (by decide)) (v2.same (by decide))
    by_cases l20 : nI j < 20
    · rw [if_pos l20, if_pos l20, u4, v3]
      exact ⟨_, m2, w1, rfl, rfl, J⟩
    · rw [if_neg l20, if_neg l20, u6, v5]
      exact ⟨_, m2, w1, rfl, rfl, J⟩
