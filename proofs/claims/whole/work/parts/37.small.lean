/-! ===== groom, change, feed, force, count, taken ===== -/
theorem M_in_or {x : Int32} {b : Nat} (hb : b < 2 ^ 31) : ((x < 0 ∨ nI b < x) ∧ M_in x.toInt64 0 (lN b) = 0) ∨ ∃ j, j ≤ b ∧ x = nI j ∧ M_in x.toInt64 0 (lN b) = 1 := by
  rcases i32_rng x hb with h | h | ⟨j, hj, rfl⟩
  · exact Or.inl ⟨Or.inl h, M_in_out hb (Or.inl h)⟩
  · exact Or.inl ⟨Or.inr h, M_in_out hb (Or.inr h)⟩
  · exact Or.inr ⟨j, hj, rfl, M_in_yes hb hj⟩
theorem S_isKind_sp {x : Int32} : ((x < 0 ∨ nI 5 < x) ∧ S_isKind x = 0) ∨ ∃ j, j ≤ 5 ∧ x = nI j ∧ S_isKind x = 1 := by
  unfold S_isKind
  rcases i32_rng x (b := 5) (by omega) with h | h | ⟨j, hj, rfl⟩
  · exact Or.inl ⟨Or.inl h, by rw [if_pos h]⟩
  · exact Or.inl ⟨Or.inr h, by rw [if_neg (fun q => absurd (Int32.lt_trans h q) (by decide)), if_neg (show ¬ x < 6 from fun q => by
      obtain ⟨k, hk, rfl⟩ := nI_of (fun q => absurd (Int32.lt_trans h q) (by decide) : ¬ x < 0)
      have a := (nI_ltI (by omega) hk).mp h
      have b := (nI_ltI (b := 6) hk (by omega)).mp q
      omega)]⟩
  · exact Or.inr ⟨j, hj, rfl, by rw [if_neg (nI_pos (by omega)), if_pos (show nI j < 6 from nI_lt (b := 6) (by omega) (by omega))]⟩
def newG (gr : Nat → Nat → Nat) (n k N T : Nat) : Nat → Nat → Nat := fun a b => if a = n then (match b with | 0 => k | 1 => N | 2 => T | 3 => 20 | _ => n) else gr a b
theorem newG_n (gr : Nat → Nat → Nat) {n k N T a b : Nat} (h : a ≠ n) : newG gr n k N T a b = gr a b := if_neg h
theorem newG_s (gr : Nat → Nat → Nat) {n k N T b : Nat} : newG gr n k N T n b = (match b with | 0 => k | 1 => N | 2 => T | 3 => 20 | _ => n) := if_pos rfl
theorem groom_agree (x1 x2 x3 : Int32) : Agree (S_groom x1 x2 x3) (M_groom x1 x2 x3) := by
  intro μ ν I
  have I0 := I
  obtain ⟨hs, gr, tc, X, B, z, sk, sm, sv, IC⟩ := I
  have IC0 := IC
  obtain ⟨⟨h, ht, hA, hM⟩, -, -, -, -⟩ := IC
  have hn := h.2.2.2.1
  have h3 : rd μ 1 0 3 = nI (hs 3) := hA.1 3 (by decide)
  have k3 := hM.2.2.2.1
  have no : S_groom x1 x2 x3 μ = some (-2, μ) → M_groom x1 x2 x3 ν = some (-2, ν) → ∃ r μ' ν', S_groom x1 x2 x3 μ = some (r, μ') ∧ M_groom x1 x2 x3 ν = some (r, ν') ∧ Inv μ' ν' := fun a b => ⟨-2, μ, ν, a, b, I0⟩
  rcases S_isKind_sp (x := x1) with ⟨q1, e1⟩ | ⟨k, hk, rfl, e1⟩
  · refine no ?_ ?_
    · unfold S_groom
      rw [e1, nm_eq, if_pos rfl]
    · unfold M_groom
      rw [show (5 : Int64) = lN 5 from rfl, M_in_out (by omega) q1, nm_eq, if_pos rfl]
  have f1 : M_in (nI k).toInt64 0 5 = 1 := M_in_yes (b := 5) (by omega) hk
  rcases i32_rng x2 (b := 9) (by omega) with q2 | q2 | ⟨N, hN, rfl⟩
  · refine no ?_ ?_
    · unfold S_groom
      rw [e1, nm_eq, if_neg (by decide), if_pos q2]
    · unfold M_groom
      rw [f1, nm_eq, if_neg (by decide), show (9 : Int64) = lN 9 from rfl, M_in_out (by omega) (Or.inl q2), nm_eq, if_pos rfl]
  · refine no ?_ ?_
    · unfold S_groom
      rw [e1, nm_eq, if_neg (by decide), if_neg (fun q => absurd (Int32.lt_trans q2 q) (by decide)), if_pos (show 9 < x2 from q2)]
    · unfold M_groom
      rw [f1, nm_eq, if_neg (by decide), show (9 : Int64) = lN 9 from rfl, M_in_out (by omega) (Or.inr q2), nm_eq, if_pos rfl]
  have f2 : M_in (nI N).toInt64 0 9 = 1 := M_in_yes (b := 9) (by omega) hN
  have g2 : ¬ (9 : Int32) < nI N := nI_nlt (a := 9) (by omega) (by omega)
  rcases i32_rng x3 (b := 15) (by omega) with q3 | q3 | ⟨T, hT, rfl⟩
  · refine no ?_ ?_
    · unfold S_groom
      rw [e1, nm_eq, if_neg (by decide), if_neg (nI_pos (by omega)), if_neg g2, if_pos q3]
    · unfold M_groom
      rw [f1, nm_eq, if_neg (by decide), f2, nm_eq, if_neg (by decide), show (15 : Int64) = lN 15 from rfl, M_in_out (by omega) (Or.inl q3), nm_eq, if_pos rfl]
  · refine no ?_ ?_
    · unfold S_groom
      rw [e1, nm_eq, if_neg (by decide), if_neg (nI_pos (by omega)), if_neg g2, if_neg (fun q => absurd (Int32.lt_trans q3 q) (by decide)), if_pos (show 15 < x3 from q3)]
    · unfold M_groom
      rw [f1, nm_eq, if_neg (by decide), f2, nm_eq, if_neg (by decide), show (15 : Int64) = lN 15 from rfl, M_in_out (by omega) (Or.inr q3), nm_eq, if_pos rfl]
  have f3 : M_in (nI T).toInt64 0 15 = 1 := M_in_yes (b := 15) (by omega) hT
  have g3 : ¬ (15 : Int32) < nI T := nI_nlt (a := 15) (by omega) (by omega)
  have eS : S_groom (nI k) (nI N) (nI T) μ = if nI (hs 3) < 6 then ( chk (inb (rd μ 1 0 3) 6) <| nm (up μ 2 (ix (rd μ 1 0 3)) 0 (nI k)) fun μ10 => nm (up μ10 2 (ix (rd μ 1 0 3)) 1 (nI N)) fun μ11 => nm (up μ11 2 (ix (rd μ 1 0 3)) 2 (nI T)) fun μ12 => nm (up μ12 2 (ix (rd μ 1 0 3)) 3 20) fun μ13 => nm (up μ13 2 (ix (rd μ 1 0 3)) 4 (rd μ13 1 0 3)) fun μ14 => nm (up μ14 1 0 3 ((rd μ14 1 0 3) + 1)) fun μ15 => some ((rd μ15 1 0 3) - 1, μ15)) else some (-4, μ) := by
    unfold S_groom
    rw [e1, nm_eq, if_neg (by decide), if_neg (nI_pos (by omega)), if_neg g2, if_neg (nI_pos (by omega)), if_neg g3, h3]
  have eM : ∀ t : Option (Int32 × Mem), (if nI (hs 3) = 6 then some (-4, ν) else t) = (if nI (hs 3) = 6 then some (-4, ν) else ( chk (inb (rd ν 0 0 12) 6) <| nm (up ν 4 0 (ix (rd ν 0 0 12)) (nI k)) fun μ12 => chk (inb (3 * (rd μ12 0 0 12)) 18) <| nm (up μ12 5 0 (ix (3 * (rd μ12 0 0 12))) (nI N)) fun μ14 => chk (inb ((3 * (rd μ14 0 0 12)) + 1) 18) <| nm (up μ14 5 0 (ix ((3 * (rd μ14 0 0 12)) + 1)) (nI T)) fun μ16 => chk (inb ((3 * (rd μ16 0 0 12)) + 2) 18) <| nm (up μ16 5 0 (ix ((3 * (rd μ16 0 0 12)) + 2)) 20) fun μ18 => chk (inb (rd μ18 0 0 12) 6) <| nm (up μ18 6 0 (ix (rd μ18 0 0 12)) (rd μ18 0 0 12)) fun μ20 => nm (up μ20 0 0 12 ((rd μ20 0 0 12) + 1)) fun μ21 => some ((rd μ21 0 0 12) - 1, μ21))) → M_groom (nI k) (nI N) (nI T) ν = (if nI (hs 3) = 6 then some (-4, ν) else t) := by
    intro t e
    rw [e]
    unfold M_groom
    rw [f1, nm_eq, if_neg (by decide), f2, nm_eq, if_neg (by decide), f3, nm_eq, if_neg (by decide), k3]
  by_cases q : hs 3 = 6
  · refine ⟨-4, μ, ν, ?_, ?_, I0⟩
    · rw [eS, if_neg (show ¬ nI (hs 3) < 6 from nI_nlt (b := 6) (by omega) (by omega))]
    · rw [eM (some (-4, ν)) (by rw [if_pos (by rw [q]; rfl), if_pos (by rw [q]; rfl)]), if_pos (by rw [q]; rfl)]
  · have hlt : hs 3 < 6 := by omega
    have ne6 : ¬ nI (hs 3) = 6 := nI_lit_ne (b := 6) (by omega) (by omega) q
    obtain ⟨m, em⟩ : ∃ m, m = up (up (up (up (up (up μ 2 (hs 3) 0 (nI k)) 2 (hs 3) 1 (nI N)) 2 (hs 3) 2 (nI T)) 2 (hs 3) 3 20) 2 (hs 3) 4 (nI (hs 3))) 1 0 3 (nI (hs 3 + 1)) := ⟨_, rfl⟩
    obtain ⟨w, ew⟩ : ∃ w, w = up (up (up (up (up (up ν 4 0 (hs 3) (nI k)) 5 0 (3 * hs 3) (nI N)) 5 0 (3 * hs 3 + 1) (nI T)) 5 0 (3 * hs 3 + 2) 20) 6 0 (hs 3) (nI (hs 3))) 0 0 12 (nI (hs 3 + 1)) := ⟨_, rfl⟩
    have hS : S_groom (nI k) (nI N) (nI T) μ = some (nI (hs 3), m) := by
      rw [eS, if_pos (show nI (hs 3) < 6 from nI_lt (b := 6) (by omega) (by omega)), h3, chk_eq _ (inb_nI (by omega) (by omega))]
      simp only [nm_eq, rd_up_f (show (1 : Nat) ≠ 2 by decide), h3]
      rw [ix_nI (by omega), nI_1, rd_up_s, nI_pred, ← em]
    have hMM : M_groom (nI k) (nI N) (nI T) ν = some (nI (hs 3), w) := by
      rw [eM (some (nI (hs 3), w)), if_neg ne6]
      rw [if_neg ne6, if_neg ne6, k3, chk_eq _ (inb_nI (by omega) (by omega))]
      simp only [nm_eq, rd_up_f (show (0 : Nat) ≠ 4 by decide), rd_up_f (show (0 : Nat) ≠ 5 by decide), rd_up_f (show (0 : Nat) ≠ 6 by decide), k3]
      rw [litI 3, pk_mul, chk_eq _ (inb_nI (by omega) (by omega)), nI_1, chk_eq _ (inb_nI (by omega) (by omega)), litI 2, nI_add, chk_eq _ (inb_nI (by omega) (by omega)), chk_eq _ (inb_nI (by omega) (by omega)), nI_1, rd_up_s, nI_pred, ix_nI (by omega), ix_nI (by omega), ix_nI (by omega), ix_nI (by omega), ← ew]
    have n1 : u1 hs 3 (hs 3 + 1) 3 = hs 3 + 1 := u1_s _ _ _
    refine ⟨_, m, w, hS, hMM, Inv.house (hs' := u1 hs 3 (hs 3 + 1)) (gr' := newG gr (hs 3) k N T) IC0 ⟨h.1, h.2.1, h.2.2.1, by rw [n1]; omega, fun g hg => ?_, fun a b ha hb e => ?_⟩ ⟨fun j hj => ?_, fun g j hg hj => ?_⟩ ⟨?_, ?_, ?_, ?_, fun g hg => ?_⟩ (by rw [n1]; omega) (fun g hg => newG_n _ (by omega)) ?_ (fun j => ?_) (fun g j => ?_) ?_⟩
    · rw [n1] at hg ⊢
      by_cases qg : g = hs 3
      · subst qg
        simp only [newG_s]
        exact ⟨by omega, hN, hT, by omega, by omega⟩
      · simp only [newG_n _ qg]
        obtain ⟨b0, b1, b2, b3, b4⟩ := h.2.2.2.2.1 g (by omega)
        exact ⟨b0, b1, b2, b3, by omega⟩
    · rw [n1] at ha hb
      by_cases qa : a = hs 3
      · by_cases qb : b = hs 3
        · omega
        · subst qa
          simp only [newG_s, newG_n _ qb] at e
          have := (h.2.2.2.2.1 b (by omega)).2.2.2.2
          omega
      · by_cases qb : b = hs 3
        · subst qb
          simp only [newG_s, newG_n _ qa] at e
          have := (h.2.2.2.2.1 a (by omega)).2.2.2.2
          omega
        · simp only [newG_n _ qa, newG_n _ qb] at e
          exact h.2.2.2.2.2 a b (by omega) (by omega) e
    · rw [em]
      by_cases qj : j = 3
      · subst qj; rw [rd_up_s, n1]
      · rw [rd_up_j qj, rd_up_f (by decide), rd_up_f (by decide), rd_up_f (by decide), rd_up_f (by decide), rd_up_f (by decide), u1_n _ qj]; exact hA.1 j hj
    · rw [n1] at hg
      rw [em, rd_up_f (by decide)]
      show rd (up (up (up (up (up μ 2 (hs 3) 0 (nI k)) 2 (hs 3) 1 (nI N)) 2 (hs 3) 2 (nI T)) 2 (hs 3) 3 20) 2 (hs 3) 4 (nI (hs 3))) 2 g j = _
      by_cases qg : g = hs 3
      · subst qg
        rw [newG_s]
        match j, hj with
        | 0, _ => rw [rd_up_j (by decide), rd_up_j (by decide), rd_up_j (by decide), rd_up_j (by decide), rd_up_s]; rfl
        | 1, _ => rw [rd_up_j (by decide), rd_up_j (by decide), rd_up_j (by decide), rd_up_s]; rfl
        | 2, _ => rw [rd_up_j (by decide), rd_up_j (by decide), rd_up_s]; rfl
        | 3, _ => rw [rd_up_j (by decide), rd_up_s]; rfl
        | 4, _ => rw [rd_up_s]; rfl
      · rw [rd_up_i qg, rd_up_i qg, rd_up_i qg, rd_up_i qg, rd_up_i qg, newG_n _ qg]
        exact hA.2 g j (by omega) hj
    · rw [ew]; exact hM.1
    · rw [ew]; exact hM.2.1
    · rw [ew]; exact hM.2.2.1
    · rw [ew, n1]; rfl
    · rw [n1] at hg
      have r4 : rd w 4 0 g = rd (up ν 4 0 (hs 3) (nI k)) 4 0 g := by rw [ew, rd_up_f (by decide), rd_up_f (by decide), rd_up_f (by decide), rd_up_f (by decide), rd_up_f (by decide)]
      have r6 : rd w 6 0 g = rd (up ν 6 0 (hs 3) (nI (hs 3))) 6 0 g := by rw [ew, rd_up_f (by decide)]; rfl
      have r5 : ∀ i, rd w 5 0 i = rd (up (up (up ν 5 0 (3 * hs 3) (nI N)) 5 0 (3 * hs 3 + 1) (nI T)) 5 0 (3 * hs 3 + 2) 20) 5 0 i := fun i => by rw [ew, rd_up_f (by decide), rd_up_f (by decide)]; rfl
      rw [r4, r5, r5, r5, r6]
      by_cases qg : g = hs 3
      · subst qg
        simp only [newG_s]
        refine ⟨rd_up_s _ _ _ _ _, ?_, ?_, ?_, rd_up_s _ _ _ _ _⟩
        · rw [rd_up_j (by omega), rd_up_j (by omega), rd_up_s]
        · rw [rd_up_j (by omega), rd_up_s]
        · rw [rd_up_s]; rfl
      · simp only [newG_n _ qg]
        obtain ⟨b0, b1, b2, b3, b4⟩ := hM.2.2.2.2 g (by omega)
        refine ⟨by rw [rd_up_j qg]; exact b0, ?_, ?_, ?_, by rw [rd_up_j qg]; exact b4⟩
        · rw [rd_up_j (by omega), rd_up_j (by omega), rd_up_j (by omega)]; exact b1
        · rw [rd_up_j (by omega), rd_up_j (by omega), rd_up_j (by omega)]; exact b2
        · rw [rd_up_j (by omega), rd_up_j (by omega), rd_up_j (by omega)]; exact b3
    · rw [em]
      exact (((((RA.rf.wr' (by decide)).wr' (by decide)).wr' (by decide)).wr' (by decide)).wr' (by decide)).wr' (by decide)
    · rw [em, rd_up_i (by decide)]; rfl
    · rw [em, rd_up_f (by decide), rd_up_i (by omega), rd_up_i (by omega), rd_up_i (by omega), rd_up_i (by omega), rd_up_i (by omega)]
    · rw [ew]
      exact (((((RM.rf.wr' (by decide)).wr' (by decide)).wr' (by decide)).wr' (by decide)).wr' (by decide)).wr0 (by decide)
theorem change_agree (x1 x2 : Int32) : Agree (S_change x1 x2) (M_change x1 x2) := by
  intro μ ν I
  have I0 := I
  obtain ⟨hs, gr, tc, X, B, z, sk, sm, sv, IC⟩ := I
  have IC0 := IC
  obtain ⟨⟨h, ht, hA, hM⟩, -, -, -, -⟩ := IC
  have hn := h.2.2.2.1
  have h3 : rd μ 1 0 3 = nI (hs 3) := hA.1 3 (by decide)
  have k3 := hM.2.2.2.1
  have no : S_change x1 x2 μ = some (-2, μ) → M_change x1 x2 ν = some (-2, ν) → ∃ r μ' ν', S_change x1 x2 μ = some (r, μ') ∧ M_change x1 x2 ν = some (r, ν') ∧ Inv μ' ν' := fun a b => ⟨-2, μ, ν, a, b, I0⟩
  rcases S_isGroom_sp (x := x1) h3 with ⟨p1, e1⟩ | ⟨p1, e1⟩
  rotate_left
  · refine no ?_ ?_
    · unfold S_change
      rw [e1, nm_eq, if_pos rfl]
    · unfold M_change
      rw [bnd_of (M_isOne_sp k3 (by omega)), if_neg p1, if_pos rfl]
  rcases S_isGroom_sp (x := x2) h3 with ⟨p2, e2⟩ | ⟨p2, e2⟩
  rotate_left
  · refine no ?_ ?_
    · unfold S_change
      rw [e1, nm_eq, if_neg (by decide), e2, nm_eq, if_pos rfl]
    · unfold M_change
      rw [bnd_of (M_isOne_sp k3 (by omega)), if_pos p1, if_neg (by decide), bnd_of (M_isOne_sp k3 (by omega)), if_neg p2, if_pos rfl]
  by_cases q : x1 = x2
  · refine no ?_ ?_
    · unfold S_change
      rw [e1, nm_eq, if_neg (by decide), e2, nm_eq, if_neg (by decide), if_pos q]
    · unfold M_change
      rw [bnd_of (M_isOne_sp k3 (by omega)), if_pos p1, if_neg (by decide), bnd_of (M_isOne_sp k3 (by omega)), if_pos p2, if_neg (by decide), if_pos q]
  obtain ⟨a, ha, rfl⟩ := gOK_nI p1 (by omega)
  obtain ⟨b, hb, rfl⟩ := gOK_nI p2 (by omega)
  have hab : a ≠ b := fun z => q (by rw [z])
  have A4 : ∀ g, g < hs 3 → rd μ 2 g 4 = nI (gr g 4) := fun g hg => hA.2 g 4 hg (by decide)
  have M4 : ∀ g, g < hs 3 → rd ν 6 0 g = nI (gr g 4) := fun g hg => (hM.2.2.2.2 g hg).2.2.2.2
  have ga : ∀ {v}, u2 (u2 gr a 4 (gr b 4)) b 4 v a 4 = gr b 4 := by
    intro v
    rw [u2_n _ (fun z => hab z.1), u2_s]
  have gb : u2 (u2 gr a 4 (gr b 4)) b 4 (gr a 4) b 4 = gr a 4 := u2_s _ _ _ _
  have go : ∀ g j, (g ≠ a ∧ g ≠ b) ∨ j ≠ 4 → u2 (u2 gr a 4 (gr b 4)) b 4 (gr a 4) g j = gr g j := by
    intro g j hh
    rw [u2_n _ (by omega), u2_n _ (by omega)]
  refine ⟨nI (gr b 4), up (up μ 2 a 4 (nI (gr b 4))) 2 b 4 (nI (gr a 4)), up (up ν 6 0 a (nI (gr b 4))) 6 0 b (nI (gr a 4)), ?_, ?_, Inv.house (hs' := hs) (gr' := u2 (u2 gr a 4 (gr b 4)) b 4 (gr a 4)) IC0 ⟨h.1, h.2.1, h.2.2.1, hn, fun g hg => ?_, fun g g' hg hg' e => ?_⟩ (HA_u2 (HA_u2 hA)) ?_ (Nat.le_refl _) (fun g hg => go g 0 (Or.inr (by decide))) ((RA.rf.wr' (by decide)).wr' (by decide)) (fun j => rfl) (fun g j => by rw [rd_up_i (by omega), rd_up_i (by omega)]) ((RM.rf.wr' (by decide)).wr' (by decide))⟩
  · unfold S_change
    rw [e1, nm_eq, if_neg (by decide), e2, nm_eq, if_neg (by decide), if_neg q, chk_eq _ (inb_nI (by omega) (by omega)), nm_eq, chk_eq _ (inb_nI (by omega) (by omega)), chk_eq _ (inb_nI (by omega) (by omega)), nm_eq, chk_eq _ (inb_nI (by omega) (by omega)), nm_eq, chk_eq _ (inb_nI (by omega) (by omega)), ix_nI (by omega), ix_nI (by omega), A4 a ha, A4 b hb, rd_up_i hab, rd_up_s]
  · unfold M_change
    rw [bnd_of (M_isOne_sp k3 (by omega)), if_pos p1, if_neg (by decide), bnd_of (M_isOne_sp k3 (by omega)), if_pos p2, if_neg (by decide), if_neg q]
    unfold M_swaps
    rw [chk_eq _ (inb_nI (by omega) (by omega)), nm_eq, chk_eq _ (inb_nI (by omega) (by omega)), chk_eq _ (inb_nI (by omega) (by omega)), nm_eq, chk_eq _ (inb_nI (by omega) (by omega)), nm_eq, bnd_eq, chk_eq _ (inb_nI (by omega) (by omega)), ix_nI (by omega), ix_nI (by omega), M4 a ha, M4 b hb, rd_up_j hab, rd_up_s]
  · obtain ⟨b0, b1, b2, b3, b4⟩ := h.2.2.2.2.1 g hg
    rw [go g 0 (Or.inr (by decide)), go g 1 (Or.inr (by decide)), go g 2 (Or.inr (by decide)), go g 3 (Or.inr (by decide))]
    refine ⟨b0, b1, b2, b3, ?_⟩
    by_cases g1 : g = a
    · subst g1; rw [ga]; exact (h.2.2.2.2.1 b hb).2.2.2.2
    · by_cases g2 : g = b
      · subst g2; rw [gb]; exact (h.2.2.2.2.1 a ha).2.2.2.2
      · rw [go g 4 (Or.inl ⟨g1, g2⟩)]; exact b4
  · have inj := h.2.2.2.2.2
    have val : ∀ g, u2 (u2 gr a 4 (gr b 4)) b 4 (gr a 4) g 4 = gr (if g = a then b else if g = b then a else g) 4 := by
      intro g
      by_cases g1 : g = a
      · subst g1; rw [ga, if_pos rfl]
      · by_cases g2 : g = b
        · subst g2; rw [gb, if_neg g1, if_pos rfl]
        · rw [go g 4 (Or.inl ⟨g1, g2⟩), if_neg g1, if_neg g2]
    rw [val g, val g'] at e
    have := inj _ _ (by split; exact hb; split; exact ha; exact hg) (by split; exact hb; split; exact ha; exact hg') e
    by_cases g1 : g = a <;> by_cases g2 : g = b <;> by_cases g3 : g' = a <;> by_cases g4 : g' = b <;> simp_all
  · obtain ⟨c1, c2, c3, c4, c5⟩ := hM
    refine ⟨c1, c2, c3, c4, fun g hg => ?_⟩
    obtain ⟨b0, b1, b2, b3, b4⟩ := c5 g hg
    rw [go g 0 (Or.inr (by decide)), go g 1 (Or.inr (by decide)), go g 2 (Or.inr (by decide)), go g 3 (Or.inr (by decide))]
    refine ⟨b0, b1, b2, b3, ?_⟩
    by_cases g2 : g = b
    · subst g2; rw [gb, rd_up_s]
    · rw [rd_up_j g2]
      by_cases g1 : g = a
      · subst g1; rw [ga, rd_up_s]
      · rw [rd_up_j g1, go g 4 (Or.inl ⟨g1, g2⟩)]; exact b4
