/-! ===== feed, force, count, taken, image, back ===== -/
theorem feed_agree (x1 : Int32) : Agree (S_feed x1) (M_feed x1) := by
  intro μ ν I
  have I0 := I
  obtain ⟨hs, gr, tc, X, B, z, sk, sm, sv, ⟨h, ht, hA, hM⟩, ⟨h5, h6⟩, ⟨h7, h8⟩, ⟨h9, h10, h11⟩, h12⟩ := I
  have hz := h7.1
  have a1 : rd μ 10 0 1 = nI z := h7.2.1
  have b1 : rd ν 0 0 6 = nI z := h8.1
  have out : x1 < 0 ∨ nI 255 < x1 → ∃ r μ' ν', S_feed x1 μ = some (r, μ') ∧ M_feed x1 ν = some (r, ν') ∧ Inv μ' ν' := by
    intro q
    refine ⟨-2, μ, ν, ?_, ?_, I0⟩
    · unfold S_feed
      rcases q with q | q
      · rw [if_pos q]
      · rw [if_neg (fun w => absurd (Int32.lt_trans q w) (by decide)), if_pos (show 255 < x1 from q)]
    · unfold M_feed
      rw [show (255 : Int64) = lN 255 from rfl, M_in_out (by omega) q, nm_eq, if_pos rfl]
  rcases i32_rng x1 (b := 255) (by omega) with q | q | ⟨v, hv, rfl⟩
  · exact out (Or.inl q)
  · exact out (Or.inr q)
  have f1 : M_in (nI v).toInt64 0 255 = 1 := M_in_yes (b := 255) (by omega) hv
  have g1 : ¬ (255 : Int32) < nI v := nI_nlt (a := 255) (by omega) (by omega)
  by_cases q : z = 160
  · refine ⟨-4, μ, ν, ?_, ?_, I0⟩
    · unfold S_feed
      rw [if_neg (nI_pos (by omega)), if_neg g1, a1, if_neg (show ¬ nI z < 160 from nI_nlt (b := 160) (by omega) (by omega))]
    · unfold M_feed
      rw [f1, nm_eq, if_neg (by decide), b1, if_pos (by rw [q]; rfl)]
  · refine ⟨nI (z + 1), up (up μ 11 0 z (nI v)) 10 0 1 (nI (z + 1)), up (up ν 3 0 z (nI v)) 0 0 6 (nI (z + 1)), ?_, ?_, hs, gr, tc, X, (fun i => if i = z then nI v else B i), z + 1, sk, sm, sv, ⟨h, ht, hA.cg (fun _ => rfl) (fun _ _ => rfl), hM.cg (fun j hj => rd_up_j (by revert j; decide)) (fun f j hf => ?_)⟩, ⟨h5.cg rfl (fun f i j hf _ => ?_), h6.cg rfl (fun f j hf => ?_)⟩, ⟨⟨by omega, rd_up_s _ _ _ _ _, fun i hi => ?_⟩, ⟨rd_up_s _ _ _ _ _, fun i hi => ?_⟩⟩, ⟨h9, h10.cg (fun f i j hf => ?_), h11.cg (fun f j hf => ?_)⟩, h12.cg (Nat.le_refl _) (fun _ _ => rfl) (Nat.le_refl _) rfl (fun _ => rfl) (fun _ _ => rfl) (fun j hj => rd_up_j (by revert j; decide)) (fun f j hf => ?_)⟩
    · unfold S_feed
      rw [if_neg (nI_pos (by omega)), if_neg g1, a1, if_pos (show nI z < 160 from nI_lt (b := 160) (by omega) (by omega)), chk_eq _ (inb_nI (by omega) (by omega)), nm_eq, nm_eq, ix_nI (by omega), rd_up_f (show (10 : Nat) ≠ 11 by decide), a1, nI_1, rd_up_s]
    · unfold M_feed
      rw [f1, nm_eq, if_neg (by decide), b1, if_neg (show ¬ nI z = 160 from nI_lit_ne (b := 160) (by omega) (by omega) q), chk_eq _ (inb_nI (by omega) (by omega)), nm_eq, nm_eq, ix_nI (by omega), rd_up_f (show (0 : Nat) ≠ 3 by decide), b1, nI_1, rd_up_s]
    · rw [rd_up_f (by revert f; decide), rd_up_f (by revert f; decide)]
    · rw [rd_up_f (by revert f; decide), rd_up_f (by revert f; decide)]
    · rw [rd_up_f (by revert f; decide), rd_up_f (by revert f; decide)]
    · rw [rd_up_f (by decide)]
      show _ = if i = z then nI v else B i
      by_cases w : i = z
      · subst w; rw [rd_up_s, if_pos rfl]
      · rw [rd_up_j w, if_neg w]; exact h7.2.2 i (by omega)
    · rw [rd_up_f (by decide)]
      show rd (up ν 3 0 z (nI v)) 3 0 i = (if i = z then nI v else B i) ∧ ¬ (if i = z then nI v else B i) < 0
      by_cases w : i = z
      · subst w; rw [rd_up_s, if_pos rfl]; exact ⟨rfl, nI_pos (by omega)⟩
      · rw [rd_up_j w, if_neg w]; exact h8.2 i (by omega)
    · rw [rd_up_f (by revert f; decide), rd_up_f (by revert f; decide)]
    · rw [rd_up_f (by revert f; decide), rd_up_f (by revert f; decide)]
    · rw [rd_up_f (by revert f; decide), rd_up_f (by revert f; decide)]
theorem force_agree (x1 : Int32) : Agree (fun μ => some (S_force x1 μ)) (fun ν => some (M_force x1 ν)) := by
  intro μ ν I
  have I0 := I
  obtain ⟨hs, gr, tc, X, B, z, sk, sm, sv, IC⟩ := I
  have IC0 := IC
  obtain ⟨⟨h, ht, hA, hM⟩, ⟨h5, h6⟩, -, -, -⟩ := IC
  have a1 : rd μ 0 0 4 = nI tc := h5.1
  have b1 : rd ν 0 0 3 = nI tc := h6.1
  by_cases q : gOK tc x1
  · obtain ⟨t, hq, rfl⟩ := gOK_nI q (by omega)
    refine ⟨nI (hs 2), up μ 1 0 2 (nI t), up ν 0 0 4 (nI t), ?_, ?_, Inv.house (hs' := u1 hs 2 t) (gr' := gr) IC0 ⟨h.1, h.2.1, hq, h.2.2.2⟩ (HA_u1 hA (by decide)) (HM_u1 (k := 2) hM (by decide)) (Nat.le_refl _) (fun _ _ => rfl) (RA.rf.wr' (by decide)) (fun j => by rw [rd_up_i (by decide)]) (fun g j => by rw [rd_up_f (by decide)]) (RM.rf.wr0 (by decide))⟩
    · show some (S_force _ μ) = _
      unfold S_force
      rw [if_neg (nI_pos (by omega)), a1, if_pos (nI_lt hq (by omega)), nm_eq, nm_eq, hA.1 2 (by decide)]
    · show some (M_force _ ν) = _
      unfold M_force
      rw [b1, M_in_last (by omega), if_pos q, nm_eq, if_neg (by decide), nm_eq, nm_eq, hM.2.2.1]
  · refine ⟨-2, μ, ν, ?_, ?_, I0⟩
    · show some (S_force _ μ) = _
      unfold S_force
      by_cases w : x1 < 0
      · rw [if_pos w]
      · rw [if_neg w, a1, if_neg (fun w2 => q ⟨w, w2⟩)]
    · show some (M_force _ ν) = _
      unfold M_force
      rw [b1, M_in_last (by omega), if_neg q, nm_eq, if_pos rfl]
theorem Ho_boiling_sp {h n l : Nat} {P : Nat → Nat} {μ : Mem} (hn : n ≤ 6) (hs : rd μ 1 h 3 = nI n) (hl : rd μ 1 h 1 = nI l) (hl2 : l < 2 ^ 31) (hP : ∀ g, g < n → rd μ 2 (g + 6 * h) 3 = nI (P g) ∧ P g ≤ 99) : Ho_boiling h μ = some (nI (sm (fun g => if P g < l then 0 else 1) n)) := by
  have key : ∀ k g F : Nat, g + k = n → k < F → Ho_boiling_4L F h (nI (sm (fun g => if P g < l then 0 else 1) g)) (nI g) μ = some (nI (sm (fun g => if P g < l then 0 else 1) n)) := by
    intro k
    induction k with
    | zero =>
      intro g F hg hF
      obtain ⟨F, rfl⟩ : ∃ F', F = F' + 1 := ⟨F - 1, by omega⟩
      show Ho_boiling_4 _ _ _ _ _ = _
      have hg' : g = n := by omega
      subst hg'
      rw [Ho_boiling_4, hs, if_neg (nI_nlt (Nat.le_refl _) (by omega))]
    | succ k ih =>
      intro g F hg hF
      obtain ⟨F, rfl⟩ : ∃ F', F = F' + 1 := ⟨F - 1, by omega⟩
      show Ho_boiling_4 _ _ _ _ _ = _
      obtain ⟨p1, p2⟩ := hP g (by omega)
      have := ih (g + 1) F (by omega) (by omega)
      rw [sm] at this
      rw [Ho_boiling_4, hs, if_pos (nI_lt (by omega) (by omega)), chk_eq _ (inb_nI (by omega) (by omega)), ix_nI (by omega), p1, hl]
      unfold Ho_boiling_31
      simp only [nm_eq]
      rw [nI_1, nI_1]
      by_cases q : P g < l
      · rw [if_pos q] at this
        rw [if_pos (nI_lt q (by omega))]
        exact this
      · rw [if_neg q] at this
        rw [if_neg (nI_nlt (by omega) (by omega))]
        exact this
  exact key n 0 1000 (by omega) (by omega)
def cntV (hs : Nat → Nat) (gr : Nat → Nat → Nat) (j : Nat) : Nat := match j with | 0 => hs 3 | 1 => sm (fun g => gr g 3) (hs 3) | _ => sm (fun g => if gr g 3 < hs 1 then 0 else 1) (hs 3)
theorem M_count_sp {hs : Nat → Nat} {gr : Nat → Nat → Nat} {tc : Nat} {ν : Mem} (h : HOK hs gr tc) (hM : HM hs gr ν) {j : Nat} (hj : j ≤ 2) : M_count_56L 1000 (nI j) 0 0 0 ν = some (nI (cntV hs gr j)) := by
  have hn := h.2.2.2.1
  have hl := h.2.1
  have key : ∀ k g F : Nat, g + k = hs 3 → k < F → M_count_56L F (nI j) (nI (sm (fun g => if gr g 3 < hs 1 then 0 else 1) g)) (nI (sm (fun g => gr g 3) g)) (nI g) ν = some (nI (cntV hs gr j)) := by
    intro k
    induction k with
    | zero =>
      intro g F hg hF
      obtain ⟨F, rfl⟩ : ∃ F', F = F' + 1 := ⟨F - 1, by omega⟩
      show M_count_56 _ _ _ _ _ _ = _
      have hg' : g = hs 3 := by omega
      subst hg'
      rw [M_count_56, hM.2.2.2.1, if_neg (nI_nlt (Nat.le_refl _) (by omega))]
      obtain rfl | rfl | rfl : j = 0 ∨ j = 1 ∨ j = 2 := by omega
      · rw [if_pos (by decide)]; rfl
      · rw [if_neg (by decide), if_pos (by decide)]; rfl
      · rw [if_neg (by decide), if_neg (by decide)]; rfl
    | succ k ih =>
      intro g F hg hF
      obtain ⟨F, rfl⟩ : ∃ F', F = F' + 1 := ⟨F - 1, by omega⟩
      show M_count_56 _ _ _ _ _ _ = _
      have p1 := (hM.2.2.2.2 g (by omega)).2.2.2.1
      have p2 := (h.2.2.2.2.1 g (by omega)).2.2.2.1
      have := ih (g + 1) F (by omega) (by omega)
      rw [sm, sm] at this
      rw [M_count_56, hM.2.2.2.1, if_pos (nI_lt (by omega) (by omega)), litI 3, pk_mul, litI 2, nI_add, chk_eq _ (inb_nI (by omega) (by omega)), ix_nI (by omega), p1, hM.2.1]
      unfold M_count_89
      simp only [nm_eq]
      rw [litI 3, pk_mul, litI 2, nI_add, chk_eq _ (inb_nI (by omega) (by omega)), chk_eq _ (inb_nI (by omega) (by omega)), ix_nI (by omega), p1, nI_add, litI 0, nI_add, litI 1, nI_add, nI_add]
      by_cases q : gr g 3 < hs 1
      · rw [if_pos q] at this
        rw [if_pos (nI_lt q (by omega))]
        exact this
      · rw [if_neg q] at this
        rw [if_neg (nI_nlt (by omega) (by omega))]
        exact this
  exact key (hs 3) 0 1000 (by omega) (by omega)
theorem count_agree (x1 : Int32) {μ ν : Mem} (I : Inv μ ν) : ∃ r, S_count x1 μ = some r ∧ M_count x1 ν = some r := by
  obtain ⟨hs, gr, tc, X, B, z, sk, sm', sv, ⟨h, ht, hA, hM⟩, ⟨h5, h6⟩, ⟨h7, h8⟩, -, -⟩ := I
  have hn := h.2.2.2.1
  rcases i32_rng x1 (b := 5) (by omega) with q | q | ⟨j, hj, rfl⟩
  · refine ⟨-2, ?_, ?_⟩
    · unfold S_count
      rw [if_neg (show ¬ x1 = 0 from neg_ne q (j := 0) (by omega)), if_neg (show ¬ x1 = 1 from neg_ne q (j := 1) (by omega)), if_neg (show ¬ x1 = 2 from neg_ne q (j := 2) (by omega)), if_neg (show ¬ x1 = 3 from neg_ne q (j := 3) (by omega)), if_neg (show ¬ x1 = 4 from neg_ne q (j := 4) (by omega)), if_neg (show ¬ x1 = 5 from neg_ne q (j := 5) (by omega))]
    · unfold M_count
      rw [show (5 : Int64) = lN 5 from rfl, M_in_out (by omega) (Or.inl q), nm_eq, if_pos rfl]
  · refine ⟨-2, ?_, ?_⟩
    · unfold S_count
      rw [if_neg (show ¬ x1 = 0 from big_ne q (j := 0) (by omega) (by omega)), if_neg (show ¬ x1 = 1 from big_ne q (j := 1) (by omega) (by omega)), if_neg (show ¬ x1 = 2 from big_ne q (j := 2) (by omega) (by omega)), if_neg (show ¬ x1 = 3 from big_ne q (j := 3) (by omega) (by omega)), if_neg (show ¬ x1 = 4 from big_ne q (j := 4) (by omega) (by omega)), if_neg (show ¬ x1 = 5 from big_ne q (j := 5) (by omega) (by omega))]
    · unfold M_count
      rw [show (5 : Int64) = lN 5 from rfl, M_in_out (by omega) (Or.inr q), nm_eq, if_pos rfl]
  have eM : M_count (nI j) ν = if (2 : Int32) < nI j then (if nI j = 3 then some (rd ν 0 0 3) else if nI j = 4 then some (rd ν 0 0 6) else some (rd ν 0 0 4)) else M_count_56L 1000 (nI j) 0 0 0 ν := by
    unfold M_count
    rw [show (5 : Int64) = lN 5 from rfl, M_in_yes (by omega) hj, nm_eq, if_neg (by decide)]
  rw [eM]
  obtain rfl | rfl | rfl | rfl | rfl | rfl : j = 0 ∨ j = 1 ∨ j = 2 ∨ j = 3 ∨ j = 4 ∨ j = 5 := by omega
  · rw [if_neg (by decide), M_count_sp h hM (by decide)]
    exact ⟨nI (hs 3), by unfold S_count; rw [if_pos (by decide), hA.1 3 (by decide)], rfl⟩
  · rw [if_neg (by decide), M_count_sp h hM (by decide)]
    exact ⟨nI (sm (fun g => gr g 3) (hs 3)), by unfold S_count; rw [if_neg (by decide), if_pos (by decide), bnd_of (Ho_warm_sp (P := fun g => gr g 3) hn (hA.1 3 (by decide)) (fun g hg => hA.2 g 3 hg (by decide)))], rfl⟩
  · rw [if_neg (by decide), M_count_sp h hM (by decide)]
    exact ⟨nI (sm (fun g => if gr g 3 < hs 1 then 0 else 1) (hs 3)), by unfold S_count; rw [if_neg (by decide), if_neg (by decide), if_pos (by decide), bnd_of (Ho_boiling_sp (P := fun g => gr g 3) hn (hA.1 3 (by decide)) (hA.1 1 (by decide)) (by have := h.2.1; omega) (fun g hg => ⟨hA.2 g 3 hg (by decide), (h.2.2.2.2.1 g hg).2.2.2.1⟩))], rfl⟩
  · rw [if_pos (by decide), if_pos (by decide), h6.1]
    exact ⟨_, by unfold S_count; rw [if_neg (by decide), if_neg (by decide), if_neg (by decide), if_pos (by decide), h5.1], rfl⟩
  · rw [if_pos (by decide), if_neg (by decide), if_pos (by decide), h8.1]
    exact ⟨_, by unfold S_count; rw [if_neg (by decide), if_neg (by decide), if_neg (by decide), if_neg (by decide), if_pos (by decide), h7.2.1], rfl⟩
  · rw [if_pos (by decide), if_neg (by decide), if_neg (by decide), hM.2.2.1]
    exact ⟨_, by unfold S_count; rw [if_neg (by decide), if_neg (by decide), if_neg (by decide), if_neg (by decide), if_neg (by decide), if_pos (by decide), hA.1 2 (by decide)], rfl⟩
/-- is kind k under kind q? -/
def und (k q : Nat) : Bool := match k, q with
  | 3, 1 => true
  | 4, 2 => true
  | k, q => k == q || q == 0
theorem S_isUnder_sp {k q : Nat} (hk : k ≤ 5) (hq : q ≤ 5) (μ : Mem) : S_isUnder (nI k) (nI q) μ = some (if und k q then 1 else 0) := by
  obtain rfl | rfl | rfl | rfl | rfl | rfl : k = 0 ∨ k = 1 ∨ k = 2 ∨ k = 3 ∨ k = 4 ∨ k = 5 := by omega
  all_goals obtain rfl | rfl | rfl | rfl | rfl | rfl : q = 0 ∨ q = 1 ∨ q = 2 ∨ q = 3 ∨ q = 4 ∨ q = 5 := by omega
  all_goals rfl
theorem M_taken_sp {k q : Nat} (hk : k ≤ 5) (hq : q ≤ 5) (x : Int32) (μ : Mem) : M_taken_33L 1000 x (nI q) (nI k) μ = if und k q then (chk (inb (3 * x) 18) <| some (rd μ 5 0 (ix (3 * x)))) else some (-13) := by
  obtain rfl | rfl | rfl | rfl | rfl | rfl : k = 0 ∨ k = 1 ∨ k = 2 ∨ k = 3 ∨ k = 4 ∨ k = 5 := by omega
  all_goals obtain rfl | rfl | rfl | rfl | rfl | rfl : q = 0 ∨ q = 1 ∨ q = 2 ∨ q = 3 ∨ q = 4 ∨ q = 5 := by omega
  all_goals rfl
theorem taken_agree (x1 x2 : Int32) {μ ν : Mem} (I : Inv μ ν) : ∃ r, S_taken x1 x2 μ = some r ∧ M_taken x1 x2 ν = some r := by
  obtain ⟨hs, gr, tc, X, B, z, sk, sm', sv, ⟨h, ht, hA, hM⟩, -, -, -, -⟩ := I
  have hn := h.2.2.2.1
  have k3 := hM.2.2.2.1
  rcases S_isKind_sp (x := x2) with ⟨q1, e1⟩ | ⟨k, hk, rfl, e1⟩
  · refine ⟨-2, ?_, ?_⟩
    · unfold S_taken
      rw [e1, nm_eq, if_pos rfl]
    · unfold M_taken
      rw [show (5 : Int64) = lN 5 from rfl, M_in_out (by omega) q1, nm_eq, if_pos rfl]
  have f1 : M_in (nI k).toInt64 0 5 = 1 := M_in_yes (b := 5) (by omega) hk
  rcases S_isGroom_sp (x := x1) (hA.1 3 (by decide)) with ⟨p1, e2⟩ | ⟨p1, e2⟩
  · obtain ⟨g, hg, rfl⟩ := gOK_nI p1 (by omega)
    obtain ⟨b0, b1, b2, b3, b4⟩ := h.2.2.2.2.1 g hg
    obtain ⟨c0, c1, c2, c3, c4⟩ := hM.2.2.2.2 g hg
    have eS : S_taken (nI g) (nI k) μ = (if (if und (gr g 0) k then (1 : Int32) else 0) = 0 then some (-13) else some (nI (gr g 1))) := by
      unfold S_taken
      rw [e1, nm_eq, if_neg (by decide), e2, nm_eq, if_neg (by decide), chk_eq _ (inb_nI (by omega) (by omega)), chk_eq _ (inb_nI (by omega) (by omega)), ix_nI (by omega), show rd μ 2 g 0 = nI (gr g 0) from hA.2 g 0 hg (by decide), bnd_of (S_isUnder_sp (by omega) hk μ), show rd μ 2 g 1 = nI (gr g 1) from hA.2 g 1 hg (by decide)]
    have eM : M_taken (nI g) (nI k) ν = (if und (gr g 0) k then some (nI (gr g 1)) else some (-13)) := by
      unfold M_taken
      rw [f1, nm_eq, if_neg (by decide), bnd_of (M_isOne_sp k3 (by omega)), if_pos p1, if_neg (by decide), chk_eq _ (inb_nI (by omega) (by omega)), ix_nI (by omega), c0, nm_eq, M_taken_sp (by omega) hk, litI 3, pk_mul, chk_eq _ (inb_nI (by omega) (by omega)), ix_nI (by omega), c1]
    rw [eS, eM]
    cases und (gr g 0) k
    · exact ⟨-13, rfl, rfl⟩
    · exact ⟨_, rfl, rfl⟩
  · refine ⟨-11, ?_, ?_⟩
    · unfold S_taken
      rw [e1, nm_eq, if_neg (by decide), e2, nm_eq, if_pos rfl]
    · unfold M_taken
      rw [f1, nm_eq, if_neg (by decide), bnd_of (M_isOne_sp k3 (by omega)), if_neg p1, if_pos rfl]
/-! image and back -/
theorem Gr_become_sp {a b : Nat} (hab : a ≠ b) (μ : Mem) : (∀ j, j < 5 → rd (Gr_become a b μ) 2 a j = rd μ 2 b j) ∧ (∀ i j, i ≠ a → rd (Gr_become a b μ) 2 i j = rd μ 2 i j) ∧ RA [2] μ (Gr_become a b μ) := by
  unfold Gr_become
  simp only [nm_eq, rd_up_i (Ne.symm hab)]
  refine ⟨fun j hj => ?_, fun i j hi => ?_, ((((RA.rf.wr' (by decide)).wr' (by decide)).wr' (by decide)).wr' (by decide)).wr' (by decide)⟩
  · match j, hj with
    | 0, _ => rw [rd_up_j (by decide), rd_up_j (by decide), rd_up_j (by decide), rd_up_j (by decide), rd_up_s]
    | 1, _ => rw [rd_up_j (by decide), rd_up_j (by decide), rd_up_j (by decide), rd_up_s]
    | 2, _ => rw [rd_up_j (by decide), rd_up_j (by decide), rd_up_s]
    | 3, _ => rw [rd_up_j (by decide), rd_up_s]
    | 4, _ => rw [rd_up_s]
  · rw [rd_up_i hi, rd_up_i hi, rd_up_i hi, rd_up_i hi, rd_up_i hi]
theorem Ho_become_sp {s t : Nat} (hst : (s = 0 ∧ t = 1) ∨ (s = 1 ∧ t = 0)) {hs : Nat → Nat} {gr : Nat → Nat → Nat} {μ : Mem} (H : HA s hs gr μ) (hn : hs 3 ≤ 6) : ∃ μ', Ho_become t s μ = some μ' ∧ HA t hs gr μ' ∧ RA [1, 2] μ μ' ∧ (∀ i j, i ≠ t → rd μ' 1 i j = rd μ 1 i j) ∧ ∀ g j, g < 6 → rd μ' 2 (g + 6 * s) j = rd μ 2 (g + 6 * s) j := by
  have ne : s ≠ t := by omega
  obtain ⟨m0, em0⟩ : ∃ m, m = up (up (up (up μ 1 t 0 (nI (hs 0))) 1 t 1 (nI (hs 1))) 1 t 2 (nI (hs 2))) 1 t 3 (nI (hs 3)) := ⟨_, rfl⟩
  have e0 : Ho_become t s μ = Ho_become_34L 1000 t s 0 m0 := by
    unfold Ho_become
    simp only [nm_eq, rd_up_i ne]
    rw [H.1 0 (by decide), H.1 1 (by decide), H.1 2 (by decide), H.1 3 (by decide), ← em0]
  have h0 : ∀ j, j < 4 → rd m0 1 t j = nI (hs j) := by
    intro j hj
    rw [em0]
    match j, hj with
    | 0, _ => rw [rd_up_j (by decide), rd_up_j (by decide), rd_up_j (by decide), rd_up_s]
    | 1, _ => rw [rd_up_j (by decide), rd_up_j (by decide), rd_up_s]
    | 2, _ => rw [rd_up_j (by decide), rd_up_s]
    | 3, _ => rw [rd_up_s]
  have i0 : ∀ i j, i ≠ t → rd m0 1 i j = rd μ 1 i j := by
    intro i j hi
    rw [em0, rd_up_i hi, rd_up_i hi, rd_up_i hi, rd_up_i hi]
  have f0 : RA [1, 2] μ m0 := by
    rw [em0]
    exact (((RA.rf.wr' (by decide)).wr' (by decide)).wr' (by decide)).wr' (by decide)
  have two : ∀ i j, rd m0 2 i j = rd μ 2 i j := by
    intro i j
    rw [em0, rd_up_f (by decide), rd_up_f (by decide), rd_up_f (by decide), rd_up_f (by decide)]
  have key : ∀ (k g F : Nat) (m : Mem), g + k = hs 3 → k < F → RA [2] m0 m → (∀ a j, a < 6 → rd m 2 (a + 6 * s) j = rd μ 2 (a + 6 * s) j) → (∀ a j, a < g → j < 5 → rd m 2 (a + 6 * t) j = nI (gr a j)) → ∃ μ', Ho_become_34L F t s (nI g) m = some μ' ∧ RA [2] m0 μ' ∧ (∀ a j, a < 6 → rd μ' 2 (a + 6 * s) j = rd μ 2 (a + 6 * s) j) ∧ ∀ a j, a < hs 3 → j < 5 → rd μ' 2 (a + 6 * t) j = nI (gr a j) := by
    intro k
    induction k with
    | zero =>
      intro g F m hg hF r1 r2 r3
      obtain ⟨F, rfl⟩ : ∃ F', F = F' + 1 := ⟨F - 1, by omega⟩
      have hg' : g = hs 3 := by omega
      refine ⟨m, ?_, r1, r2, fun a j ha hj => r3 a j (by omega) hj⟩
      show Ho_become_34 _ _ _ _ _ = _
      unfold Ho_become_34
      rw [r1 1 t 3 (by decide), h0 3 (by decide), if_neg (nI_nlt (by omega) (by omega))]
    | succ k ih =>
      intro g F m hg hF r1 r2 r3
      obtain ⟨F, rfl⟩ : ∃ F', F = F' + 1 := ⟨F - 1, by omega⟩
      obtain ⟨g1, g2, g3⟩ := Gr_become_sp (a := g + 6 * t) (b := g + 6 * s) (by omega) m
      obtain ⟨μ', w1, w2⟩ := ih (g + 1) F (Gr_become (g + 6 * t) (g + 6 * s) m) (by omega) (by omega) (r1.tr g3) (fun a j ha => by rw [g2 _ _ (by omega)]; exact r2 a j ha) (fun a j ha hj => by
        by_cases q : a = g
        · subst q
          rw [g1 j hj, r2 a j (by omega)]
          exact H.2 a j (by omega) hj
        · rw [g2 _ _ (by omega)]; exact r3 a j (by omega) hj)
      refine ⟨μ', ?_, w2⟩
      show Ho_become_34 _ _ _ _ _ = _
      unfold Ho_become_34
      rw [r1 1 t 3 (by decide), h0 3 (by decide), if_pos (nI_lt (by omega) (by omega)), chk_eq _ (inb_nI (by omega) (by omega)), chk_eq _ (inb_nI (by omega) (by omega)), nm_eq, nm_eq, nI_1, ix_nI (by omega)]
      exact w1
  obtain ⟨μ', w1, w2, w3, w4⟩ := key (hs 3) 0 1000 m0 (by omega) (by omega) RA.rf (fun a j _ => two _ _) (fun a j ha => by omega)
  exact ⟨μ', by rw [e0]; exact w1, ⟨fun j hj => by rw [w2 1 t j (by decide)]; exact h0 j hj, w4⟩, f0.tr (w2.mono (by decide)), fun i j hi => by rw [w2 1 i j (by decide)]; exact i0 i j hi, fun g j hg => w3 g j hg⟩
theorem M_image_rows {ν : Mem} : ∃ ν', M_image ν = some (rd ν 0 0 12, ν') ∧ RM [11, 12] [42, 43, 44, 45] ν ν' ∧ rd ν' 0 0 42 = rd ν 0 0 12 ∧ rd ν' 0 0 43 = rd ν 0 0 7 ∧ rd ν' 0 0 44 = rd ν 0 0 8 ∧ rd ν' 0 0 45 = rd ν 0 0 4 ∧ (∀ i, i < 18 → rd ν' 11 0 i = rd ν 5 0 i) ∧ ∀ i, i < 6 → rd ν' 12 0 i = rd ν 6 0 i := by
  have two : ∀ (k g F : Nat) (m : Mem), g + k = 6 → k < F → RM [11, 12] [42, 43, 44, 45] ν m → (∀ i, i < 18 → rd m 11 0 i = rd ν 5 0 i) → (∀ i, i < g → rd m 12 0 i = rd ν 6 0 i) → ∃ ν', M_image_28L F (nI g) m = some (rd ν 0 0 12, ν') ∧ RM [11, 12] [42, 43, 44, 45] ν ν' ∧ rd ν' 0 0 42 = rd ν 0 0 12 ∧ rd ν' 0 0 43 = rd ν 0 0 7 ∧ rd ν' 0 0 44 = rd ν 0 0 8 ∧ rd ν' 0 0 45 = rd ν 0 0 4 ∧ (∀ i, i < 18 → rd ν' 11 0 i = rd ν 5 0 i) ∧ ∀ i, i < 6 → rd ν' 12 0 i = rd ν 6 0 i := by
    intro k
    induction k with
    | zero =>
      intro g F m hg hF r1 r2 r3
      obtain ⟨F, rfl⟩ : ∃ F', F = F' + 1 := ⟨F - 1, by omega⟩
      have hg' : g = 6 := by omega
      subst hg'
      have z : ∀ j, j ∉ [42, 43, 44, 45] → rd m 0 0 j = rd ν 0 0 j := fun j hj => r1 0 j (by decide) (fun _ => hj)
      refine ⟨up (up (up (up m 0 0 42 (rd ν 0 0 12)) 0 0 43 (rd ν 0 0 7)) 0 0 44 (rd ν 0 0 8)) 0 0 45 (rd ν 0 0 4), ?_, (((r1.wr0 (by decide)).wr0 (by decide)).wr0 (by decide)).wr0 (by decide), ?_, ?_, ?_, ?_, r2, r3⟩
      · show M_image_28 _ _ _ = _
        unfold M_image_28
        rw [litI 6, if_neg (nI_nlt (Nat.le_refl _) (by omega))]
        simp only [nm_eq]
        rw [rd_up_j (show 12 ≠ 45 by decide), rd_up_j (show 12 ≠ 44 by decide), rd_up_j (show 12 ≠ 43 by decide), rd_up_j (show 12 ≠ 42 by decide), rd_up_j (show 4 ≠ 44 by decide), rd_up_j (show 4 ≠ 43 by decide), rd_up_j (show 4 ≠ 42 by decide), rd_up_j (show 8 ≠ 43 by decide), rd_up_j (show 8 ≠ 42 by decide), rd_up_j (show 7 ≠ 42 by decide), z 12 (by decide), z 7 (by decide), z 8 (by decide), z 4 (by decide)]
      · rw [rd_up_j (by decide), rd_up_j (by decide), rd_up_j (by decide), rd_up_s]
      · rw [rd_up_j (by decide), rd_up_j (by decide), rd_up_s]
      · rw [rd_up_j (by decide), rd_up_s]
      · rw [rd_up_s]
    | succ k ih =>
      intro g F m hg hF r1 r2 r3
      obtain ⟨F, rfl⟩ : ∃ F', F = F' + 1 := ⟨F - 1, by omega⟩
      obtain ⟨ν', w⟩ := ih (g + 1) F (up m 12 0 g (rd m 6 0 g)) (by omega) (by omega) (r1.wr' (by decide)) r2 (fun i hi => by
        by_cases q : i = g
        · subst q; rw [rd_up_s]; exact r1 6 i (by decide) (fun q => absurd q (by decide))
        · rw [rd_up_j q]; exact r3 i (by omega))
      refine ⟨ν', ?_, w.2⟩
      show M_image_28 _ _ _ = _
      unfold M_image_28
      rw [litI 6, if_pos (nI_lt (by omega) (by omega)), chk_eq _ (inb_nI (by omega) (by omega)), chk_eq _ (inb_nI (by omega) (by omega)), nm_eq, nm_eq, nI_1, ix_nI (by omega)]
      exact w.1
  have one : ∀ (k g F : Nat) (m : Mem), g + k = 18 → k < F → RM [11, 12] [42, 43, 44, 45] ν m → (∀ i, i < g → rd m 11 0 i = rd ν 5 0 i) → ∃ ν', M_image_2L F (nI g) m = some (rd ν 0 0 12, ν') ∧ RM [11, 12] [42, 43, 44, 45] ν ν' ∧ rd ν' 0 0 42 = rd ν 0 0 12 ∧ rd ν' 0 0 43 = rd ν 0 0 7 ∧ rd ν' 0 0 44 = rd ν 0 0 8 ∧ rd ν' 0 0 45 = rd ν 0 0 4 ∧ (∀ i, i < 18 → rd ν' 11 0 i = rd ν 5 0 i) ∧ ∀ i, i < 6 → rd ν' 12 0 i = rd ν 6 0 i := by
    intro k
    induction k with
    | zero =>
      intro g F m hg hF r1 r2
      obtain ⟨F, rfl⟩ : ∃ F', F = F' + 1 := ⟨F - 1, by omega⟩
      have hg' : g = 18 := by omega
      subst hg'
      obtain ⟨ν', w⟩ := two 6 0 1000 m (by omega) (by omega) r1 r2 (fun i hi => by omega)
      refine ⟨ν', ?_, w.2⟩
      show M_image_2 _ _ _ = _
      unfold M_image_2
      rw [litI 18, if_neg (nI_nlt (Nat.le_refl _) (by omega))]
      exact w.1
    | succ k ih =>
      intro g F m hg hF r1 r2
      obtain ⟨F, rfl⟩ : ∃ F', F = F' + 1 := ⟨F - 1, by omega⟩
      obtain ⟨ν', w⟩ := ih (g + 1) F (up m 11 0 g (rd m 5 0 g)) (by omega) (by omega) (r1.wr' (by decide)) (fun i hi => by
        by_cases q : i = g
        · subst q; rw [rd_up_s]; exact r1 5 i (by decide) (fun q => absurd q (by decide))
        · rw [rd_up_j q]; exact r2 i (by omega))
      refine ⟨ν', ?_, w.2⟩
      show M_image_2 _ _ _ = _
      unfold M_image_2
      rw [litI 18, if_pos (nI_lt (by omega) (by omega)), chk_eq _ (inb_nI (by omega) (by omega)), chk_eq _ (inb_nI (by omega) (by omega)), nm_eq, nm_eq, nI_1, ix_nI (by omega)]
      exact w.1
  exact one 18 0 1000 ν (by omega) (by omega) RM.rf (fun i hi => by omega)
theorem image_agree : Agree S_image M_image := by
  intro μ ν I
  obtain ⟨hs, gr, tc, X, B, z, sk, sm, sv, ⟨h, ht, hA, hM⟩, ⟨h5, h6⟩, ⟨h7, h8⟩, ⟨h9, h10, h11⟩, h12⟩ := I
  have hn := h.2.2.2.1
  obtain ⟨μ1, s1, s2, s3, s4, s5⟩ := Ho_become_sp (Or.inl ⟨rfl, rfl⟩) hA hn
  obtain ⟨ν', t1, t2, t3, t4, t5, t6, t7, t8⟩ := M_image_rows (ν := ν)
  have eS : S_image μ = some (nI (hs 3), up μ1 0 0 2 1) := by
    unfold S_image
    rw [bnd_of s1]
    simp only [nm_eq]
    rw [rd_up_f (by decide), s4 0 3 (by decide), hA.1 3 (by decide)]
  have r3 : RA [0, 1, 2] μ (up μ1 0 0 2 1) := (s3.mono (by decide)).wr' (by decide)
  have m1 : ∀ f j, f ≠ 0 → f ∉ [11, 12] → rd ν' f 0 j = rd ν f 0 j := fun f j hf hj => t2 f j hj (fun q => absurd q hf)
  have m0 : ∀ j, j ∉ [42, 43, 44, 45] → rd ν' 0 0 j = rd ν 0 0 j := fun j hj => t2 0 j (by decide) (fun _ => hj)
  have A0 : HA 0 hs gr (up μ1 0 0 2 1) := ⟨fun j hj => by rw [rd_up_f (by decide), s4 0 j (by decide)]; exact hA.1 j hj, fun g j hg hj => by rw [rd_up_f (by decide), s5 g j (by omega)]; exact hA.2 g j hg hj⟩
  have e4 : rd (up μ1 0 0 2 1) 0 0 4 = rd μ 0 0 4 := by rw [rd_up_j (by decide)]; exact s3 0 0 4 (by decide)
  refine ⟨nI (hs 3), _, ν', eS, by rw [t1, hM.2.2.2.1], hs, gr, tc, X, B, z, sk, sm, sv, ⟨h, ht, A0, hM.cg (fun j hj => m0 j ?_) (fun f j hf => m1 f j ?_ ?_)⟩, ⟨h5.cg e4 (fun f i j hf _ => r3 f i j ?_), h6.cg (m0 3 (by decide)) (fun f j hf => m1 f j ?_ ?_)⟩, ⟨h7.cg (r3 10 0 1 (by decide)) (fun j => r3 11 0 j (by decide)), h8.cg (m0 6 (by decide)) (fun j => m1 3 j (by decide) (by decide))⟩, ⟨h9, h10.cg (fun f i j hf => r3 f i j ?_), h11.cg (fun f j hf => m1 f j ?_ ?_)⟩, Or.inr ⟨rd_up_s _ _ _ _ _, hs, gr, h, ⟨fun j hj => by rw [rd_up_f (by decide)]; exact s2.1 j hj, fun g j hg hj => by rw [rd_up_f (by decide)]; exact s2.2 g j hg hj⟩, ⟨t3.trans hM.2.2.2.1, t4.trans hM.1, t5.trans hM.2.1, t6.trans hM.2.2.1, fun g hg => ?_⟩, Nat.le_refl _, fun _ _ => rfl⟩⟩
  · revert j; decide
  · revert f; decide
  · revert f; decide
  · revert f; decide
  · revert f; decide
  · revert f; decide
  · revert f; decide
  · revert f; decide
  · revert f; decide
  · obtain ⟨b0, b1, b2, b3, b4⟩ := hM.2.2.2.2 g hg
    rw [t7 _ (by omega), t7 _ (by omega), t7 _ (by omega), t8 _ (by omega)]
    exact ⟨b1, b2, b3, b4⟩
