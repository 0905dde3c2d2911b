/-! ===== set, groom, change, feed, force, count, taken ===== -/
def u1 (f : Nat → Nat) (k v : Nat) : Nat → Nat := fun i => if i = k then v else f i
def u2 (G : Nat → Nat → Nat) (g k v : Nat) : Nat → Nat → Nat := fun a b => if a = g ∧ b = k then v else G a b
theorem u1_s (f : Nat → Nat) (k v : Nat) : u1 f k v k = v := if_pos rfl
theorem u1_n (f : Nat → Nat) {k v i : Nat} (h : i ≠ k) : u1 f k v i = f i := if_neg h
theorem u2_s (G : Nat → Nat → Nat) (g k v : Nat) : u2 G g k v g k = v := if_pos ⟨rfl, rfl⟩
theorem u2_n (G : Nat → Nat → Nat) {g k v a b : Nat} (h : ¬ (a = g ∧ b = k)) : u2 G g k v a b = G a b := if_neg h
theorem HA_u1 {hs : Nat → Nat} {gr : Nat → Nat → Nat} {μ : Mem} (H : HA 0 hs gr μ) {k v : Nat} (hk : k < 3) : HA 0 (u1 hs k v) gr (up μ 1 0 k (nI v)) := by
  refine ⟨fun j hj => ?_, fun g j hg hj => ?_⟩
  · by_cases q : j = k
    · subst q; rw [rd_up_s, u1_s]
    · rw [rd_up_j q, u1_n _ q]; exact H.1 j hj
  · rw [u1_n _ (by omega)] at hg
    rw [rd_up_f (by decide)]
    exact H.2 g j hg hj
theorem HA_u2 {hs : Nat → Nat} {gr : Nat → Nat → Nat} {μ : Mem} (H : HA 0 hs gr μ) {g k v : Nat} : HA 0 hs (u2 gr g k v) (up μ 2 g k (nI v)) := by
  refine ⟨fun j hj => by rw [rd_up_f (by decide)]; exact H.1 j hj, fun a b ha hb => ?_⟩
  by_cases q : a = g ∧ b = k
  · obtain ⟨rfl, rfl⟩ := q
    rw [u2_s]; exact rd_up_s _ _ _ _ _
  · rw [u2_n _ q, ← H.2 a b ha hb]
    show rd (up μ 2 g k (nI v)) 2 a b = rd μ 2 a b
    rw [rd_up, if_neg (fun z => q ⟨z.2.1, z.2.2⟩)]
def lcM (k : Nat) : Nat := match k with
  | 0 => 7
  | 1 => 8
  | _ => 4
theorem HM_u1 {hs : Nat → Nat} {gr : Nat → Nat → Nat} {ν : Mem} (H : HM hs gr ν) {k v : Nat} (hk : k < 3) : HM (u1 hs k v) gr (up ν 0 0 (lcM k) (nI v)) := by
  obtain ⟨a, b, c, d, e⟩ := H
  obtain rfl | rfl | rfl : k = 0 ∨ k = 1 ∨ k = 2 := by omega
  · exact ⟨rfl, b, c, d, e⟩
  · exact ⟨a, rfl, c, d, e⟩
  · exact ⟨a, b, rfl, d, e⟩
theorem HM_u2 {hs : Nat → Nat} {gr : Nat → Nat → Nat} {ν : Mem} (H : HM hs gr ν) {g k v : Nat} (hk : k < 3) : HM hs (u2 gr g (k + 1) v) (up ν 5 0 (3 * g + k) (nI v)) := by
  obtain ⟨a, b, c, d, e⟩ := H
  refine ⟨a, b, c, d, fun a' ha => ?_⟩
  obtain ⟨e0, e1, e2, e3, e4⟩ := e a' ha
  have row : ∀ i, i < 3 → rd ν 5 0 (3 * a' + i) = nI (gr a' (i + 1)) → rd (up ν 5 0 (3 * g + k) (nI v)) 5 0 (3 * a' + i) = nI (u2 gr g (k + 1) v a' (i + 1)) := by
    intro i hi h
    by_cases q : a' = g ∧ i = k
    · obtain ⟨rfl, rfl⟩ := q
      rw [rd_up_s]; rw [u2_s]
    · rw [rd_up_j (by omega)]; rw [u2_n _ (by omega)]; exact h
  exact ⟨e0.trans (by rw [u2_n _ (by omega)]), row 0 (by decide) e1, row 1 (by decide) e2, row 2 (by decide) e3, e4.trans (by rw [u2_n _ (by omega)])⟩
theorem Inv.house {hs hs' : Nat → Nat} {gr gr' : Nat → Nat → Nat} {tc : Nat} {X : Nat → List Int32 × List Int32 × List Int32} {B : Nat → Int32} {z : Nat} {sk sm : Nat → Nat} {sv : Nat → Nat → Int32} {μ ν μ' ν' : Mem} (H : InvC hs gr tc X B z sk sm sv μ ν) (g1 : HOK hs' gr' tc) (g2 : HA 0 hs' gr' μ') (g3 : HM hs' gr' ν') (hn : hs 3 ≤ hs' 3) (hg : ∀ g, g < hs 3 → gr' g 0 = gr g 0) (ha : RA (1 :: 2 :: SCA) μ μ') (hb : ∀ j, rd μ' 1 1 j = rd μ 1 1 j) (hc : ∀ g j, rd μ' 2 (g + 6 * 1) j = rd μ 2 (g + 6 * 1) j) (hm : RM [4, 5, 6, 7, 8, 9, 10] ([4, 7, 8, 12] ++ SCM) ν ν') : Inv μ' ν' := by
  obtain ⟨⟨h1, h2, h3, h4⟩, ⟨h5, h6⟩, ⟨h7, h8⟩, ⟨h9, h10, h11⟩, h12⟩ := H
  have m0 : ∀ j, j ∉ [4, 7, 8, 12] ++ SCM → rd ν' 0 0 j = rd ν 0 0 j := fun j hj => hm 0 j (by decide) (fun _ => hj)
  have m1 : ∀ f j, f ≠ 0 → f ∉ [4, 5, 6, 7, 8, 9, 10] → rd ν' f 0 j = rd ν f 0 j := fun f j hf hj => hm f j hj (fun q => absurd q hf)
  refine ⟨hs', gr', tc, X, B, z, sk, sm, sv, ⟨g1, h2, g2, g3⟩, ⟨h5.cg (ha 0 0 4 (by decide)) (fun f i j hf _ => ha f i j ?_), h6.cg (m0 3 (by decide)) (fun f j hf => m1 f j ?_ ?_)⟩, ⟨h7.cg (ha 10 0 1 (by decide)) (fun j => ha 11 0 j (by decide)), h8.cg (m0 6 (by decide)) (fun j => m1 3 j (by decide) (by decide))⟩, ⟨h9, h10.cg (fun f i j hf => ha f i j ?_), h11.cg (fun f j hf => m1 f j ?_ ?_)⟩, h12.cg hn hg (Nat.le_refl _) (ha 0 0 2 (by decide)) hb hc (fun j hj => m0 j ?_) (fun f j hf => m1 f j ?_ ?_)⟩
  · revert f; decide
  · revert f; decide
  · revert f; decide
  · revert f; decide
  · revert f; decide
  · revert f; decide
  · revert j; decide
  · revert f; decide
  · revert f; decide
theorem M_told_sp {hs : Nat → Nat} {gr : Nat → Nat → Nat} {tc : Nat} {X : Nat → List Int32 × List Int32 × List Int32} {ν : Mem} (h : HOK hs gr tc) (ht : tc ≤ 6) (H : HM hs gr ν) (hX : XM tc X ν) {g j : Nat} {x1 : Int32} (hj : j ≤ 10) (hg : 2 ≤ j → g < hs 3 ∧ x1 = nI g) : ∃ ν', M_told x1 (nI j) ν = some (nI (tolV hs gr X g j), ν') ∧ NX JS ν ν' := by
  obtain ⟨ν', s1, s2⟩ := M_told_28_sp h ht H hX hj hg
  refine ⟨ν', ?_, s2⟩
  unfold M_told
  rw [show (10 : Int64) = lN 10 from rfl, M_in_yes (by omega) hj, nm_eq, if_neg (by decide), bnd_of (M_isOne_sp H.2.2.2.1 (by have := h.2.2.2.1; omega)), s1]
  by_cases q : 2 ≤ j
  · obtain ⟨hg2, e1⟩ := hg q
    rw [if_pos (show (1 : Int32) < nI j from nI_lt (a := 1) (by omega) (by omega)), if_pos (show gOK (hs 3) x1 by rw [e1]; exact gOK_of hg2 (by have := h.2.2.2.1; omega)), if_neg (by decide)]
  · rw [if_neg (show ¬ (1 : Int32) < nI j from nI_nlt (a := 1) (by omega) (by omega))]
def mostV (j : Nat) : Nat := match j with
  | 0 => 999
  | 1 => 99
  | 2 => 9
  | 3 => 15
  | _ => 99
theorem M_set_no {x1 x2 x3 : Int32} {hs : Nat → Nat} {gr : Nat → Nat → Nat} {ν : Mem} {n : Nat} (H : rd ν 0 0 12 = nI n) (hn : n < 2 ^ 31) {j : Nat} (hj : j ≤ 4) (e : x1 = nI j) (h : (2 ≤ j ∧ ¬ gOK n x2) ∨ x3 < 0 ∨ nI (mostV j) < x3) : M_set x1 x2 x3 ν = some (-2, ν) := by
  subst e
  have e25 : (x3 < 0 ∨ nI (mostV j) < x3) → M_set_25 (nI j) x2 x3 ν = some (-2, ν) := by
    intro h
    unfold M_set_25
    have em : M_mostOf (nI j) = nI (mostV j) := by
      obtain rfl | rfl | rfl | rfl | rfl : j = 0 ∨ j = 1 ∨ j = 2 ∨ j = 3 ∨ j = 4 := (by omega) <;> rfl
    have hm : mostV j < 2 ^ 31 := by
      obtain rfl | rfl | rfl | rfl | rfl : j = 0 ∨ j = 1 ∨ j = 2 ∨ j = 3 ∨ j = 4 := (by omega) <;> decide
    rw [em, nm_eq, nI_l hm, M_in_out hm h, nm_eq, if_pos rfl]
  unfold M_set
  rw [show (4 : Int64) = lN 4 from rfl, M_in_yes (by omega) hj, nm_eq, if_neg (by decide), bnd_of (M_isOne_sp H hn)]
  by_cases q : 2 ≤ j
  · rw [if_pos (show (1 : Int32) < nI j from nI_lt (a := 1) (by omega) (by omega))]
    by_cases q2 : gOK n x2
    · rw [if_pos q2, if_neg (by decide)]
      exact e25 (h.resolve_left (fun w => w.2 q2))
    · rw [if_neg q2, if_pos rfl]
  · rw [if_neg (show ¬ (1 : Int32) < nI j from nI_nlt (a := 1) (by omega) (by omega))]
    exact e25 (h.resolve_left (fun w => q w.1))
theorem S_lastOf_sp {j : Nat} (hj : j ≤ 4) : S_lastOf (nI j) = nI (mostV j) := by
  obtain rfl | rfl | rfl | rfl | rfl : j = 0 ∨ j = 1 ∨ j = 2 ∨ j = 3 ∨ j = 4 := (by omega) <;> rfl
theorem mostV_lt {j : Nat} : mostV j < 1000 := by
  unfold mostV
  split <;> decide
theorem S_isSettable_sp {n j : Nat} {x2 : Int32} {μ : Mem} (h : rd μ 1 0 3 = nI n) (hj : j ≤ 4) : (((2 ≤ j → gOK n x2) ∧ S_isSettable (nI j) x2 μ = 1) ∨ ((2 ≤ j ∧ ¬ gOK n x2) ∧ S_isSettable (nI j) x2 μ = 0)) := by
  by_cases j2 : 2 ≤ j
  · unfold S_isSettable
    rw [if_neg (show ¬ nI j = 0 from nI_lit_ne (b := 0) (by omega) (by omega) (by omega)), if_neg (show ¬ nI j = 1 from nI_lit_ne (b := 1) (by omega) (by omega) (by omega)), if_neg (show ¬ nI j < 2 from nI_nlt (b := 2) (by omega) (by omega)), if_neg (show ¬ 4 < nI j from nI_nlt (a := 4) (by omega) (by omega)), nm_eq]
    rcases S_isGroom_sp (x := x2) h with ⟨hg, e2⟩ | ⟨hg, e2⟩
    · rw [e2, if_neg (by decide)]; exact Or.inl ⟨fun _ => hg, rfl⟩
    · rw [e2, if_pos rfl]; exact Or.inr ⟨⟨j2, hg⟩, rfl⟩
  · refine Or.inl ⟨fun q => absurd q j2, ?_⟩
    obtain rfl | rfl : j = 0 ∨ j = 1 := (by omega) <;> rfl
theorem set_agree (x1 x2 x3 : Int32) : Agree (S_set x1 x2 x3) (M_set x1 x2 x3) := by
  intro μ ν I
  have I0 := I
  obtain ⟨hs, gr, tc, X, B, z, sk, sm, sv, IC⟩ := I
  have IC0 := IC
  obtain ⟨⟨h, ht, hA, hM⟩, ⟨hXA, hXM⟩, -, -, -⟩ := IC
  have hn := h.2.2.2.1
  have out : x1 < 0 ∨ nI 4 < x1 → ∃ r μ' ν', S_set x1 x2 x3 μ = some (r, μ') ∧ M_set x1 x2 x3 ν = some (r, ν') ∧ Inv μ' ν' := by
    intro hx
    refine ⟨-2, μ, ν, ?_, ?_, I0⟩
    · have e : S_isSettable x1 x2 μ = 0 := by
        unfold S_isSettable
        rcases hx with hx | hx
        · rw [if_neg (show ¬ x1 = 0 from neg_ne hx (j := 0) (by omega)), if_neg (show ¬ x1 = 1 from neg_ne hx (j := 1) (by omega)), if_pos (show x1 < 2 from neg_lt hx (j := 2) (by omega))]
        · rw [if_neg (show ¬ x1 = 0 from big_ne hx (j := 0) (by omega) (by omega)), if_neg (show ¬ x1 = 1 from big_ne hx (j := 1) (by omega) (by omega)), if_neg (show ¬ x1 < 2 from big_nlt hx (j := 2) (by omega) (by omega)), if_pos (show 4 < x1 from hx)]
      unfold S_set
      rw [nm_eq, e, if_pos rfl]
    · unfold M_set
      rw [show (4 : Int64) = lN 4 from rfl, M_in_out (by omega) hx, nm_eq, if_pos rfl]
  rcases i32_rng x1 (b := 4) (by omega) with hx | hx | ⟨j, hj, rfl⟩
  · exact out (Or.inl hx)
  · exact out (Or.inr hx)
  have hmv : mostV j < 1000 := mostV_lt
  rcases S_isSettable_sp (x2 := x2) (hA.1 3 (by decide)) hj with ⟨hset, es⟩ | ⟨hno, es⟩
  · by_cases hv : x3 < 0 ∨ nI (mostV j) < x3
    · refine ⟨-2, μ, ν, ?_, M_set_no (hs := hs) (gr := gr) hM.2.2.2.1 (by omega) hj rfl (Or.inr hv), I0⟩
      unfold S_set
      rw [nm_eq, es, if_neg (by decide), nm_eq, S_lastOf_sp hj]
      rcases hv with hv | hv
      · rw [if_pos hv]
      · rw [if_neg (fun q => absurd (Int32.lt_trans hv q) (nI_pos (by omega))), if_pos hv]
    · obtain ⟨v, hvl, rfl⟩ : ∃ v, v ≤ mostV j ∧ x3 = nI v := by
        rcases i32_rng x3 (b := mostV j) (by omega) with w | w | w
        · exact absurd (Or.inl w) hv
        · exact absurd (Or.inr w) hv
        · exact w
      have eS : ∀ old m, S_settable (nI j) x2 μ = some old → (if nI j = 0 then some (old, up μ 1 0 0 (nI v)) else if nI j = 1 then some (old, up μ 1 0 1 (nI v)) else if nI j = 2 then chk (inb x2 6) (some (old, up μ 2 (ix x2) 1 (nI v))) else if nI j = 3 then chk (inb x2 6) (some (old, up μ 2 (ix x2) 2 (nI v))) else chk (inb x2 6) (some (old, up μ 2 (ix x2) 3 (nI v)))) = some (old, m) → S_set (nI j) x2 (nI v) μ = some (old, m) := by
        intro old m h1 h2
        unfold S_set
        rw [nm_eq, es, if_neg (by decide), if_neg (nI_pos (by omega)), S_lastOf_sp hj, nm_eq, if_neg (nI_nlt (by omega) (by omega)), bnd_of h1]
        exact h2
      obtain ⟨g, hg⟩ : ∃ g, 2 ≤ j → g < hs 3 ∧ x2 = nI g := by
        by_cases j2 : 2 ≤ j
        · obtain ⟨g, h1, h2⟩ := gOK_nI (hset j2) (by omega)
          exact ⟨g, fun _ => ⟨h1, h2⟩⟩
        · exact ⟨0, fun q => absurd q j2⟩
      obtain ⟨m1, s1, s2⟩ := M_told_sp h ht hM hXM (show j ≤ 10 by omega) hg
      have em : M_mostOf (nI j) = nI (mostV j) := S_lastOf_sp hj
      have eM : M_set (nI j) x2 (nI v) ν = bnd (M_lays (nI j) x2 (nI v) m1) fun μ10 => some (nI (tolV hs gr X g j), μ10) := by
        have e25 : M_set_25 (nI j) x2 (nI v) ν = bnd (M_lays (nI j) x2 (nI v) m1) fun μ10 => some (nI (tolV hs gr X g j), μ10) := by
          unfold M_set_25
          rw [em, nm_eq, nI_l (n := mostV j) (by omega), M_in_yes (by omega) hvl, nm_eq, if_neg (by decide), bnd2_of s1]
        unfold M_set
        rw [show (4 : Int64) = lN 4 from rfl, M_in_yes (by omega) hj, nm_eq, if_neg (by decide), bnd_of (M_isOne_sp hM.2.2.2.1 (by omega)), e25]
        by_cases q : 2 ≤ j
        · rw [if_pos (show (1 : Int32) < nI j from nI_lt (a := 1) (by omega) (by omega)), if_pos (show gOK (hs 3) x2 from hset q), if_neg (by decide)]
        · rw [if_neg (show ¬ (1 : Int32) < nI j from nI_nlt (a := 1) (by omega) (by omega))]
      rw [eM]
      have hM1 : HM hs gr m1 := hM.nx s2 (by decide)
      have rm1 : RM [4, 5, 6, 7, 8, 9, 10] ([4, 7, 8, 12] ++ SCM) ν m1 := (s2.rm _).mono (fun _ q => q) (by decide)
      by_cases j0 : j = 0
      · subst j0
        refine ⟨nI (hs 0), up μ 1 0 0 (nI v), up m1 0 0 7 (nI v), eS _ _ (by rw [show S_settable (nI 0) x2 μ = some (rd μ 1 0 0) from rfl, hA.1 0 (by decide)]) (by rw [if_pos (by decide)]), by unfold M_lays; rw [if_pos (by decide), nm_eq]; rfl, Inv.house (hs' := u1 hs 0 v) (gr' := gr) IC0 ?_ (HA_u1 hA (by decide)) (HM_u1 (k := 0) hM1 (by decide)) (Nat.le_refl _) (fun _ _ => rfl) (RA.rf.wr' (by decide)) (fun j => by rw [rd_up_i (by decide)]) (fun g j => by rw [rd_up_f (by decide)]) (rm1.wr0 (by decide))⟩
        exact ⟨hvl, h.2.1, h.2.2⟩
      by_cases j1 : j = 1
      · subst j1
        refine ⟨nI (hs 1), up μ 1 0 1 (nI v), up m1 0 0 8 (nI v), eS _ _ (by rw [show S_settable (nI 1) x2 μ = some (rd μ 1 0 1) from rfl, hA.1 1 (by decide)]) (by rw [if_neg (by decide), if_pos (by decide)]), by unfold M_lays; rw [if_neg (by decide), if_pos (by decide), nm_eq]; rfl, Inv.house (hs' := u1 hs 1 v) (gr' := gr) IC0 ?_ (HA_u1 hA (by decide)) (HM_u1 (k := 1) hM1 (by decide)) (Nat.le_refl _) (fun _ _ => rfl) (RA.rf.wr' (by decide)) (fun j => by rw [rd_up_i (by decide)]) (fun g j => by rw [rd_up_f (by decide)]) (rm1.wr0 (by decide))⟩
        exact ⟨h.1, hvl, h.2.2⟩
      obtain ⟨hg2, e2⟩ := hg (by omega)
      clear hg
      have hg := hg2
      subst e2
      have ixg : ix (nI g) = g := ix_nI (by omega)
      have ib : inb (nI g) 6 := inb_nI (by omega) (by omega)
      have lay : ∀ k, k < 3 → j = k + 2 → M_lays (nI j) (nI g) (nI v) m1 = some (up m1 5 0 (3 * g + k) (nI v)) := by
        intro k hk e
        unfold M_lays
        rw [if_neg (show ¬ nI j = 0 from nI_lit_ne (b := 0) (by omega) (by omega) (by omega)), if_neg (show ¬ nI j = 1 from nI_lit_ne (b := 1) (by omega) (by omega) (by omega)), if_pos (show nI j < 5 from nI_lt (b := 5) (by omega) (by omega)), litI 3, pk_mul, nI_add, litI 2, nI_sub' (by omega), chk_eq _ (inb_nI (by omega) (by omega)), ix_nI (by omega), nm_eq, show 3 * g + j - 2 = 3 * g + k by omega]
      have fin : ∀ k, k < 3 → j = k + 2 → HOK hs (u2 gr g (k + 1) v) tc → S_set (nI j) (nI g) (nI v) μ = some (nI (tolV hs gr X g j), up μ 2 g (k + 1) (nI v)) → ∃ r μ' ν', S_set (nI j) (nI g) (nI v) μ = some (r, μ') ∧ (bnd (M_lays (nI j) (nI g) (nI v) m1) fun μ10 => some (nI (tolV hs gr X g j), μ10)) = some (r, ν') ∧ Inv μ' ν' := by
        intro k hk e hok hS
        refine ⟨_, _, _, hS, by rw [bnd_of (lay k hk e)], Inv.house (hs' := hs) (gr' := u2 gr g (k + 1) v) IC0 hok (HA_u2 hA) (HM_u2 hM1 hk) (Nat.le_refl _) (fun _ _ => u2_n _ (by omega)) (RA.rf.wr' (by decide)) (fun j => by rw [rd_up_f (by decide)]) (fun g' j => by rw [rd_up_i (by omega)]) (rm1.wr' (by decide))⟩
      have hok : ∀ k, k < 3 → (k = 0 → v ≤ 9) → (k = 1 → v ≤ 15) → (k = 2 → v ≤ 99) → HOK hs (u2 gr g (k + 1) v) tc := by
        intro k hk w0 w1 w2
        refine ⟨h.1, h.2.1, h.2.2.1, hn, fun a ha => ?_, fun a b ha hb => ?_⟩
        · obtain ⟨b0, b1, b2, b3, b4⟩ := h.2.2.2.2.1 a ha
          refine ⟨?_, ?_, ?_, ?_, ?_⟩
          · rw [u2_n _ (by omega)]; exact b0
          · by_cases q : a = g ∧ 1 = k + 1
            · rw [show u2 gr g (k + 1) v a 1 = v from if_pos q]; exact w0 (by omega)
            · rw [u2_n _ q]; exact b1
          · by_cases q : a = g ∧ 2 = k + 1
            · rw [show u2 gr g (k + 1) v a 2 = v from if_pos q]; exact w1 (by omega)
            · rw [u2_n _ q]; exact b2
          · by_cases q : a = g ∧ 3 = k + 1
            · rw [show u2 gr g (k + 1) v a 3 = v from if_pos q]; exact w2 (by omega)
            · rw [u2_n _ q]; exact b3
          · rw [u2_n _ (by omega)]; exact b4
        · rw [u2_n _ (by omega), u2_n _ (by omega)]; exact h.2.2.2.2.2 a b ha hb
      obtain rfl | rfl | rfl : j = 2 ∨ j = 3 ∨ j = 4 := by omega
      · refine fin 0 (by decide) rfl (hok 0 (by decide) (fun _ => hvl) (fun q => by omega) (fun q => by omega)) (eS _ _ ?_ ?_)
        · unfold S_settable
          rw [if_neg (by decide), if_neg (by decide), if_pos (by decide), chk_eq _ ib, ixg]
          exact congrArg some (hA.2 g 1 hg (by decide))
        · rw [if_neg (by decide), if_neg (by decide), if_pos (by decide), chk_eq _ ib, ixg]
      · refine fin 1 (by decide) rfl (hok 1 (by decide) (fun q => by omega) (fun _ => hvl) (fun q => by omega)) (eS _ _ ?_ ?_)
        · unfold S_settable
          rw [if_neg (by decide), if_neg (by decide), if_neg (by decide), if_pos (by decide), chk_eq _ ib, ixg]
          exact congrArg some (hA.2 g 2 hg (by decide))
        · rw [if_neg (by decide), if_neg (by decide), if_neg (by decide), if_pos (by decide), chk_eq _ ib, ixg]
      · refine fin 2 (by decide) rfl (hok 2 (by decide) (fun q => by omega) (fun q => by omega) (fun _ => hvl)) (eS _ _ ?_ ?_)
        · unfold S_settable
          rw [if_neg (by decide), if_neg (by decide), if_neg (by decide), if_neg (by decide), chk_eq _ ib, ixg]
          exact congrArg some (hA.2 g 3 hg (by decide))
        · rw [if_neg (by decide), if_neg (by decide), if_neg (by decide), if_neg (by decide), chk_eq _ ib, ixg]
  · refine ⟨-2, μ, ν, ?_, M_set_no (hs := hs) (gr := gr) hM.2.2.2.1 (by omega) hj rfl (Or.inl hno), I0⟩
    unfold S_set
    rw [nm_eq, es, if_pos rfl]
