/-! ===== grooms, film ===== -/
theorem S_groom_ra {x1 x2 x3 r : Int32} {μ μ' : Mem} (h : S_groom x1 x2 x3 μ = some (r, μ')) : RA [1, 2] μ μ' := by
  unfold S_groom chk at h
  simp only [nm_eq] at h
  repeat' split at h
  all_goals first
    | (cases h; exact RA.rf)
    | (cases h; exact (((((RA.rf.wr' (by decide)).wr' (by decide)).wr' (by decide)).wr' (by decide)).wr' (by decide)).wr' (by decide))
    | cases h
theorem i32_sub_sub (a b c : Int32) : a - b - c = a - (b + c) := by
  rw [Int32.sub_eq_add_neg, Int32.sub_eq_add_neg, Int32.sub_eq_add_neg, Int32.neg_add, Int32.add_assoc, Int32.sub_eq_add_neg]
theorem grooms_loop {s cnt : Nat} (hsx : s < 4) (hc : cnt ≤ 6) (x3 : Int32) : ∀ (k i F acc : Nat) (m w : Mem), i + k = cnt → k < F → Inv m w → rd m 16 s 0 ≠ -1 → ∃ r m' w', S_grooms_66L F x3 (nI cnt) s (nI acc) (nI i) m = some (r, m') ∧ M_grooms_75L F (nI s) x3 (nI cnt) (nI acc) (nI i) w = some (r, w') ∧ Inv m' w' := by
  intro k
  induction k with
  | zero =>
    intro i F acc m w hi hF hI h16
    obtain ⟨F, rfl⟩ : ∃ F', F = F' + 1 := ⟨F - 1, by omega⟩
    refine ⟨nI acc, m, w, ?_, ?_, hI⟩
    · show S_grooms_66 _ _ _ _ _ _ _ = _
      unfold S_grooms_66
      rw [if_neg (nI_nlt (by omega) (by omega))]
    · show M_grooms_75 _ _ _ _ _ _ _ = _
      unfold M_grooms_75
      rw [if_neg (nI_nlt (by omega) (by omega))]
  | succ k ih =>
    intro i F acc m w hi hF hI h16
    obtain ⟨F, rfl⟩ : ∃ F', F = F' + 1 := ⟨F - 1, by omega⟩
    have I0 := hI
    obtain ⟨hs, gr, tc, X, B, z, sk, sm, sv, IC⟩ := hI
    obtain ⟨-, -, -, ⟨h9, h10, h11⟩, -⟩ := IC
    have il : nI i < nI cnt := nI_lt (by omega) (by omega)
    rcases sheet_case h9 h10 h11 hsx with ⟨a1, a2, a3⟩ | ⟨a1, a2, a3, a4, a5, a6, a7, a8, a9, a10⟩
    · exfalso
      have := h10 s hsx
      rw [if_pos a1] at this
      exact h16 this
    have eS : S_grooms_66L (F + 1) x3 (nI cnt) s (nI acc) (nI i) m = (nm (if x3 < 0 then (0 : Int32) else if nI (sm s) - nI (3 * i + 3) < x3 then 0 else 1) fun r3 => if r3 = 0 then ( some ((-12), m)) else ( nm (x3 + nI (3 * i)) fun a5 => chk (inb a5 40) <| chk (inb (a5 + 1) 40) <| chk (inb (a5 + 2) 40) <| bnd2 (S_groom (rd m 17 s (ix a5)) (rd m 17 s (ix (a5 + 1))) (rd m 17 s (ix (a5 + 2))) m) fun r10 μ11 => if r10 < 0 then ( S_grooms_66L F x3 (nI cnt) s (nI acc) (nI (i + 1)) μ11) else ( S_grooms_66L F x3 (nI cnt) s (nI (acc + 1)) (nI (i + 1)) μ11))) := by
      show S_grooms_66 _ _ _ _ _ _ _ = _
      unfold S_grooms_66 S_grooms_137 Sh_has
      rw [if_pos il, litI 3, pk_mul, nI_add, if_neg (nI_pos (by omega)), a5]
      simp only [nm_eq]
      rw [nI_1, nI_1]
    have eM : M_grooms_75L (F + 1) (nI s) x3 (nI cnt) (nI acc) (nI i) w = (if x3 < 0 then ( some ((-12), w)) else ( if nI (sm s) - nI (3 * i + 3) < x3 then ( some ((-12), w)) else ( nm ((nI (40 * s) + x3) + nI (3 * i)) fun a5 => chk (inb a5 160) <| chk (inb (a5 + 1) 160) <| chk (inb (a5 + 2) 160) <| bnd2 (M_groom (rd w 16 0 (ix a5)) (rd w 16 0 (ix (a5 + 1))) (rd w 16 0 (ix (a5 + 2))) w) fun r10 μ11 => if r10 < 0 then ( M_grooms_75L F (nI s) x3 (nI cnt) (nI acc) (nI (i + 1)) μ11) else ( M_grooms_75L F (nI s) x3 (nI cnt) (nI (acc + 1)) (nI (i + 1)) μ11)))) := by
      show M_grooms_75 _ _ _ _ _ _ _ = _
      unfold M_grooms_75 M_grooms_158
      rw [if_pos il, chk_eq _ (inb_nI (by omega) (by omega)), ix_nI (by omega), a7, litI 3, litI 40, pk_mul, pk_mul, i32_sub_sub, nI_add]
      simp only [nm_eq]
      rw [show nI acc + (0 : Int32) = nI acc from nI_add acc 0, nI_1, nI_1]
    by_cases q0 : x3 < 0
    · refine ⟨-12, m, w, ?_, ?_, I0⟩
      · rw [eS, if_pos q0, nm_eq, if_pos rfl]
      · rw [eM, if_pos q0]
    rw [if_neg q0] at eS eM
    by_cases q1 : nI (sm s) - nI (3 * i + 3) < x3
    · refine ⟨-12, m, w, ?_, ?_, I0⟩
      · rw [eS, if_pos q1, nm_eq, if_pos rfl]
      · rw [eM, if_pos q1]
    rw [if_neg q1] at eS eM
    obtain ⟨p, hp, rfl⟩ := nI_of q0
    rw [sub_lt_iff (by omega) (by omega) hp] at q1
    have e2 : ∀ a, nI a + (2 : Int32) = nI (a + 2) := fun a => nI_add a 2
    have hle : p + 3 * i + 3 ≤ 40 := by omega
    obtain ⟨r, m', w', g1, g2, g3⟩ := groom_agree (sv s (p + 3 * i)) (sv s (p + 3 * i + 1)) (sv s (p + 3 * i + 2)) m w I0
    rw [nm_eq, if_neg (by decide), nm_eq, nI_add, nI_1, e2, chk_eq _ (inb_nI (by omega) (by omega)), chk_eq _ (inb_nI (by omega) (by omega)), chk_eq _ (inb_nI (by omega) (by omega)), ix_nI (by omega), ix_nI (by omega), ix_nI (by omega), a9 _ (by omega), a9 _ (by omega), a9 _ (by omega), bnd2_of g1] at eS
    rw [nm_eq, nI_add, nI_add, nI_1, e2, chk_eq _ (inb_nI (by omega) (by omega)), chk_eq _ (inb_nI (by omega) (by omega)), chk_eq _ (inb_nI (by omega) (by omega)), ix_nI (by omega), ix_nI (by omega), ix_nI (by omega), show 40 * s + p + 3 * i = 40 * s + (p + 3 * i) by omega, show 40 * s + (p + 3 * i) + 1 = 40 * s + (p + 3 * i + 1) by omega, show 40 * s + (p + 3 * i) + 2 = 40 * s + (p + 3 * i + 2) by omega, a10 _ (by omega), a10 _ (by omega), a10 _ (by omega), bnd2_of g2] at eM
    have h16' : rd m' 16 s 0 ≠ -1 := by rw [S_groom_ra g1 16 s 0 (by decide)]; exact h16
    by_cases qr : r < 0
    · obtain ⟨r', m2, w2, c1, c2, c3⟩ := ih (i + 1) F acc m' w' (by omega) (by omega) g3 h16'
      exact ⟨r', m2, w2, by rw [eS, if_pos qr, c1], by rw [eM, if_pos qr, c2], c3⟩
    · obtain ⟨r', m2, w2, c1, c2, c3⟩ := ih (i + 1) F (acc + 1) m' w' (by omega) (by omega) g3 h16'
      exact ⟨r', m2, w2, by rw [eS, if_neg qr, c1], by rw [eM, if_neg qr, c2], c3⟩
theorem grooms_agree (x1 x2 x3 x4 : Int32) : Agree (S_grooms x1 x2 x3 x4) (M_grooms x1 x2 x3 x4) := by
  intro μ ν I
  have I0 := I
  obtain ⟨hs, gr, tc, X, B, z, sk, sm, sv, IC⟩ := I
  have no : ∀ v : Int32, S_grooms x1 x2 x3 x4 μ = some (v, μ) → M_grooms x1 x2 x3 x4 ν = some (v, ν) → ∃ r μ' ν', S_grooms x1 x2 x3 x4 μ = some (r, μ') ∧ M_grooms x1 x2 x3 x4 ν = some (r, ν') ∧ Inv μ' ν' := fun v a b => ⟨v, μ, ν, a, b, I0⟩
  obtain ⟨-, -, -, ⟨h9, h10, h11⟩, -⟩ := IC
  rcases S_isSheet_sp x1 with ⟨s, hsx, rfl, e1, e2⟩ | ⟨e1, e2⟩
  rotate_left
  · refine no (-2) ?_ ?_
    · unfold S_grooms
      rw [e1, nm_eq, if_pos rfl]
    · unfold M_grooms
      rw [bnd_of e2, if_pos rfl]
  rcases S_isSort_sp (x := x2) with ⟨q2, f1⟩ | ⟨k, hk, rfl, f1⟩
  · refine no (-2) ?_ ?_
    · unfold S_grooms
      rw [e1, nm_eq, if_neg (by decide), f1, nm_eq, if_pos rfl]
    · unfold M_grooms
      rw [bnd_of e2, if_neg (by decide), show (2 : Int64) = lN 2 from rfl, M_in_out (by omega) q2, nm_eq, if_pos rfl]
  have f2 : M_in (nI k).toInt64 0 2 = 1 := M_in_yes (b := 2) (by omega) hk
  rcases i32_rng x4 (b := 6) (by omega) with q4 | q4 | ⟨c, hc, rfl⟩
  · refine no (-2) ?_ ?_
    · unfold S_grooms
      rw [e1, nm_eq, if_neg (by decide), f1, nm_eq, if_neg (by decide), if_pos q4]
    · unfold M_grooms
      rw [bnd_of e2, if_neg (by decide), f2, nm_eq, if_neg (by decide), show (6 : Int64) = lN 6 from rfl, M_in_out (by omega) (Or.inl q4), nm_eq, if_pos rfl]
  · refine no (-2) ?_ ?_
    · unfold S_grooms
      rw [e1, nm_eq, if_neg (by decide), f1, nm_eq, if_neg (by decide), if_neg (fun q => absurd (Int32.lt_trans q4 q) (by decide)), if_pos (show 6 < x4 from q4)]
    · unfold M_grooms
      rw [bnd_of e2, if_neg (by decide), f2, nm_eq, if_neg (by decide), show (6 : Int64) = lN 6 from rfl, M_in_out (by omega) (Or.inr q4), nm_eq, if_pos rfl]
  have f3 : M_in (nI c).toInt64 0 6 = 1 := M_in_yes (b := 6) (by omega) hc
  have ib : inb (nI s) 4 := inb_nI (by omega) (by omega)
  have ixs : ix (nI s) = s := ix_nI (by omega)
  have eS : S_grooms (nI s) (nI k) x3 (nI c) μ = (nm (Sh_isMissing s μ) fun r11 => if r11 = 0 then ( if (rd μ 16 s 0) = nI k then ( S_grooms_66L 1000 x3 (nI c) s 0 0 μ) else ( some ((-13), μ))) else ( some ((-11), μ))) := by
    unfold S_grooms
    rw [e1, nm_eq, if_neg (by decide), f1, nm_eq, if_neg (by decide), if_neg (nI_pos (by omega)), if_neg (show ¬ 6 < nI c from nI_nlt (a := 6) (by omega) (by omega)), chk_eq _ ib, ixs]
  have eM : M_grooms (nI s) (nI k) x3 (nI c) ν = (if (rd ν 13 0 s) = 0 then ( M_grooms_57 (nI s) x3 (nI c) ν) else ( if (rd ν 14 0 s) = nI k then ( M_grooms_57 (nI s) x3 (nI c) ν) else ( some ((-13), ν)))) := by
    unfold M_grooms
    rw [bnd_of e2, if_neg (by decide), f2, nm_eq, if_neg (by decide), f3, nm_eq, if_neg (by decide), chk_eq _ ib, chk_eq _ ib, ixs]
  have e57 : M_grooms_57 (nI s) x3 (nI c) ν = if (rd ν 13 0 s) = 0 then ( some ((-11), ν)) else ( M_grooms_75L 1000 (nI s) x3 (nI c) 0 0 ν) := by
    unfold M_grooms_57
    rw [chk_eq _ ib, ixs]
  rcases sheet_case h9 h10 h11 hsx with ⟨a1, a2, a3⟩ | ⟨a1, a2, a3, a4, a5, a6, a7, a8, a9, a10⟩
  · refine no (-11) ?_ ?_
    · rw [eS, a2, nm_eq, if_neg (by decide)]
    · rw [eM, a3, if_pos rfl, e57, a3, if_pos rfl]
  rw [a2, nm_eq, if_pos rfl, a4] at eS
  rw [a3, if_neg (by decide)] at e57
  rw [a3, if_neg (by decide), a6, e57] at eM
  by_cases qk : nI (sk s) = nI k
  · rw [if_pos qk] at eS eM
    rw [eS, eM]
    exact grooms_loop hsx hc x3 c 0 1000 0 μ ν (by omega) (by omega) I0 (by rw [a4]; exact nI_neg1 (by omega))
  · rw [if_neg qk] at eS eM
    exact no (-13) eS eM
theorem InvC.same {hs : Nat → Nat} {gr : Nat → Nat → Nat} {tc : Nat} {X : Nat → List Int32 × List Int32 × List Int32} {B : Nat → Int32} {z : Nat} {sk sm : Nat → Nat} {sv : Nat → Nat → Int32} {μ ν μ' ν' : Mem} (H : InvC hs gr tc X B z sk sm sv μ ν) (ha : SameA μ μ') (hm : SameM ν ν') : InvC hs gr tc X B z sk sm sv μ' ν' := by
  obtain ⟨⟨h1, h2, h3, h4⟩, ⟨h5, h6⟩, ⟨h7, h8⟩, ⟨h9, h10, h11⟩, h12⟩ := H
  have m0 : ∀ j, j ∉ SCM → rd ν' 0 0 j = rd ν 0 0 j := fun j hj => hm 0 j (by decide) (fun _ => hj)
  have m1 : ∀ f j, f ≠ 0 → f ∉ [7, 8, 9, 10] → rd ν' f 0 j = rd ν f 0 j := fun f j hf hj => hm f j hj (fun q => absurd q hf)
  refine ⟨⟨h1, h2, h3.cg (fun j => ha 1 0 j (by decide)) (fun g j => ha 2 _ j (by decide)), h4.cg (fun j hj => m0 j ?_) (fun f j hf => m1 f j ?_ ?_)⟩, ⟨h5.cg (ha 0 0 4 (by decide)) (fun f i j hf _ => ha f i j ?_), h6.cg (m0 3 (by decide)) (fun f j hf => m1 f j ?_ ?_)⟩, ⟨h7.cg (ha 10 0 1 (by decide)) (fun j => ha 11 0 j (by decide)), h8.cg (m0 6 (by decide)) (fun j => m1 3 j (by decide) (by decide))⟩, ⟨h9, h10.cg (fun f i j hf => ha f i j ?_), h11.cg (fun f j hf => m1 f j ?_ ?_)⟩, h12.cg (Nat.le_refl _) (fun _ _ => rfl) (Nat.le_refl _) (ha 0 0 2 (by decide)) (fun j => ha 1 1 j (by decide)) (fun g j => ha 2 _ j (by decide)) (fun j hj => m0 j ?_) (fun f j hf => m1 f j ?_ ?_)⟩
  · revert j; decide
  · revert f; decide
  · revert f; decide
  · revert f; decide
  · revert f; decide
  · revert f; decide
  · revert f; decide
  · revert f; decide
  · revert f; decide
  · revert j; decide
  · revert f; decide
  · revert f; decide
theorem InvC.inv {hs : Nat → Nat} {gr : Nat → Nat → Nat} {tc : Nat} {X : Nat → List Int32 × List Int32 × List Int32} {B : Nat → Int32} {z : Nat} {sk sm : Nat → Nat} {sv : Nat → Nat → Int32} {μ ν : Mem} (H : InvC hs gr tc X B z sk sm sv μ ν) : Inv μ ν := ⟨_, _, _, _, _, _, _, _, _, H⟩
/-- one item written in both -/
theorem InvC.item {hs : Nat → Nat} {gr : Nat → Nat → Nat} {tc : Nat} {X : Nat → List Int32 × List Int32 × List Int32} {B : Nat → Int32} {z : Nat} {sk sm : Nat → Nat} {sv : Nat → Nat → Int32} {μ ν : Mem} (H : InvC hs gr tc X B z sk sm sv μ ν) {s p : Nat} (hp : p < 40) (w : Int32) : InvC hs gr tc X B z sk sm (fun a i => if a = s ∧ i = p then w else sv a i) (up μ 17 s p w) (up ν 16 0 (40 * s + p) w) := by
  obtain ⟨⟨h1, h2, h3, h4⟩, ⟨h5, h6⟩, ⟨h7, h8⟩, ⟨h9, h10, h11⟩, h12⟩ := H
  refine ⟨⟨h1, h2, h3.cg (fun j => rd_up_f (by decide)) (fun g j => rd_up_f (by decide)), h4.cg (fun j hj => rd_up_f (by decide)) (fun f j hf => rd_up_f ?_)⟩, ⟨h5.cg (rd_up_f (by decide)) (fun f i j hf _ => rd_up_f ?_), h6.cg (rd_up_f (by decide)) (fun f j hf => rd_up_f ?_)⟩, ⟨h7.cg (rd_up_f (by decide)) (fun j => rd_up_f (by decide)), h8.cg (rd_up_f (by decide)) (fun j => rd_up_f (by decide))⟩, ⟨h9, fun s' hs' => ?_, fun s' hs' => ?_⟩, h12.cg (Nat.le_refl _) (fun _ _ => rfl) (Nat.le_refl _) (rd_up_f (by decide)) (fun j => rd_up_f (by decide)) (fun g j => rd_up_f (by decide)) (fun j hj => rd_up_f (by decide)) (fun f j hf => rd_up_f ?_)⟩
  · revert f; decide
  · revert f; decide
  · revert f; decide
  · have := h10 s' hs'
    by_cases v : sk s' = 3
    · rw [if_pos v] at this ⊢; exact this
    · rw [if_neg v] at this ⊢
      refine ⟨this.1, this.2.1, fun i hi => ?_⟩
      by_cases u : s' = s ∧ i = p
      · obtain ⟨rfl, rfl⟩ := u
        simp only [and_self, if_true]
        exact rd_up_s _ _ _ _ _
      · simp only [if_neg u]
        rw [← this.2.2 i hi, rd_up, if_neg (fun z => u ⟨z.2.1, z.2.2⟩)]
  · have := h11 s' hs'
    have hm' := (h9 s' hs').2
    by_cases v : sk s' = 3
    · rw [if_pos v] at this ⊢; exact this
    · rw [if_neg v] at this ⊢
      refine ⟨this.1, this.2.1, this.2.2.1, fun i hi => ?_⟩
      by_cases u : s' = s ∧ i = p
      · obtain ⟨rfl, rfl⟩ := u
        simp only [and_self, if_true]
        exact rd_up_s _ _ _ _ _
      · simp only [if_neg u]
        rw [← this.2.2.2 i hi, rd_up_j (by omega)]
  · revert f; decide
/-- what a groom as it is feels, in both -/
theorem feels_both {hs : Nat → Nat} {gr : Nat → Nat → Nat} {tc : Nat} {X : Nat → List Int32 × List Int32 × List Int32} {μ : Mem} (h : HOK hs gr tc) (ht : tc ≤ 6) (hA : HA 0 hs gr μ) (hX : XA tc X μ) {g : Nat} (hg : g < hs 3) : ∃ m1 m2, S_seeAsIs (nI g) μ = some m1 ∧ S_rule m1 = some (hs 2) ∧ Ma_feels (hs 2) m1 = some (nI (feelV (X (hs 2)) (eG gr g (gr g 4) (gr (gr g 4) 2))), m2) ∧ Off [8, 18, 19] μ m2 := by
  obtain ⟨m, t1, t2, t3⟩ := S_seeAsIs_sp h hA hg
  have hx := (hX.2 (hs 2) h.2.2.1).off t3 (by decide) (by decide)
  have b0 : eG gr g (gr g 4) (gr (gr g 4) 2) 0 < 2 ^ 31 := by have := (h.2.2.2.2.1 g hg).1; show gr g 0 < _; omega
  obtain ⟨m2, u1, u2⟩ := Ma_feels_sp hx t2.1 t2.2.1 t2.2.2.1 b0
  exact ⟨m, m2, t1, S_rule_sp h ht (hA.off t3 (by decide) (by decide)), u1, (t3.mono (by decide)).tr (u2.mono (by decide))⟩
theorem b8_small : ∀ r : Nat, r < 100 → b8 (nI r) = nI r := by decide +kernel
theorem film_agree (x1 : Int32) : Agree (S_film x1) (M_film x1) := by
  intro μ ν I
  have I0 := I
  obtain ⟨hs, gr, tc, X, B, z, sk, sm, sv, IC⟩ := I
  rcases S_isSheet_sp x1 with ⟨s, hsx, rfl, e1, e2⟩ | ⟨e1, e2⟩
  rotate_left
  · refine ⟨-2, μ, ν, ?_, ?_, I0⟩
    · unfold S_film
      rw [e1, nm_eq, if_pos rfl]
    · unfold M_film
      rw [bnd_of e2, if_pos rfl]
  have h : HOK hs gr tc := IC.1.1
  have ht : tc ≤ 6 := IC.1.2.1
  have hn := h.2.2.2.1
  have ib : inb (nI s) 4 := inb_nI (by omega) (by omega)
  have ixs : ix (nI s) = s := ix_nI (by omega)
  obtain ⟨m0, w0, c1, c2, c3⟩ := sheet_new IC hsx (k := 0) (m := hs 3) (by omega) (by omega)
  have key : ∀ (k g F : Nat) (sv' : Nat → Nat → Int32) (m w : Mem), g + k = hs 3 → k < F → InvC hs gr tc X B z (u1 sk s 0) (u1 sm s (hs 3)) sv' m w → ∃ m' w', S_film_31L F s (nI g) m = some (nI (hs 3), m') ∧ M_film_23L F (nI s) (nI g) w = some (nI (hs 3), w') ∧ Inv m' w' := by
    intro k
    induction k with
    | zero =>
      intro g F sv' m w hg hF J
      obtain ⟨F, rfl⟩ : ∃ F', F = F' + 1 := ⟨F - 1, by omega⟩
      refine ⟨m, w, ?_, ?_, J.inv⟩
      · show S_film_31 _ _ _ _ = _
        unfold S_film_31
        rw [J.1.2.2.1.1 3 (by decide), if_neg (nI_nlt (by omega) (by omega))]
      · show M_film_23 _ _ _ _ = _
        unfold M_film_23
        rw [J.1.2.2.2.2.2.2.1, if_neg (nI_nlt (by omega) (by omega))]
    | succ k ih =>
      intro g F sv' m w hg hF J
      obtain ⟨F, rfl⟩ : ∃ F', F = F' + 1 := ⟨F - 1, by omega⟩
      have hgn : g < hs 3 := by omega
      have hA := J.1.2.2.1
      have hM := J.1.2.2.2
      have c5 := (h.2.2.2.2.1 g hgn).2.2.2.2
      obtain ⟨m1, m2, t1, t2, t3, t4⟩ := feels_both h ht hA J.2.1.1 hgn
      obtain ⟨w1, s1, s2⟩ := M_feelsOf_sp (J.2.1.2.2 (hs 2) h.2.2.1) (hM.mro h ht hgn c5) (by have := (h.2.2.2.2.1 g hgn).1; show gr g 0 < _; omega)
      have hv := feelV_le (X (hs 2)) (eG gr g (gr g 4) (gr (gr g 4) 2))
      have J2 := (J.same (t4.same (by decide)) (s2.same (by decide))).item (s := s) (p := g) (by omega) (nI (feelV (X (hs 2)) (eG gr g (gr g 4) (gr (gr g 4) 2))))
      obtain ⟨m', w', r1, r2, r3⟩ := ih (g + 1) F _ _ _ (by omega) (by omega) J2
      refine ⟨m', w', ?_, ?_, r3⟩
      · have ep : Sh_put s (nI g) (nI (feelV (X (hs 2)) (eG gr g (gr g 4) (gr (gr g 4) 2)))) m2 = some (up m2 17 s g (nI (feelV (X (hs 2)) (eG gr g (gr g 4) (gr (gr g 4) 2))))) := by
          have := J.2.2.2.1.2.1 s hsx
          rw [u1_s, if_neg (by decide)] at this
          unfold Sh_put
          rw [t4.rd (by decide), this.1, if_pos (by decide), chk_eq _ (inb_nI (by omega) (by omega)), nm_eq, ix_nI (by omega), b8_small _ (by omega)]
        show S_film_31 _ _ _ _ = _
        unfold S_film_31
        rw [hA.1 3 (by decide), if_pos (nI_lt hgn (by omega)), bnd_of t1, bnd_of t2, chk_eq _ (show hs 2 < 6 by have := h.2.2.1; omega), bnd2_of t3, bnd_of ep, nm_eq, nI_1]
        exact r1
      · show M_film_23 _ _ _ _ = _
        unfold M_film_23
        rw [hM.2.2.2.1, if_pos (nI_lt hgn (by omega)), chk_eq _ (inb_nI (by omega) (by omega)), ix_nI (by omega), (hM.2.2.2.2 g hgn).2.2.2.2, bnd2_of s1, litI 40, pk_mul, nI_add, chk_eq _ (inb_nI (by omega) (by omega)), nm_eq, nm_eq, ix_nI (by omega), nI_1]
        exact r2
  obtain ⟨m', w', r1, r2, r3⟩ := key (hs 3) 0 1000 _ m0 w0 (by omega) (by omega) c3
  refine ⟨nI (hs 3), m', w', ?_, ?_, r3⟩
  · unfold S_film
    rw [e1, nm_eq, if_neg (by decide), chk_eq _ ib, ixs, IC.1.2.2.1.1 3 (by decide), bnd_of (show Sh_become s 0 (nI (hs 3)) μ = some m0 from c1)]
    exact r1
  · have i1 : M_in (0 : Int32).toInt64 (-1) 2 = 1 := by
      rw [M_in_iff]; decide
    have e59 : M_sheet (nI s) 0 (nI (hs 3)) ν = some (1, w0) := by
      unfold M_sheet
      rw [bnd_of e2, if_neg (by decide), i1, nm_eq, if_neg (by decide), if_neg (by decide), if_neg (show ¬ 40 < nI (hs 3) from nI_nlt (a := 40) (by omega) (by omega))]
      unfold M_sheet_34
      rw [if_neg (by decide), if_neg (nI_pos (by omega))]
      unfold M_sheet_45
      rw [if_neg (by decide)]
      exact c2
    unfold M_film
    rw [bnd_of e2, if_neg (by decide), IC.1.2.2.2.2.2.2.1, bnd2_of e59]
    exact r2
