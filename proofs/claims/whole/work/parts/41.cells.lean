/-! ===== cell, copy, grooms ===== -/
theorem sub_lt_iff {m c p : Nat} (hm : m < 2 ^ 30) (hc : c < 2 ^ 31) (hp : p < 2 ^ 31) : (nI m - nI c < nI p) ↔ m < p + c := by
  have e : (nI m - nI c).toInt = (m : Int) - c := by
    rw [Int32.toInt_sub, nI_toInt (by omega), nI_toInt hc]
    rw [Int.bmod_eq_of_le (by omega) (by omega)]
  rw [Int32.lt_iff_toInt_lt, e, nI_toInt hp]
  omega
theorem sheet_case {sk sm : Nat → Nat} {sv : Nat → Nat → Int32} {μ ν : Mem} (h9 : ShO sk sm) (h10 : ShA sk sm sv μ) (h11 : ShM sk sm sv ν) {s : Nat} (hs : s < 4) : (sk s = 3 ∧ Sh_isMissing s μ = 1 ∧ rd ν 13 0 s = 0) ∨ (sk s ≤ 2 ∧ Sh_isMissing s μ = 0 ∧ rd ν 13 0 s = 1 ∧ rd μ 16 s 0 = nI (sk s) ∧ rd μ 16 s 1 = nI (sm s) ∧ rd ν 14 0 s = nI (sk s) ∧ rd ν 15 0 s = nI (sm s) ∧ sm s ≤ 40 ∧ (∀ i, i < sm s → rd μ 17 s i = sv s i) ∧ ∀ i, i < sm s → rd ν 16 0 (40 * s + i) = sv s i) := by
  have a := h9 s hs
  have b := h10 s hs
  have c := h11 s hs
  by_cases q : sk s = 3
  · rw [if_pos q] at b c
    exact Or.inl ⟨q, by unfold Sh_isMissing; rw [if_pos b], c⟩
  · rw [if_neg q] at b c
    exact Or.inr ⟨by omega, by unfold Sh_isMissing; rw [b.1, if_neg (nI_neg1 (by omega))], c.1, b.1, b.2.1, c.2.1, c.2.2.1, a.2, b.2.2, c.2.2.2⟩
theorem cell_agree (x1 x2 x3 : Int32) : Agree (S_cell x1 x2 x3) (M_cell x1 x2 x3) := by
  intro μ ν I
  have I0 := I
  obtain ⟨hs, gr, tc, X, B, z, sk, sm, sv, IC⟩ := I
  have no : ∀ v : Int32, S_cell x1 x2 x3 μ = some (v, μ) → M_cell x1 x2 x3 ν = some (v, ν) → ∃ r μ' ν', S_cell x1 x2 x3 μ = some (r, μ') ∧ M_cell x1 x2 x3 ν = some (r, ν') ∧ Inv μ' ν' := fun v a b => ⟨v, μ, ν, a, b, I0⟩
  obtain ⟨-, -, -, ⟨h9, h10, h11⟩, -⟩ := id IC
  rcases S_isSheet_sp x1 with ⟨s, hsx, rfl, e1, e2⟩ | ⟨e1, e2⟩
  rotate_left
  · refine no (-2) ?_ ?_
    · unfold S_cell
      rw [e1, nm_eq, if_pos rfl]
    · unfold M_cell
      rw [bnd_of e2, if_pos rfl]
  have ib : inb (nI s) 4 := inb_nI (by omega) (by omega)
  have ixs : ix (nI s) = s := ix_nI (by omega)
  rcases sheet_case h9 h10 h11 hsx with ⟨a1, a2, a3⟩ | ⟨a1, a2, a3, a4, a5, a6, a7, a8, a9, a10⟩
  · refine no (-11) ?_ ?_
    · unfold S_cell
      rw [e1, nm_eq, if_neg (by decide), chk_eq _ ib, ixs, a2, nm_eq, if_neg (by decide)]
    · unfold M_cell
      rw [bnd_of e2, if_neg (by decide), chk_eq _ ib, chk_eq _ ib, chk_eq _ ib, chk_eq _ ib, ixs, a3, if_pos rfl]
  have eS : S_cell (nI s) x2 x3 μ = if x2 < 0 then some (-12, μ) else if x2 < nI (sm s) then ( bnd (Sh_put s x2 x3 μ) fun μ11 => some (1, μ11)) else some (-12, μ) := by
    unfold S_cell
    rw [e1, nm_eq, if_neg (by decide), chk_eq _ ib, ixs, a2, nm_eq, if_pos rfl, a5]
  have eM : M_cell (nI s) x2 x3 ν = if (if gOK (sm s) x2 then (1 : Int32) else 0) = 0 then some (-12, ν) else ( if nI (sk s) = 0 then ( M_cell_83 ((40 * nI s) + x2) (b8 x3) ν) else ( if nI (sk s) = 1 then ( M_cell_83 ((40 * nI s) + x2) (b16 x3) ν) else ( M_cell_83 ((40 * nI s) + x2) x3 ν))) := by
    unfold M_cell
    rw [bnd_of e2, if_neg (by decide), chk_eq _ ib, chk_eq _ ib, chk_eq _ ib, chk_eq _ ib, ixs, a3, if_neg (by decide), a7, M_in_last (by omega), nm_eq, a6]
  by_cases q : gOK (sm s) x2
  rotate_left
  · refine no (-12) ?_ ?_
    · rw [eS]
      by_cases w : x2 < 0
      · rw [if_pos w]
      · rw [if_neg w, if_neg (fun z => q ⟨w, z⟩)]
    · rw [eM, if_neg q, if_pos rfl]
  rw [if_pos q, if_neg (by decide)] at eM
  rw [if_neg q.1, if_pos q.2] at eS
  obtain ⟨p, hp, rfl⟩ := gOK_nI q (by omega)
  have fin : ∀ w : Int32, Sh_put s (nI p) x3 μ = some (up μ 17 s p w) → M_cell (nI s) (nI p) x3 ν = M_cell_83 ((40 * nI s) + nI p) w ν → ∃ r μ' ν', S_cell (nI s) (nI p) x3 μ = some (r, μ') ∧ M_cell (nI s) (nI p) x3 ν = some (r, ν') ∧ Inv μ' ν' := by
    intro w c1 c2
    refine ⟨1, _, up ν 16 0 (40 * s + p) w, by rw [eS, bnd_of c1], ?_, Inv.sheets (sk' := sk) (sm' := sm) (sv' := fun a i => if a = s ∧ i = p then w else sv a i) IC h9 (fun s' hs' => ?_) (fun s' hs' => ?_) (RA.rf.wr' (by decide)) (RM.rf.wr' (by decide))⟩
    · rw [c2]
      unfold M_cell_83
      rw [litI 40, pk_mul, nI_add, chk_eq _ (inb_nI (by omega) (by omega)), nm_eq, ix_nI (by omega)]
    · have := h10 s' hs'
      by_cases v : sk s' = 3
      · rw [if_pos v] at this ⊢; exact this
      · rw [if_neg v] at this ⊢
        refine ⟨this.1, this.2.1, fun i hi => ?_⟩
        by_cases u : s' = s ∧ i = p
        · obtain ⟨rfl, rfl⟩ := u
          simp only [and_self, if_true]
          exact rd_up_s _ _ _ _ _
        · simp only [if_neg u]
          rw [← this.2.2 i hi, rd_up, if_neg (fun z => u ⟨z.2.1, z.2.2⟩)]
    · have := h11 s' hs'
      have hm' := (h9 s' hs').2
      by_cases v : sk s' = 3
      · rw [if_pos v] at this ⊢; exact this
      · rw [if_neg v] at this ⊢
        refine ⟨this.1, this.2.1, this.2.2.1, fun i hi => ?_⟩
        by_cases u : s' = s ∧ i = p
        · obtain ⟨rfl, rfl⟩ := u
          simp only [and_self, if_true]
          exact rd_up_s _ _ _ _ _
        · simp only [if_neg u]
          rw [← this.2.2.2 i hi, rd_up_j (by omega)]
  have ibp : inb (nI p) 40 := inb_nI (by omega) (by omega)
  have ixp : ix (nI p) = p := ix_nI (by omega)
  by_cases k0 : sk s = 0
  · refine fin (b8 x3) ?_ ?_
    · unfold Sh_put
      rw [a4, if_pos (by rw [k0]; rfl), chk_eq _ ibp, nm_eq, ixp]
    · rw [eM, if_pos (by rw [k0]; rfl)]
  · have n0 : ¬ nI (sk s) = 0 := nI_lit_ne (b := 0) (by omega) (by omega) k0
    by_cases k1 : sk s = 1
    · refine fin (b16 x3) ?_ ?_
      · unfold Sh_put
        rw [a4, if_neg n0, if_pos (by rw [k1]; rfl), chk_eq _ ibp, nm_eq, ixp]
      · rw [eM, if_neg n0, if_pos (by rw [k1]; rfl)]
    · have n1 : ¬ nI (sk s) = 1 := nI_lit_ne (b := 1) (by omega) (by omega) k1
      refine fin x3 ?_ ?_
      · unfold Sh_put
        rw [a4, if_neg n0, if_neg n1, chk_eq _ ibp, nm_eq, ixp]
      · rw [eM, if_neg n0, if_neg n1]
/-- the reference's copy, in whichever order -/
theorem M_copy_loop {s t a b n y : Nat} (off : Nat → Nat) (hs : s < 4) (ht : t < 4) (ha : a + n ≤ 40) (hb : b + n ≤ 40) (hy : (y = 0 ∧ ∀ i, i < n → off i = i) ∨ (y = 1 ∧ ∀ i, i < n → off i = n - 1 - i)) (hsafe : ∀ i i', i < n → i' < i → ¬ (s = t ∧ a + off i = b + off i')) (ν : Mem) : ∃ ν', M_copy_116 (nI s) (nI a) (nI t) (nI b) (nI n) (nI y) ν = some (nI n, ν') ∧ RM [16] [] ν ν' ∧ (∀ k, k < n → rd ν' 16 0 (40 * t + (b + k)) = rd ν 16 0 (40 * s + (a + k))) ∧ ∀ j, (∀ k, k < n → j ≠ 40 * t + (b + k)) → rd ν' 16 0 j = rd ν 16 0 j := by
  have offlt : ∀ i, i < n → off i < n := by
    intro i hi
    rcases hy with ⟨-, h⟩ | ⟨-, h⟩
    · rw [h i hi]; exact hi
    · rw [h i hi]; omega
  have inj : ∀ i i', i < n → i' < n → off i = off i' → i = i' := by
    intro i i' hi hi' e
    rcases hy with ⟨-, h⟩ | ⟨-, h⟩
    · rw [h i hi, h i' hi'] at e; exact e
    · rw [h i hi, h i' hi'] at e; omega
  have sur : ∀ k, k < n → ∃ i, i < n ∧ off i = k := by
    intro k hk
    rcases hy with ⟨-, h⟩ | ⟨-, h⟩
    · exact ⟨k, hk, h k hk⟩
    · exact ⟨n - 1 - k, by omega, by rw [h _ (by omega)]; omega⟩
  have key : ∀ (m i F : Nat) (w : Mem), i + m = n → m < F → RM [16] [] ν w → (∀ i', i' < i → rd w 16 0 (40 * t + (b + off i')) = rd ν 16 0 (40 * s + (a + off i'))) → (∀ j, (∀ i', i' < i → j ≠ 40 * t + (b + off i')) → rd w 16 0 j = rd ν 16 0 j) → ∃ ν', M_copy_121L F (nI s) (nI a) (nI t) (nI b) (nI n) (nI y) (nI i) w = some (nI n, ν') ∧ RM [16] [] ν ν' ∧ (∀ i', i' < n → rd ν' 16 0 (40 * t + (b + off i')) = rd ν 16 0 (40 * s + (a + off i'))) ∧ ∀ j, (∀ i', i' < n → j ≠ 40 * t + (b + off i')) → rd ν' 16 0 j = rd ν 16 0 j := by
    intro m
    induction m with
    | zero =>
      intro i F w hi hF r1 r2 r3
      obtain ⟨F, rfl⟩ : ∃ F', F = F' + 1 := ⟨F - 1, by omega⟩
      have : i = n := by omega
      subst this
      refine ⟨w, ?_, r1, r2, r3⟩
      show M_copy_121 _ _ _ _ _ _ _ _ _ = _
      unfold M_copy_121
      rw [if_neg (nI_nlt (by omega) (by omega))]
    | succ m ih =>
      intro i F w hi hF r1 r2 r3
      obtain ⟨F, rfl⟩ : ∃ F', F = F' + 1 := ⟨F - 1, by omega⟩
      have hin : i < n := by omega
      have ho := offlt i hin
      have src : rd w 16 0 (40 * s + (a + off i)) = rd ν 16 0 (40 * s + (a + off i)) := by
        refine r3 _ (fun i' hi' e => ?_)
        have ho' := offlt i' (by omega)
        exact hsafe i i' hin hi' ⟨by omega, by omega⟩
      obtain ⟨ν', w1, w2⟩ := ih (i + 1) F (up w 16 0 (40 * t + (b + off i)) (rd ν 16 0 (40 * s + (a + off i)))) (by omega) (by omega) (r1.wr' (by decide)) (fun i' hi' => by
        by_cases q : i' = i
        · subst q; exact rd_up_s _ _ _ _ _
        · have := offlt i' (by omega)
          rw [rd_up_j (fun e => q (inj i' i (by omega) hin (by omega)))]
          exact r2 i' (by omega)) (fun j hj => by
        rw [rd_up_j (hj i (by omega))]
        exact r3 j (fun i' hi' => hj i' (by omega)))
      refine ⟨ν', ?_, w2⟩
      have e145 : ∀ y0, y0 = nI (off i) → M_copy_145 (M_copy_121L F) (nI s) (nI a) (nI t) (nI b) (nI n) (nI y) (nI i) y0 w = M_copy_121L F (nI s) (nI a) (nI t) (nI b) (nI n) (nI y) (nI (i + 1)) (up w 16 0 (40 * t + (b + off i)) (rd ν 16 0 (40 * s + (a + off i)))) := by
        intro y0 ey
        subst ey
        unfold M_copy_145
        rw [litI 40, pk_mul, pk_mul, nI_add, nI_add, nI_add, nI_add, chk_eq _ (inb_nI (by omega) (by omega)), chk_eq _ (inb_nI (by omega) (by omega)), nm_eq, nm_eq, nI_1, ix_nI (by omega), ix_nI (by omega), show 40 * s + a + off i = 40 * s + (a + off i) by omega, show 40 * t + b + off i = 40 * t + (b + off i) by omega, src]
      show M_copy_121 _ _ _ _ _ _ _ _ _ = _
      unfold M_copy_121
      rw [if_pos (nI_lt hin (by omega))]
      rcases hy with ⟨y0, h⟩ | ⟨y1, h⟩
      · rw [if_pos (show nI y = 0 by rw [y0]; rfl)]
        rw [e145 _ (by rw [h i hin])]
        exact w1
      · rw [if_neg (show ¬ nI y = 0 by rw [y1]; decide), litI 1, nI_sub' (by omega), nI_sub' (by omega), e145 _ (by rw [h i hin])]
        exact w1
  obtain ⟨ν', w1, w2, w3, w4⟩ := key n 0 1000 ν (by omega) (by omega) RM.rf (fun i hi => by omega) (fun j _ => rfl)
  refine ⟨ν', w1, w2, fun k hk => ?_, fun j hj => w4 j (fun i' hi' => hj _ (offlt i' hi'))⟩
  obtain ⟨i, hi, rfl⟩ := sur k hk
  exact w3 i hi
theorem copy_agree (x1 x2 x3 x4 x5 : Int32) : Agree (S_copy x1 x2 x3 x4 x5) (M_copy x1 x2 x3 x4 x5) := by
  intro μ ν I
  have I0 := I
  obtain ⟨hs, gr, tc, X, B, z, sk, sm, sv, IC⟩ := I
  have no : ∀ v : Int32, S_copy x1 x2 x3 x4 x5 μ = some (v, μ) → M_copy x1 x2 x3 x4 x5 ν = some (v, ν) → ∃ r μ' ν', S_copy x1 x2 x3 x4 x5 μ = some (r, μ') ∧ M_copy x1 x2 x3 x4 x5 ν = some (r, ν') ∧ Inv μ' ν' := fun v a b => ⟨v, μ, ν, a, b, I0⟩
  obtain ⟨-, -, -, ⟨h9, h10, h11⟩, -⟩ := id IC
  rcases S_isSheet_sp x1 with ⟨s, hsx, rfl, e1, e2⟩ | ⟨e1, e2⟩
  rotate_left
  · refine no (-2) ?_ ?_
    · unfold S_copy
      rw [e1, nm_eq, if_pos rfl]
    · unfold M_copy
      rw [bnd_of e2, if_pos rfl]
  rcases S_isSheet_sp x3 with ⟨t, htx, rfl, e3, e4⟩ | ⟨e3, e4⟩
  rotate_left
  · refine no (-2) ?_ ?_
    · unfold S_copy
      rw [e1, nm_eq, if_neg (by decide), e3, nm_eq, if_pos rfl]
    · unfold M_copy
      rw [bnd_of e2, if_neg (by decide), bnd_of e4, if_pos rfl]
  have ib : inb (nI s) 4 := inb_nI (by omega) (by omega)
  have ixs : ix (nI s) = s := ix_nI (by omega)
  have ibt : inb (nI t) 4 := inb_nI (by omega) (by omega)
  have ixt : ix (nI t) = t := ix_nI (by omega)
  have eS : S_copy (nI s) x2 (nI t) x4 x5 μ = (nm (Sh_isMissing s μ) fun r10 => if r10 = 0 then ( nm (Sh_isMissing t μ) fun r13 => if r13 = 0 then ( if (rd μ 16 s 0) = (rd μ 16 t 0) then ( nm (Sh_has s x2 x5 μ) fun r17 => if r17 = 0 then ( some ((-12), μ)) else ( nm (Sh_has t x4 x5 μ) fun r20 => if r20 = 0 then ( some ((-12), μ)) else ( chk (¬ x2 < 0 ∧ ¬ x4 < 0 ∧ ¬ x5 < 0 ∧ ix x2 + ix x5 ≤ 40 ∧ ix x4 + ix x5 ≤ 40) <| nm (cpyM μ 17 s (ix x2) t (ix x4) (ix x5)) fun μ23 => some (x5, μ23)))) else ( some ((-13), μ))) else ( some ((-11), μ))) else ( some ((-11), μ))) := by
    unfold S_copy
    rw [e1, nm_eq, if_neg (by decide), e3, nm_eq, if_neg (by decide), chk_eq _ ib, chk_eq _ ibt, ixs, ixt]
  have eM : M_copy (nI s) x2 (nI t) x4 x5 ν = (if (rd ν 13 0 s) = 0 then ( some ((-11), ν)) else ( if (rd ν 13 0 t) = 0 then ( some ((-11), ν)) else ( if (rd ν 14 0 s) = (rd ν 14 0 t) then ( if x5 < 0 then ( some ((-12), ν)) else ( if x2 < 0 then ( some ((-12), ν)) else ( if x4 < 0 then ( some ((-12), ν)) else ( if ((rd ν 15 0 s) - x5) < x2 then ( some ((-12), ν)) else ( if ((rd ν 15 0 t) - x5) < x4 then ( some ((-12), ν)) else ( if nI s = nI t then ( if x2 < x4 then ( M_copy_116 (nI s) x2 (nI t) x4 x5 1 ν) else ( M_copy_116 (nI s) x2 (nI t) x4 x5 0 ν)) else ( M_copy_116 (nI s) x2 (nI t) x4 x5 0 ν))))))) else ( some ((-13), ν))))) := by
    unfold M_copy
    rw [bnd_of e2, if_neg (by decide), bnd_of e4, if_neg (by decide), chk_eq _ ib, chk_eq _ ibt, chk_eq _ ib, chk_eq _ ibt, chk_eq _ ib, chk_eq _ ibt, ixs, ixt]
  rcases sheet_case h9 h10 h11 hsx with ⟨a1, a2, a3⟩ | ⟨a1, a2, a3, a4, a5, a6, a7, a8, a9, a10⟩
  · refine no (-11) ?_ ?_
    · rw [eS, a2, nm_eq, if_neg (by decide)]
    · rw [eM, a3, if_pos rfl]
  rcases sheet_case h9 h10 h11 htx with ⟨b1, b2, b3⟩ | ⟨b1, b2, b3, b4, b5, b6, b7, b8, b9, b10⟩
  · refine no (-11) ?_ ?_
    · rw [eS, a2, nm_eq, if_pos rfl, b2, nm_eq, if_neg (by decide)]
    · rw [eM, a3, if_neg (by decide), b3, if_pos rfl]
  rw [a2, nm_eq, if_pos rfl, b2, nm_eq, if_pos rfl, a4, b4] at eS
  rw [a3, if_neg (by decide), b3, if_neg (by decide), a6, b6, a7, b7] at eM
  by_cases qk : nI (sk s) = nI (sk t)
  rotate_left
  · refine no (-13) ?_ ?_
    · rw [eS, if_neg qk]
    · rw [eM, if_neg qk]
  rw [if_pos qk] at eS eM
  unfold Sh_has at eS
  rw [a5, b5] at eS
  by_cases q5 : x5 < 0
  · refine no (-12) ?_ ?_
    · rw [eS, if_pos q5, nm_eq, if_pos rfl]
    · rw [eM, if_pos q5]
  rw [if_neg q5, if_neg q5] at eS
  rw [if_neg q5] at eM
  by_cases q2 : x2 < 0
  · refine no (-12) ?_ ?_
    · rw [eS, if_pos q2, nm_eq, if_pos rfl]
    · rw [eM, if_pos q2]
  rw [if_neg q2] at eS eM
  obtain ⟨n, hn, rfl⟩ := nI_of q5
  obtain ⟨a, ha, rfl⟩ := nI_of q2
  by_cases q4 : x4 < 0
  · refine no (-12) ?_ ?_
    · rw [eS, if_pos q4]
      split
      · rw [nm_eq, if_pos rfl]
      · rw [nm_eq, if_neg (by decide), nm_eq, if_pos rfl]
    · rw [eM, if_pos q4]
  rw [if_neg q4] at eS eM
  obtain ⟨b, hb, rfl⟩ := nI_of q4
  by_cases w1 : nI (sm s) - nI n < nI a
  · refine no (-12) ?_ ?_
    · rw [eS, if_pos w1, nm_eq, if_pos rfl]
    · rw [eM, if_pos w1]
  rw [if_neg w1, nm_eq, if_neg (by decide)] at eS
  rw [if_neg w1] at eM
  by_cases w2 : nI (sm t) - nI n < nI b
  · refine no (-12) ?_ ?_
    · rw [eS, if_pos w2, nm_eq, if_pos rfl]
    · rw [eM, if_pos w2]
  rw [if_neg w2, nm_eq, if_neg (by decide)] at eS
  rw [if_neg w2] at eM
  rw [sub_lt_iff (by omega) hn ha] at w1
  rw [sub_lt_iff (by omega) hn hb] at w2
  rw [ix_nI ha, ix_nI hb, ix_nI hn, chk_eq _ ⟨q2, q4, q5, by omega, by omega⟩, nm_eq] at eS
  have hM : ∃ ν', M_copy (nI s) (nI a) (nI t) (nI b) (nI n) ν = some (nI n, ν') ∧ RM [16] [] ν ν' ∧ (∀ k, k < n → rd ν' 16 0 (40 * t + (b + k)) = rd ν 16 0 (40 * s + (a + k))) ∧ ∀ j, (∀ k, k < n → j ≠ 40 * t + (b + k)) → rd ν' 16 0 j = rd ν 16 0 j := by
    rw [eM]
    by_cases est : nI s = nI t
    · have est' : s = t := (nI_eq (by omega) (by omega)).mp est
      rw [if_pos est]
      by_cases lab : a < b
      · rw [if_pos (nI_lt lab hb)]
        exact M_copy_loop (y := 1) (fun i => n - 1 - i) hsx htx (by omega) (by omega) (Or.inr ⟨rfl, fun _ _ => rfl⟩) (fun i i' hi hi' w => by have := w.2; omega) ν
      · rw [if_neg (nI_nlt (by omega) ha)]
        exact M_copy_loop (y := 0) (fun i => i) hsx htx (by omega) (by omega) (Or.inl ⟨rfl, fun _ _ => rfl⟩) (fun i i' hi hi' w => by have := w.2; omega) ν
    · rw [if_neg est]
      exact M_copy_loop (y := 0) (fun i => i) hsx htx (by omega) (by omega) (Or.inl ⟨rfl, fun _ _ => rfl⟩) (fun i i' hi hi' w => est (by rw [w.1])) ν
  obtain ⟨ν', c1, c2, c3, c4⟩ := hM
  have r16 : ∀ f i j, f ≠ 17 → rd (cpyM μ 17 s a t b n) f i j = rd μ f i j := fun f i j hf => by
    show (if f = 17 ∧ i = t then _ else _) = _
    rw [if_neg (fun q => hf q.1)]; rfl
  have rt : ∀ i j, i ≠ t → rd (cpyM μ 17 s a t b n) 17 i j = rd μ 17 i j := fun i j hi => by
    show (if 17 = 17 ∧ i = t then _ else _) = _
    rw [if_neg (fun q => hi q.2)]; rfl
  have rin : ∀ k, k < n → rd (cpyM μ 17 s a t b n) 17 t (b + k) = rd μ 17 s (a + k) := fun k hk => by
    show (if 17 = 17 ∧ t = t then va_cpy (μ.1 17 s) (μ.1 17 t) a b n (b + k) else _) = _
    rw [if_pos ⟨rfl, rfl⟩, pk_cpy_in (by omega) (by omega), show a + (b + k - b) = a + k by omega]; rfl
  have rout : ∀ j, (j < b ∨ b + n ≤ j) → rd (cpyM μ 17 s a t b n) 17 t j = rd μ 17 t j := fun j hj => by
    show (if 17 = 17 ∧ t = t then va_cpy (μ.1 17 s) (μ.1 17 t) a b n j else _) = _
    rw [if_pos ⟨rfl, rfl⟩, pk_cpy_out hj]; rfl
  refine ⟨nI n, _, ν', eS, c1, Inv.sheets (sk' := sk) (sm' := sm) (sv' := fun x i => if x = t ∧ b ≤ i ∧ i < b + n then sv s (a + (i - b)) else sv x i) IC h9 (fun s' hs' => ?_) (fun s' hs' => ?_) (fun f i j hf => r16 f i j (fun q => hf (by rw [q]; decide))) (c2.mono (by decide) (by decide))⟩
  · have := h10 s' hs'
    by_cases v : sk s' = 3
    · rw [if_pos v] at this ⊢
      rw [r16 _ _ _ (by decide)]; exact this
    · rw [if_neg v] at this ⊢
      refine ⟨by rw [r16 _ _ _ (by decide)]; exact this.1, by rw [r16 _ _ _ (by decide)]; exact this.2.1, fun i hi => ?_⟩
      show _ = if s' = t ∧ b ≤ i ∧ i < b + n then sv s (a + (i - b)) else sv s' i
      by_cases u : s' = t ∧ b ≤ i ∧ i < b + n
      · rw [if_pos u]
        obtain ⟨rfl, u1, u2⟩ := u
        have := rin (i - b) (by omega)
        rw [show b + (i - b) = i by omega] at this
        rw [this]
        exact a9 _ (by omega)
      · rw [if_neg u]
        by_cases u2 : s' = t
        · subst u2
          rw [rout i (by omega)]; exact this.2.2 i hi
        · rw [rt s' i u2]; exact this.2.2 i hi
  · have := h11 s' hs'
    have hm' := (h9 s' hs').2
    have k13 : ∀ f j, f ∈ [13, 14, 15] → rd ν' f 0 j = rd ν f 0 j := fun f j hf => c2 f j (by revert f; decide) (fun q => by subst q; exact absurd hf (by decide))
    by_cases v : sk s' = 3
    · rw [if_pos v] at this ⊢
      rw [k13 13 s' (by decide)]; exact this
    · rw [if_neg v] at this ⊢
      refine ⟨by rw [k13 13 s' (by decide)]; exact this.1, by rw [k13 14 s' (by decide)]; exact this.2.1, by rw [k13 15 s' (by decide)]; exact this.2.2.1, fun i hi => ?_⟩
      show _ = if s' = t ∧ b ≤ i ∧ i < b + n then sv s (a + (i - b)) else sv s' i
      by_cases u : s' = t ∧ b ≤ i ∧ i < b + n
      · rw [if_pos u]
        obtain ⟨rfl, u1, u2⟩ := u
        have := c3 (i - b) (by omega)
        rw [show b + (i - b) = i by omega] at this
        rw [this]
        exact a10 _ (by omega)
      · rw [if_neg u, c4 _ (fun k hk e => u ⟨by omega, by omega, by omega⟩)]
        exact this.2.2.2 i hi
