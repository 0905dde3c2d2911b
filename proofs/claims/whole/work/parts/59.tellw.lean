/-! ===== tells ===== -/
theorem S_fitCoats_sp {X : Nat → List Int32 × List Int32 × List Int32} {hs : Nat → Nat} {gr : Nat → Nat → Nat} {tc s : Nat} {vv : Nat → Int32} {μ : Mem} (h : HOK hs gr tc) (ht : tc ≤ 6) (hA : HA 0 hs gr μ) (hX : XA tc X μ) (hv : ∀ g, g < hs 3 → rd μ 17 s g = vv g) : ∃ m', S_fitCoats s μ = some m' ∧ Off [8, 18, 19, 29] μ m' ∧ HP (hs 3) (fun g c => decide (nI (fl X (hs 2) gr g c) = vv g)) m' := by
  have hn := h.2.2.2.1
  obtain ⟨P, eP⟩ : ∃ P : Nat → Nat → Bool, P = fun g c => decide (nI (fl X (hs 2) gr g c) = vv g) := ⟨_, rfl⟩
  rw [← eP]
  have inner : ∀ (K : Nat → Int32 → Mem → Option Mem) (g : Nat), g < hs 3 → ∀ (k c F : Nat) (m : Mem), c + k = hs 3 → k < F → Off [8, 18, 19, 29] μ m → (∀ a, a < g → rd m 29 0 a = nI (msk (P a) (hs 3))) → rd m 29 0 g = nI (msk (P g) c) → ∃ m', S_fitCoats_22L K F s (nI g) (nI c) m = K s (nI (g + 1)) m' ∧ Off [8, 18, 19, 29] μ m' ∧ ∀ a, a < g + 1 → rd m' 29 0 a = nI (msk (P a) (hs 3)) := by
    intro K g hg k
    induction k with
    | zero =>
      intro c F m hc hF ho h1 h2
      obtain ⟨F, rfl⟩ : ∃ F', F = F' + 1 := ⟨F - 1, by omega⟩
      have : c = hs 3 := by omega
      subst this
      refine ⟨m, ?_, ho, fun a ha => ?_⟩
      · show S_fitCoats_22 _ _ _ _ _ _ = _
        unfold S_fitCoats_22
        rw [ho.rd (by decide), hA.1 3 (by decide), if_neg (nI_nlt (by omega) (by omega)), nm_eq, nI_1]
      · by_cases q : a = g
        · rw [q]; exact h2
        · exact h1 a (by omega)
    | succ k ih =>
      intro c F m hc hF ho h1 h2
      obtain ⟨F, rfl⟩ : ∃ F', F = F' + 1 := ⟨F - 1, by omega⟩
      have hcn : c < hs 3 := by omega
      have hA' := hA.off ho (by decide) (by decide)
      have hX' : XA tc X m := hX.cg (ho.rd (by decide) _ _) (fun f i j hf _ => ho.rd (by revert f; decide) _ _)
      obtain ⟨m1, m2, t1, t2, t3, t4⟩ := fl_man (t := hs 2) h hA' hX' h.2.2.1 hg hcn
      have o2 : Off [8, 18, 19, 29] μ m2 := ho.tr (t4.mono (by decide))
      have e17 : rd m2 17 s g = vv g := by rw [o2.rd (by decide)]; exact hv g hg
      have e29 : ∀ a, rd m2 29 0 a = rd m 29 0 a := fun a => t4.rd (by decide) _ _
      have hm64 : msk (P g) c < 64 := p64 (n := c) (by omega) (msk_lt _ c)
      have eP1 : P g c = decide (nI (fl X (hs 2) gr g c) = vv g) := by rw [eP]
      have head : S_fitCoats_22L K (F + 1) s (nI g) (nI c) m = if nI (fl X (hs 2) gr g c) = vv g then S_fitCoats_22L K F s (nI g) (nI (c + 1)) (up m2 29 0 g (nI (msk (P g) c ||| 2 ^ c))) else S_fitCoats_22L K F s (nI g) (nI (c + 1)) m2 := by
        show S_fitCoats_22 _ _ _ _ _ _ = _
        unfold S_fitCoats_22 S_fitCoats_71
        rw [hA'.1 3 (by decide), if_pos (nI_lt hcn (by omega)), bnd_of t1, bnd_of (S_rule_sp h ht (hA'.off t2 (by decide) (by decide))), chk_eq _ (show hs 2 < 6 by have := h.2.2.1; omega), bnd2_of t3, chk_eq _ (inb_nI (by omega) (by omega)), chk_eq _ (inb_nI (by omega) (by omega)), chk_eq _ (inb_nI (by omega) (by omega)), ix_nI (by omega), e17, e29, h2, or_bit _ hm64 _ (by omega)]
        simp only [nm_eq]
        rw [nI_1]
      rw [head]
      by_cases q : nI (fl X (hs 2) gr g c) = vv g
      · rw [if_pos q]
        refine ih (c + 1) F _ (by omega) (by omega) (o2.wr' (by decide)) (fun a ha => by rw [rd_up_j (by omega), e29]; exact h1 a ha) ?_
        rw [rd_up_s, msk, eP1, decide_eq_true q, if_pos rfl]
      · rw [if_neg q]
        refine ih (c + 1) F _ (by omega) (by omega) o2 (fun a ha => by rw [e29]; exact h1 a ha) ?_
        rw [e29, h2, msk, eP1, decide_eq_false q, if_neg (by decide)]
  have outer : ∀ (k g F : Nat) (m : Mem), g + k = hs 3 → k < F → Off [8, 18, 19, 29] μ m → (∀ a, a < g → rd m 29 0 a = nI (msk (P a) (hs 3))) → ∃ m', S_fitCoats_2L F s (nI g) m = some m' ∧ Off [8, 18, 19, 29] μ m' ∧ HP (hs 3) P m' := by
    intro k
    induction k with
    | zero =>
      intro g F m hg hF ho h1
      obtain ⟨F, rfl⟩ : ∃ F', F = F' + 1 := ⟨F - 1, by omega⟩
      have : g = hs 3 := by omega
      subst this
      refine ⟨m, ?_, ho, h1⟩
      show S_fitCoats_2 _ _ _ _ = _
      unfold S_fitCoats_2
      rw [ho.rd (by decide), hA.1 3 (by decide), if_neg (nI_nlt (by omega) (by omega))]
    | succ k ih =>
      intro g F m hg hF ho h1
      obtain ⟨F, rfl⟩ : ∃ F', F = F' + 1 := ⟨F - 1, by omega⟩
      obtain ⟨m1, a1, a2, a3⟩ := inner (S_fitCoats_2L F) g (by omega) (hs 3) 0 1000 (up m 29 0 g 0) (by omega) (by omega) (ho.wr' (by decide)) (fun a ha => by rw [rd_up_j (by omega)]; exact h1 a ha) (rd_up_s _ _ _ _ _)
      obtain ⟨m', b1, b2⟩ := ih (g + 1) F m1 (by omega) (by omega) a2 a3
      refine ⟨m', ?_, b2⟩
      show S_fitCoats_2 _ _ _ _ = _
      unfold S_fitCoats_2
      rw [ho.rd (by decide), hA.1 3 (by decide), if_pos (nI_lt (by omega) (by omega)), chk_eq _ (inb_nI (by omega) (by omega)), nm_eq, ix_nI (by omega)]
      exact a1.trans b1
  exact outer (hs 3) 0 1000 μ (by omega) (by omega) Off.rf (fun a ha => absurd ha (by omega))
theorem M_looksAll_sp {X : Nat → List Int32 × List Int32 × List Int32} {hs : Nat → Nat} {gr : Nat → Nat → Nat} {tc s : Nat} {vv : Nat → Int32} {ν : Mem} (h : HOK hs gr tc) (ht : tc ≤ 6) (hM : HM hs gr ν) (hX : XM tc X ν) (hsx : s < 4) (hv : ∀ g, g < hs 3 → rd ν 16 0 (40 * s + g) = vv g) : ∃ w', M_looksAll (nI s) ν = some w' ∧ SameM ν w' ∧ rd w' 0 0 12 = nI (hs 3) ∧ MW (hs 3) ((trL (hs 3) (hs 3) 0 []).foldl (wsF (hs 3) (fun g c => decide (nI (fl X (hs 2) gr g c) = vv g))) (0, 0, [], 2 ^ hs 3 - 1, fun _ => 0)) w' := by
  have hn := h.2.2.2.1
  obtain ⟨P, eP⟩ : ∃ P : Nat → Nat → Bool, P = fun g c => decide (nI (fl X (hs 2) gr g c) = vv g) := ⟨_, rfl⟩
  rw [← eP]
  have rest : ∀ w, RM [7, 8] JS ν w → HM hs gr w ∧ XM tc X w ∧ ∀ g, g < hs 3 → rd w 16 0 (40 * s + g) = vv g := fun w hr => ⟨hM.cg (fun j hj => hr 0 j (by decide) (fun _ => by revert j; decide)) (fun f j hf => hr f j (by revert f; decide) (fun q => by subst q; exact absurd hf (by decide))), hX.cg (hr 0 3 (by decide) (fun _ => by decide)) (fun f j hf => hr f j (by revert f; decide) (fun q => by subst q; exact absurd hf (by decide))), fun g hg => by rw [hr 16 _ (by decide) (fun q => absurd q (by decide))]; exact hv g hg⟩
  have inner : ∀ (K : Int32 → Int32 → Mem → Option Mem) (g : Nat), g < hs 3 → ∀ (k c F : Nat) (w : Mem), c + k = hs 3 → k < F → RM [7, 8] JS ν w → (∀ a, a < g + 1 → rd w 8 0 a = 0) → (∀ a b, b < hs 3 → (a < g ∨ (a = g ∧ b < c)) → rd w 7 0 (6 * a + b) = if P a b = true then 1 else 0) → ∃ w', M_looksAll_19L K F (nI s) (nI g) (nI c) w = K (nI s) (nI (g + 1)) w' ∧ RM [7, 8] JS ν w' ∧ (∀ a, a < g + 1 → rd w' 8 0 a = 0) ∧ ∀ a b, a < g + 1 → b < hs 3 → rd w' 7 0 (6 * a + b) = if P a b = true then 1 else 0 := by
    intro K g hg k
    induction k with
    | zero =>
      intro c F w hc hF hr h8 h7
      obtain ⟨F, rfl⟩ : ∃ F', F = F' + 1 := ⟨F - 1, by omega⟩
      have : c = hs 3 := by omega
      subst this
      refine ⟨w, ?_, hr, h8, fun a b ha hb => h7 a b hb (by omega)⟩
      show M_looksAll_19 _ _ _ _ _ _ = _
      unfold M_looksAll_19
      rw [(rest w hr).1.2.2.2.1, if_neg (nI_nlt (by omega) (by omega)), nm_eq, nI_1]
    | succ k ih =>
      intro c F w hc hF hr h8 h7
      obtain ⟨F, rfl⟩ : ∃ F', F = F' + 1 := ⟨F - 1, by omega⟩
      have hcn : c < hs 3 := by omega
      obtain ⟨hM', hX', hv'⟩ := rest w hr
      obtain ⟨w1, s1, s2⟩ := M_feelsOf_sp (hX'.2 (hs 2) h.2.2.1) (hM'.mro h ht hg hcn) (by have := (h.2.2.2.2.1 g hg).1; show gr g 0 < _; omega)
      have s1 : M_feelsOf (nI g) (nI c) w = some (nI (fl X (hs 2) gr g c), w1) := s1
      have e16 : rd w1 16 0 (40 * s + g) = vv g := by rw [s2.rd (by decide)]; exact hv' g hg
      have r1 : RM [7, 8] JS ν w1 := hr.tr (s2.rm _)
      have eP1 : P g c = decide (nI (fl X (hs 2) gr g c) = vv g) := by rw [eP]
      have head : M_looksAll_19L K (F + 1) (nI s) (nI g) (nI c) w = M_looksAll_19L K F (nI s) (nI g) (nI (c + 1)) (up w1 7 0 (6 * g + c) (if P g c = true then 1 else 0)) := by
        show M_looksAll_19 _ _ _ _ _ _ = _
        unfold M_looksAll_19 M_looksAll_62
        rw [hM'.2.2.2.1, if_pos (nI_lt hcn (by omega)), bnd2_of s1, litI 40, pk_mul, nI_add, chk_eq _ (inb_nI (by omega) (by omega)), ix_nI (show 40 * s + g < 2 ^ 31 by omega), e16, litI 6, pk_mul, nI_add, chk_eq _ (inb_nI (by omega) (by omega)), chk_eq _ (inb_nI (by omega) (by omega)), ix_nI (show 6 * g + c < 2 ^ 31 by omega)]
        simp only [nm_eq]
        rw [nI_1, eP1]
        by_cases q : nI (fl X (hs 2) gr g c) = vv g
        · rw [if_pos q, decide_eq_true q, if_pos rfl]
        · rw [if_neg q, decide_eq_false q, if_neg (by decide)]
      rw [head]
      refine ih (c + 1) F _ (by omega) (by omega) (r1.wr' (by decide)) (fun a ha => by rw [rd_up_f (by decide), s2.rd (by decide)]; exact h8 a ha) (fun a b hb hab => ?_)
      by_cases q : a = g ∧ b = c
      · obtain ⟨rfl, rfl⟩ := q
        rw [rd_up_s]
      · rw [rd_up_j (by omega), s2.rd (by decide)]
        exact h7 a b hb (by omega)
  have outer : ∀ (k g F : Nat) (w : Mem), g + k = hs 3 → k < F → RM [7, 8] JS ν w → (∀ a, a < g → rd w 8 0 a = 0) → (∀ a b, a < g → b < hs 3 → rd w 7 0 (6 * a + b) = if P a b = true then 1 else 0) → ∃ w', M_looksAll_2L F (nI s) (nI g) w = some w' ∧ SameM ν w' ∧ rd w' 0 0 12 = nI (hs 3) ∧ MW (hs 3) ((trL (hs 3) (hs 3) 0 []).foldl (wsF (hs 3) P) (0, 0, [], 2 ^ hs 3 - 1, fun _ => 0)) w' := by
    intro k
    induction k with
    | zero =>
      intro g F w hg hF hr h8 h7
      obtain ⟨F, rfl⟩ : ∃ F', F = F' + 1 := ⟨F - 1, by omega⟩
      have : g = hs 3 := by omega
      subst this
      have h12 := (rest w hr).1.2.2.2.1
      obtain ⟨w', a1, a2, -, a4⟩ := M_looks_sp (P := P) hn (hs 3) 0 0 100 [] (up (up w 0 0 35 0) 0 0 36 0) (0, 0, [], 2 ^ hs 3 - 1, fun _ => 0) (by omega) (by omega) (Nat.two_pow_pos _) rfl (fun i hi => absurd hi (by omega)) ⟨h12, fun a b ha hb => by rw [rd_up_f (by decide), rd_up_f (by decide)]; exact h7 a b ha hb⟩ ⟨rfl, rfl, fun a ha => ⟨by rw [rd_up_f (by decide), rd_up_f (by decide)]; exact h8 a ha, Nat.two_pow_pos _⟩⟩
      have a1 : M_looksR 100 0 0 0 0 (up (up w 0 0 35 0) 0 0 36 0) = some w' := a1
      have rr : SameM ν w' := ((hr.mono (by decide) (by decide)).tr ((RM.rf.wr0 (by decide)).wr0 (by decide))).tr (a2.mono (by decide) (by decide))
      refine ⟨w', ?_, rr, ?_, a4⟩
      · show M_looksAll_2 _ _ _ _ = _
        unfold M_looksAll_2
        rw [h12, if_neg (nI_nlt (by omega) (by omega)), nm_eq, nm_eq, bnd_of a1]
      · rw [rr 0 12 (by decide) (fun _ => by decide)]; exact hM.2.2.2.1
    | succ k ih =>
      intro g F w hg hF hr h8 h7
      obtain ⟨F, rfl⟩ : ∃ F', F = F' + 1 := ⟨F - 1, by omega⟩
      obtain ⟨w1, a1, a2, a3, a4⟩ := inner (M_looksAll_2L F) g (by omega) (hs 3) 0 1000 (up w 8 0 g 0) (by omega) (by omega) (hr.wr' (by decide)) (fun a ha => by
        by_cases q : a = g
        · subst q; exact rd_up_s _ _ _ _ _
        · rw [rd_up_j q]; exact h8 a (by omega)) (fun a b hb hab => by rw [rd_up_f (by decide)]; exact h7 a b (by omega) hb)
      obtain ⟨w', b1, b2⟩ := ih (g + 1) F w1 (by omega) (by omega) a2 a3 a4
      refine ⟨w', ?_, b2⟩
      show M_looksAll_2 _ _ _ _ = _
      unfold M_looksAll_2
      rw [(rest w hr).1.2.2.2.1, if_pos (nI_lt (by omega) (by omega)), chk_eq _ (inb_nI (by omega) (by omega)), nm_eq, ix_nI (by omega)]
      exact a1.trans b1
  exact outer (hs 3) 0 1000 ν (by omega) (by omega) RM.rf (fun a ha => absurd ha (by omega)) (fun a b ha => absurd ha (by omega))
theorem ways_both {X : Nat → List Int32 × List Int32 × List Int32} {hs : Nat → Nat} {gr : Nat → Nat → Nat} {tc s x : Nat} {vv : Nat → Int32} {μ ν : Mem} (h : HOK hs gr tc) (ht : tc ≤ 6) (hA : HA 0 hs gr μ) (hM : HM hs gr ν) (hXA : XA tc X μ) (hXM : XM tc X ν) (hsx : s < 4) (hx : 1 ≤ x ∧ x ≤ 3) (hvA : ∀ a, a < hs 3 → rd μ 17 s a = vv a) (hvM : ∀ a, a < hs 3 → rd ν 16 0 (40 * s + a) = vv a) : ∃ r m' w', S_waysBy s (nI x) μ = some (r, m') ∧ (bnd (M_looksAll (nI s) ν) fun μ12 => if nI x = 1 then some (rd μ12 0 0 35, μ12) else (if nI x = 2 then some (rd μ12 0 0 36, μ12) else (bnd (M_sure μ12) fun r16 => some (r16, μ12)))) = some (r, w') ∧ SameA μ m' ∧ SameM ν w' := by
  have hn := h.2.2.2.1
  obtain ⟨m1, a1, a2, a3⟩ := S_fitCoats_sp h ht hA hXA hvA
  have h13 : rd m1 1 0 3 = nI (hs 3) := by rw [a2.rd (by decide)]; exact hA.1 3 (by decide)
  obtain ⟨m', b1, b2⟩ := S_ways_sp hn h13 a3 (nI x)
  obtain ⟨w', c1, c2, c3, c4⟩ := M_looksAll_sp h ht hM hXM hsx hvM
  obtain ⟨R, eR⟩ : ∃ R, R = (trL (hs 3) (hs 3) 0 []).foldl (wsF (hs 3) (fun g c => decide (nI (fl X (hs 2) gr g c) = vv g))) (0, 0, [], 2 ^ hs 3 - 1, fun _ => 0) := ⟨_, rfl⟩
  rw [← eR] at b1 c4
  obtain ⟨hlen, hfac, -⟩ := ways_ne (hs 3) (by omega)
  obtain ⟨k', hk', hQ⟩ := WQ.fold (P := fun g c => decide (nI (fl X (hs 2) gr g c) = vv g)) hn (trL (hs 3) (hs 3) 0 []) 0 (0, 0, [], 2 ^ hs 3 - 1, fun _ => 0) ⟨rfl, by have := Nat.two_pow_pos (hs 3); show 2 ^ hs 3 - 1 < 2 ^ hs 3; omega, fun _ => ⟨rfl, fun _ _ => rfl⟩, fun z => absurd z (by omega), fun _ _ => Nat.two_pow_pos _⟩ (fun l hl => ways_ok0 (hs 3) (by omega) l hl) (by omega)
  rw [← eR] at hQ
  have es := ws_sure hn hk' hQ
  have eS : S_waysBy s (nI x) μ = some (if nI x = 1 then R.1 else if nI x = 2 then nI R.2.1 else if R.1 = 0 then 0 else nI R.2.2.2.1, m') := by
    unfold S_waysBy
    rw [bnd_of a1]
    exact b1
  refine ⟨_, m', w', eS, ?_, (a2.same (by decide)).tr (b2.same (by decide)), c2⟩
  rw [bnd_of c1, c4.1, c4.2.1, bnd_of (M_sure_sp hn c3 c4), ← es]
  by_cases q1 : nI x = 1
  · rw [if_pos q1, if_pos q1]
  · rw [if_neg q1, if_neg q1]
    by_cases q2 : nI x = 2
    · rw [if_pos q2, if_pos q2]
    · rw [if_neg q2, if_neg q2]
      by_cases q3 : R.1 = 0
      · rw [if_pos q3, if_pos q3]; rfl
      · rw [if_neg q3, if_neg q3]
