/-! ===== tells: the reference looks ===== -/
def MW (n : Nat) (s : WS) (ν : Mem) : Prop := rd ν 0 0 35 = s.1 ∧ rd ν 0 0 36 = nI s.2.1 ∧ ∀ g, g < n → rd ν 8 0 g = nI (s.2.2.2.2 g) ∧ s.2.2.2.2 g < 2 ^ n
def TBP (n : Nat) (P : Nat → Nat → Bool) (ν : Mem) : Prop := rd ν 0 0 12 = nI n ∧ ∀ g c, g < n → c < n → rd ν 7 0 (6 * g + c) = if P g c = true then 1 else 0
theorem TBP.rm {n : Nat} {P : Nat → Nat → Bool} {S js : List Nat} {ν ν' : Mem} (h : TBP n P ν) (r : RM S js ν ν') (h0 : 0 ∉ S) (h7 : 7 ∉ S) (hj : 12 ∉ js) : TBP n P ν' := ⟨by rw [r 0 12 h0 (fun _ => hj)]; exact h.1, fun g c hg hc => by rw [r 7 _ h7 (fun q => absurd q (by decide))]; exact h.2 g c hg hc⟩
/-- no way behind a coat that doesn't fit -/
theorem trL_pre (n : Nat) : ∀ (k used : Nat) (pre l : List Nat), l ∈ trL n k used pre → ∀ i, i < pre.length → l.getD i 0 = pre.getD i 0
  | 0, used, pre, l, h, i, _ => by
    rw [trL, List.mem_singleton] at h
    rw [h]
  | k + 1, used, pre, l, h, i, hi => by
    rw [trL, List.mem_flatMap] at h
    obtain ⟨c, -, hc⟩ := h
    cases hb : used.testBit c
    · rw [hb, if_neg (by decide)] at hc
      rw [trL_pre n k _ _ l hc i (by rw [List.length_append]; omega), getD_app, if_pos hi]
    · rw [hb, if_pos rfl] at hc
      exact absurd hc List.not_mem_nil
theorem fold_none {n : Nat} {P : Nat → Nat → Bool} : ∀ (ls : List (List Nat)) (s : WS), (∀ l ∈ ls, ¬ fitL n P l = true) → ls.foldl (wsF n P) s = s
  | [], s, _ => rfl
  | l :: ls, s, h => by
    rw [List.foldl_cons, wsF_n (h l List.mem_cons_self)]
    exact fold_none ls s (fun a ha => h a (List.mem_cons_of_mem _ ha))
theorem M_leaf_sp {n : Nat} {s : WS} {l : List Nat} {ν : Mem} (hn : n ≤ 6) (rc : Nat → Int32 → Int32 → Int32 → Mem → Option Mem) (h12 : rd ν 0 0 12 = nI n) (hl : okL n l) (hla : ∀ i, i < n → rd ν 9 0 i = nI (l.getD i 0)) (hs : MW n s ν) (x2 : Int32) : ∃ ν', M_looks rc (nI n) x2 (nI (dgN (fun g => l.getD g 0) n)) ν = some ν' ∧ RM [8] [35, 36] ν ν' ∧ MW n (wsT n s l) ν' := by
  have loop : ∀ (k g F : Nat) (w : Mem), g + k = n → k < F → rd w 0 0 12 = nI n → (∀ i, i < n → rd w 9 0 i = nI (l.getD i 0)) → (∀ a, a < g → rd w 8 0 a = nI (s.2.2.2.2 a ||| 2 ^ (l.getD a 0))) → (∀ a, g ≤ a → a < n → rd w 8 0 a = nI (s.2.2.2.2 a)) → ∃ w', M_looks_41L rc F (nI g) w = some w' ∧ RM [8] [] w w' ∧ ∀ a, a < n → rd w' 8 0 a = nI (s.2.2.2.2 a ||| 2 ^ (l.getD a 0)) := by
    intro k
    induction k with
    | zero =>
      intro g F w hg hF hw12 hw9 h1 h2
      obtain ⟨F, rfl⟩ : ∃ F', F = F' + 1 := ⟨F - 1, by omega⟩
      have : g = n := by omega
      subst this
      refine ⟨w, ?_, RM.rf, h1⟩
      show M_looks_41 _ _ _ _ = _
      unfold M_looks_41
      rw [hw12, if_neg (nI_nlt (by omega) (by omega))]
    | succ k ih =>
      intro g F w hg hF hw12 hw9 h1 h2
      obtain ⟨F, rfl⟩ : ∃ F', F = F' + 1 := ⟨F - 1, by omega⟩
      have hgn : g < n := by omega
      have hc := hl.2 g hgn
      have h64 := p64 hn (hs.2.2 g hgn).2
      obtain ⟨w', a1, a2, a3⟩ := ih (g + 1) F (up w 8 0 g (nI (s.2.2.2.2 g ||| 2 ^ (l.getD g 0)))) (by omega) (by omega) hw12 (fun i hi => by rw [rd_up_f (by decide)]; exact hw9 i hi) (fun a ha => by
        by_cases q : a = g
        · subst q; exact rd_up_s _ _ _ _ _
        · rw [rd_up_j q]; exact h1 a (by omega)) (fun a ha hb => by rw [rd_up_j (by omega)]; exact h2 a (by omega) hb)
      refine ⟨w', ?_, (RM.rf.wr' (by decide)).tr a2, a3⟩
      show M_looks_41 _ _ _ _ = _
      unfold M_looks_41
      rw [hw12, if_pos (nI_lt hgn (by omega)), chk_eq _ (inb_nI (by omega) (by omega)), chk_eq _ (inb_nI (by omega) (by omega)), chk_eq _ (inb_nI (by omega) (by omega)), nm_eq, nm_eq, nI_1, ix_nI (by omega), hw9 g hgn, h2 g (Nat.le_refl g) hgn, or_bit _ h64 _ (by omega)]
      exact a1
  obtain ⟨s1, s2, s3⟩ := hs
  unfold M_looks
  rw [h12, if_pos rfl, nm_eq, rd_up_s, s1]
  obtain ⟨μ2, eμ2⟩ : ∃ μ2, μ2 = up ν 0 0 35 (s.1 + 1) := ⟨_, rfl⟩
  rw [← eμ2]
  have e35 : ∀ y, ∃ ν', M_looks_35 rc (nI y) μ2 = some ν' ∧ RM [8] [35, 36] ν ν' ∧ rd ν' 0 0 35 = s.1 + 1 ∧ rd ν' 0 0 36 = nI y ∧ ∀ a, a < n → rd ν' 8 0 a = nI (s.2.2.2.2 a ||| 2 ^ (l.getD a 0)) := by
    intro y
    unfold M_looks_35
    rw [nm_eq, eμ2]
    obtain ⟨w', a1, a2, a3⟩ := loop n 0 1000 (up (up ν 0 0 35 (s.1 + 1)) 0 0 36 (nI y)) (by omega) (by omega) h12 hla (fun a ha => absurd ha (by omega)) (fun a _ ha => (s3 a ha).1)
    refine ⟨w', a1, ((RM.rf.wr0 (by decide)).wr0 (by decide)).tr (a2.mono (by decide) (by decide)), ?_, ?_, a3⟩
    · rw [a2 0 35 (by decide) (fun _ => List.not_mem_nil)]; rfl
    · rw [a2 0 36 (by decide) (fun _ => List.not_mem_nil)]; rfl
  have cw : ∀ g, g < n → s.2.2.2.2 g ||| 2 ^ (l.getD g 0) < 2 ^ n := fun g hg => or_lt n hn _ (s3 g hg).2 _ (hl.2 g hg)
  by_cases q : s.1 + 1 = 1
  · rw [if_pos q, wsT_1 q]
    obtain ⟨ν', b1, b2, b3, b4, b5⟩ := e35 (dgN (fun g => l.getD g 0) n)
    exact ⟨ν', b1, b2, b3, b4, fun g hg => ⟨b5 g hg, cw g hg⟩⟩
  · rw [if_neg q, wsT_2 q, eμ2, rd_up_j (show (36 : Nat) ≠ 35 by decide), s2, ← eμ2]
    obtain ⟨ν', b1, b2, b3, b4, b5⟩ := e35 s.2.1
    exact ⟨ν', b1, b2, b3, b4, fun g hg => ⟨b5 g hg, cw g hg⟩⟩
theorem M_looks_sp {n : Nat} {P : Nat → Nat → Bool} (hn : n ≤ 6) : ∀ (k g used F : Nat) (pre : List Nat) (ν : Mem) (s : WS), g + k = n → k < F → used < 2 ^ n → pre.length = g → (∀ i, i < g → pre.getD i 0 < n ∧ P i (pre.getD i 0) = true ∧ rd ν 9 0 i = nI (pre.getD i 0)) → TBP n P ν → MW n s ν → ∃ ν', M_looksR F 0 (nI g) (nI used) (nI (dgN (fun i => pre.getD i 0) g)) ν = some ν' ∧ RM [8, 9] [35, 36] ν ν' ∧ (∀ i, i < g → rd ν' 9 0 i = rd ν 9 0 i) ∧ MW n ((trL n k used pre).foldl (wsF n P) s) ν' := by
  intro k
  induction k with
  | zero =>
    intro g used F pre ν s hg hF hu hl hp hT hs
    obtain ⟨F, rfl⟩ : ∃ F', F = F' + 1 := ⟨F - 1, by omega⟩
    have : g = n := by omega
    subst this
    obtain ⟨ν', a1, a2, a3⟩ := M_leaf_sp (s := s) (l := pre) hn (M_looksR F) hT.1 ⟨hl, fun i hi => (hp i hi).1⟩ (fun i hi => (hp i hi).2.2) hs (nI used)
    refine ⟨ν', a1, a2.mono (by decide) (fun _ q => q), fun i hi => a2 9 i (by decide) (fun q => absurd q (by decide)), ?_⟩
    show MW g (wsF g P s pre) ν'
    rw [wsF_y (show fitL g P pre = true from decide_eq_true (fun i hi => (hp i hi).2.1))]
    exact a3
  | succ k ih =>
    intro g used F pre ν s hg hF hu hl hp hT hs
    obtain ⟨F, rfl⟩ : ∃ F', F = F' + 1 := ⟨F - 1, by omega⟩
    have hgn : g < n := by omega
    have hu6 := p64 hn hu
    have inner : ∀ (j c F' : Nat) (ν1 : Mem) (s1 : WS), c + j = n → j < F' → RM [8, 9] [35, 36] ν ν1 → (∀ i, i < g → rd ν1 9 0 i = rd ν 9 0 i) → MW n s1 ν1 → ∃ ν', M_looks_79L (M_looksR F) F' (nI g) (nI used) (nI (dgN (fun i => pre.getD i 0) g)) (nI c) ν1 = some ν' ∧ RM [8, 9] [35, 36] ν ν' ∧ (∀ i, i < g → rd ν' 9 0 i = rd ν 9 0 i) ∧ MW n (((rgL j c).flatMap (fun c => if used.testBit c = true then [] else trL n k (used ||| 2 ^ c) (pre ++ [c]))).foldl (wsF n P) s1) ν' := by
      intro j
      induction j with
      | zero =>
        intro c F' ν1 s1 hc hF' hr h9 hm
        obtain ⟨F', rfl⟩ : ∃ F'', F' = F'' + 1 := ⟨F' - 1, by omega⟩
        refine ⟨ν1, ?_, hr, h9, hm⟩
        show M_looks_79 _ _ _ _ _ _ _ = _
        unfold M_looks_79
        rw [(hT.rm hr (by decide) (by decide) (by decide)).1, if_neg (nI_nlt (by omega) (by omega))]
      | succ j ihj =>
        intro c F' ν1 s1 hc hF' hr h9 hm
        obtain ⟨F', rfl⟩ : ∃ F'', F' = F'' + 1 := ⟨F' - 1, by omega⟩
        have hT1 := hT.rm hr (by decide) (by decide) (by decide)
        rw [rgL, List.flatMap_cons, List.foldl_append]
        cases hb : used.testBit c
        · rw [if_neg (show ¬ (false = true) by decide)]
          have e9 : (pre ++ [c]).getD g 0 = c := by rw [getD_app, if_neg (by omega), if_pos hl.symm]
          have epre : ∀ i, i < g → (pre ++ [c]).getD i 0 = pre.getD i 0 := fun i hi => by rw [getD_app, if_pos (by omega)]
          cases hP : P g c
          · -- doesn't fit
            have no : ∀ l ∈ trL n k (used ||| 2 ^ c) (pre ++ [c]), ¬ fitL n P l = true := by
              intro l hm' z
              have a := trL_pre n k _ _ l hm' g (by rw [List.length_append, hl]; exact Nat.lt_succ_self g)
              have b := of_decide_eq_true z g hgn
              rw [a, e9, hP] at b
              cases b
            obtain ⟨ν', d1, d2, d3, d4⟩ := ihj (c + 1) F' ν1 s1 (by omega) (by omega) hr h9 hm
            refine ⟨ν', ?_, d2, d3, by rw [fold_none _ s1 no]; exact d4⟩
            show M_looks_79 _ _ _ _ _ _ _ = _
            unfold M_looks_79 M_looks_143
            rw [hT1.1, if_pos (nI_lt (by omega) (by omega)), bit_at _ hu6 _ (by omega), hb, if_pos (by decide), litI 6, pk_mul, nI_add, chk_eq _ (inb_nI (by omega) (by omega)), ix_nI (by omega), hT1.2 g c hgn (by omega), hP, if_neg (by decide), nm_eq, nI_1]
            exact d1
          · obtain ⟨-, p2⟩ := pre_next (n := n) (c := c) (fun _ _ => 0) hl
            have hT2 : TBP n P (up ν1 9 0 g (nI c)) := ⟨hT1.1, fun a b ha hb => by rw [rd_up_f (by decide)]; exact hT1.2 a b ha hb⟩
            have hm2 : MW n s1 (up ν1 9 0 g (nI c)) := ⟨hm.1, hm.2.1, fun a ha => by rw [rd_up_f (by decide)]; exact hm.2.2 a ha⟩
            obtain ⟨ν2, b1, b2, b3, b4⟩ := ih (g + 1) (used ||| 2 ^ c) F (pre ++ [c]) (up ν1 9 0 g (nI c)) s1 (by omega) (by omega) (or_lt n hn _ hu _ (by omega)) (by rw [List.length_append, hl]; rfl) (fun i hi => by
              by_cases q : i = g
              · subst q; rw [e9]; exact ⟨by omega, hP, rd_up_s _ _ _ _ _⟩
              · have hi' : i < g := by omega
                rw [epre i hi', rd_up_j q, h9 i hi']
                exact hp i hi') hT2 hm2
            rw [p2] at b1
            have r2 : RM [8, 9] [35, 36] ν ν2 := (hr.wr' (by decide)).tr b2
            have n9 : ∀ i, i < g → rd ν2 9 0 i = rd ν 9 0 i := fun i hi => by rw [b3 i (by omega), rd_up_j (by omega)]; exact h9 i hi
            obtain ⟨ν', d1, d2, d3, d4⟩ := ihj (c + 1) F' ν2 _ (by omega) (by omega) r2 n9 b4
            refine ⟨ν', ?_, d2, d3, d4⟩
            show M_looks_79 _ _ _ _ _ _ _ = _
            unfold M_looks_79 M_looks_143
            rw [hT1.1, if_pos (nI_lt (by omega) (by omega)), bit_at _ hu6 _ (by omega), hb, if_pos (by decide), litI 6, pk_mul, nI_add, chk_eq _ (inb_nI (by omega) (by omega)), ix_nI (show 6 * g + c < 2 ^ 31 by omega), hT1.2 g c hgn (by omega), hP, if_pos (by decide), chk_eq _ (inb_nI (by omega) (by omega)), nm_eq, ix_nI (show g < 2 ^ 31 by omega), nI_1, or_bit _ hu6 _ (by omega), litI 10, pk_mul, nI_add, nI_1, bnd_of b1, nm_eq, nI_1]
            exact d1
        · obtain ⟨ν', d1, d2, d3, d4⟩ := ihj (c + 1) F' ν1 s1 (by omega) (by omega) hr h9 hm
          refine ⟨ν', ?_, d2, d3, by rw [if_pos rfl]; exact d4⟩
          show M_looks_79 _ _ _ _ _ _ _ = _
          unfold M_looks_79 M_looks_143
          rw [hT1.1, if_pos (nI_lt (by omega) (by omega)), bit_at _ hu6 _ (by omega), hb, if_neg (by decide), nm_eq, nI_1]
          exact d1
    obtain ⟨ν', a1, a2, a3, a4⟩ := inner n 0 1000 ν s (by omega) (by omega) RM.rf (fun _ _ => rfl) hs
    refine ⟨ν', ?_, a2, a3, a4⟩
    show M_looks _ _ _ _ _ = _
    unfold M_looks
    rw [hT.1, if_neg (fun z => absurd ((nI_eq (by omega) (by omega)).mp z) (by omega))]
    exact a1
theorem M_sure_sp {n : Nat} {s : WS} {ν : Mem} (hn : n ≤ 6) (h12 : rd ν 0 0 12 = nI n) (hs : MW n s ν) : M_sure ν = some (nI (msk (fun g => decide (pc (s.2.2.2.2 g) = 1)) n)) := by
  have key : ∀ (k g F : Nat), g + k = n → k < F → M_sure_4L F (nI (msk (fun g => decide (pc (s.2.2.2.2 g) = 1)) g)) (nI g) ν = some (nI (msk (fun g => decide (pc (s.2.2.2.2 g) = 1)) n)) := by
    intro k
    induction k with
    | zero =>
      intro g F hg hF
      obtain ⟨F, rfl⟩ : ∃ F', F = F' + 1 := ⟨F - 1, by omega⟩
      have : g = n := by omega
      subst this
      show M_sure_4 _ _ _ _ = _
      unfold M_sure_4
      rw [h12, if_neg (nI_nlt (by omega) (by omega))]
    | succ k ih =>
      intro g F hg hF
      obtain ⟨F, rfl⟩ : ∃ F', F = F' + 1 := ⟨F - 1, by omega⟩
      have hgn : g < n := by omega
      obtain ⟨w1, w2⟩ := hs.2.2 g hgn
      have w6 := p64 hn w2
      have p6 := pc_le 6 (by omega) _ w6 w6
      have hm64 : msk (fun g => decide (pc (s.2.2.2.2 g) = 1)) g < 64 := p64 (n := g) (by omega) (msk_lt _ g)
      have nx := ih (g + 1) F (by omega) (by omega)
      rw [msk] at nx
      show M_sure_4 _ _ _ _ = _
      unfold M_sure_4 M_sure_31
      rw [h12, if_pos (nI_lt hgn (by omega)), chk_eq _ (inb_nI (by omega) (by omega)), ix_nI (by omega), w1, bnd_of (bitsM _ w6)]
      simp only [nm_eq]
      rw [nI_1, or_bit _ hm64 _ (by omega), or_s0 _ hm64 _ (by omega)]
      by_cases q : pc (s.2.2.2.2 g) = 1
      · rw [if_pos (decide_eq_true q)] at nx
        rw [if_pos (show nI (pc (s.2.2.2.2 g)) = 1 by rw [q]; rfl)]; exact nx
      · rw [if_neg (by rw [decide_eq_false q]; decide)] at nx
        rw [if_neg (show ¬ nI (pc (s.2.2.2.2 g)) = 1 from fun z => q ((nI_eq (b := 1) (by omega) (by omega)).mp z))]; exact nx
  exact key n 0 1000 (by omega) (by omega)
