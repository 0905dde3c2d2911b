/-! ===== best ===== -/
def bsS (n : Nat) (t : Nat → Nat → Nat) (s : Bool × Nat × Nat) (l : List Nat) : Bool × Nat × Nat := if s.1 = false ∨ sm (fun g => t g (l.getD g 0)) n < s.2.2 then (true, dgN (fun g => l.getD g 0) n, sm (fun g => t g (l.getD g 0)) n) else s
theorem bsS_1 (n : Nat) (t : Nat → Nat → Nat) (s : Bool × Nat × Nat) (l : List Nat) : (bsS n t s l).1 = true := by
  unfold bsS
  split
  · rfl
  · rename_i q
    cases h : s.1
    · exact absurd (Or.inl h) q
    · rfl
theorem bsS_all (n : Nat) (t : Nat → Nat → Nat) : ∀ (ls : List (List Nat)) (s : Bool × Nat × Nat), (s.1 = true ∨ ls ≠ []) → (ls.foldl (bsS n t) s).1 = true
  | [], s, h => h.resolve_right (fun z => z rfl)
  | l :: ls, s, _ => bsS_all n t ls (bsS n t s l) (Or.inl (bsS_1 n t s l))
theorem bsS_le {n : Nat} {t : Nat → Nat → Nat} {s : Bool × Nat × Nat} {l : List Nat} (ht : ∀ g c, g < n → c < n → t g c ≤ 99) (hl : okL n l) (hs : s.2.2 ≤ n * 99) : (bsS n t s l).2.2 ≤ n * 99 := by
  unfold bsS
  split
  · exact sm_le n (fun i hi => ht i _ hi (hl.2 i hi))
  · exact hs
theorem S_best_sp {n : Nat} {t : Nat → Nat → Nat} {m0 : Mem} (hn : n ≤ 6) (h13 : rd m0 1 0 3 = nI n) (ht : ∀ g c, g < n → c < n → rd m0 28 g c = nI (t g c) ∧ t g c ≤ 99) (x2 : Int32) : ∃ m', bnd (Wa_begin (nI n) m0) (fun μ4 => S_best_48L 1000 x2 0 0 0 μ4) = some (if x2 = 0 then nI ((trL n n 0 []).foldl (bsS n t) (false, 0, 0)).2.1 else nI ((trL n n 0 []).foldl (bsS n t) (false, 0, 0)).2.2, m') ∧ Off [20, 21] m0 m' := by
  obtain ⟨hlen, hfac, hf1⟩ := ways_ne n (by omega)
  have hT : ∀ g c, g < n → c < n → t g c ≤ 99 := fun g c hg hc => (ht g c hg hc).2
  have warm : ∀ (K : Int32 → Int32 → Int32 → Int32 → Mem → Option (Int32 × Mem)) (x3 x4 : Int32) (k : Nat) (l : List Nat) (m : Mem), HL n l m → Off [20, 21] m0 m → ∀ (j g F : Nat), g + j = n → j < F → S_best_66L K F x2 x3 x4 (nI k) (nI (sm (fun g => t g (l.getD g 0)) g)) (nI g) m = if nI k = 0 then S_best_118 K x2 (nI k) (nI (sm (fun g => t g (l.getD g 0)) n)) m else if nI (sm (fun g => t g (l.getD g 0)) n) < x3 then S_best_118 K x2 (nI k) (nI (sm (fun g => t g (l.getD g 0)) n)) m else S_best_130 K x2 x3 x4 (nI k) m := by
    intro K x3 x4 k l m hl ho j
    induction j with
    | zero =>
      intro g F hg hF
      obtain ⟨F, rfl⟩ : ∃ F', F = F' + 1 := ⟨F - 1, by omega⟩
      have : g = n := by omega
      subst this
      show S_best_66 _ _ _ _ _ _ _ _ _ = _
      unfold S_best_66
      rw [ho.rd (by decide), h13, if_neg (nI_nlt (by omega) (by omega))]
    | succ j ih =>
      intro g F hg hF
      obtain ⟨F, rfl⟩ : ∃ F', F = F' + 1 := ⟨F - 1, by omega⟩
      have hgn : g < n := by omega
      have hc := hl.2.1.2 g hgn
      have e0 : rd m 21 0 (ix (nI g)) = nI (l.getD g 0) := by rw [ix_nI (by omega)]; exact hl.2.2 g hgn
      show S_best_66 _ _ _ _ _ _ _ _ _ = _
      unfold S_best_66
      rw [ho.rd (by decide), h13, if_pos (nI_lt hgn (by omega)), chk_eq _ (inb_nI (by omega) (by omega)), chk_eq _ (inb_nI (by omega) (by omega)), e0, chk_eq _ (inb_nI (by omega) (by omega)), ix_nI (show g < 2 ^ 31 by omega), ix_nI (show l.getD g 0 < 2 ^ 31 by omega), ho.rd (by decide), (ht g _ hgn hc).1, nm_eq, nm_eq, nI_1, nI_add]
      exact ih (g + 1) F (by omega) (by omega)
  have key : ∀ (j k F : Nat) (l : List Nat) (m : Mem) (s : Bool × Nat × Nat), k + j = fac n → j < F → HL n l m → rd m 20 0 1 = nI (fac n) → Off [20, 21] m0 m → s.1 = decide (k ≠ 0) → s.2.2 ≤ n * 99 → ∃ m', S_best_48L F x2 (nI s.2.2) (nI s.2.1) (nI k) m = some (if x2 = 0 then nI ((sqL n j l).foldl (bsS n t) s).2.1 else nI ((sqL n j l).foldl (bsS n t) s).2.2, m') ∧ Off [20, 21] m0 m' := by
    intro j
    induction j with
    | zero =>
      intro k F l m s hk hF hl h1 ho hs1 hs2
      obtain ⟨F, rfl⟩ : ∃ F', F = F' + 1 := ⟨F - 1, by omega⟩
      refine ⟨m, ?_, ho⟩
      show S_best_48 _ _ _ _ _ _ = _
      unfold S_best_48
      rw [h1, if_neg (nI_nlt (by omega) (by omega))]
      show (if x2 = 0 then some (nI s.2.1, m) else some (nI s.2.2, m)) = some (if x2 = 0 then nI s.2.1 else nI s.2.2, m)
      split <;> rfl
    | succ j ih =>
      intro k F l m s hk hF hl h1 ho hs1 hs2
      obtain ⟨F, rfl⟩ : ∃ F', F = F' + 1 := ⟨F - 1, by omega⟩
      obtain ⟨m1, a1, a2, a3⟩ := Wa_step_sp hn hl
      have hw : sm (fun g => t g (l.getD g 0)) n ≤ n * 99 := sm_le n (fun i hi => hT i _ hi (hl.2.1.2 i hi))
      have hb := bsS_le hT hl.2.1 hs2
      obtain ⟨m', b1, b2⟩ := ih (k + 1) F (stpL n l) m1 (bsS n t s l) (by omega) (by omega) a2 (by rw [a3.rd (by decide)]; exact h1) (ho.tr (a3.mono (by decide))) (by rw [bsS_1]; exact (decide_eq_true (by omega)).symm) hb
      refine ⟨m', ?_, b2⟩
      show S_best_48 _ _ _ _ _ _ = _
      unfold S_best_48
      rw [h1, if_pos (nI_lt (by omega) (by omega))]
      refine (warm (S_best_48L F) (nI s.2.2) (nI s.2.1) k l m hl ho n 0 1000 (by omega) (by omega)).trans (Eq.trans ?_ b1)
      have e118 : S_best_118 (S_best_48L F) x2 (nI k) (nI (sm (fun g => t g (l.getD g 0)) n)) m = S_best_48L F x2 (nI (sm (fun g => t g (l.getD g 0)) n)) (nI (dgN (fun g => l.getD g 0) n)) (nI (k + 1)) m1 := by
        unfold S_best_118 S_best_130
        rw [bnd_of (Wa_digits_sp hn hl), bnd_of a1, nm_eq, nI_1]
      have e130 : S_best_130 (S_best_48L F) x2 (nI s.2.2) (nI s.2.1) (nI k) m = S_best_48L F x2 (nI s.2.2) (nI s.2.1) (nI (k + 1)) m1 := by
        unfold S_best_130
        rw [bnd_of a1, nm_eq, nI_1]
      rw [e118, e130]
      unfold bsS
      by_cases q : k = 0
      · rw [if_pos (by rw [q]; rfl), if_pos (Or.inl (by rw [hs1, q]; rfl))]
      · rw [if_neg (show ¬ nI k = 0 from fun z => q ((nI_eq (b := 0) (by omega) (by omega)).mp z))]
        by_cases w : sm (fun g => t g (l.getD g 0)) n < s.2.2
        · rw [if_pos (nI_lt w (by omega)), if_pos (Or.inr w)]
        · rw [if_neg (nI_nlt (by omega) (by omega)), if_neg]
          rintro (z | z)
          · rw [hs1, decide_eq_true (show k ≠ 0 from q)] at z; cases z
          · exact w z
  obtain ⟨m1, a1, a2, a3, a4⟩ := Wa_begin_sp (m := m0) hn
  obtain ⟨m', b1, b2⟩ := key (fac n) 0 1000 (rgL n 0) m1 (false, 0, 0) (by omega) (by omega) a2 a3 a4 rfl (Nat.zero_le _)
  rw [ways_all n (by omega)] at b1
  refine ⟨m', ?_, b2⟩
  rw [bnd_of a1]
  exact b1
/-! the reference seeks -/
def MB (n : Nat) (s : Bool × Nat × Nat) (ν : Mem) : Prop := (s.1 = false ∧ rd ν 0 0 32 = 0) ∨ (s.1 = true ∧ rd ν 0 0 32 = 1 ∧ rd ν 0 0 33 = nI s.2.1 ∧ rd ν 0 0 34 = nI s.2.2 ∧ s.2.2 ≤ n * 99)
def TB7 (n : Nat) (t : Nat → Nat → Nat) (ν : Mem) : Prop := rd ν 0 0 12 = nI n ∧ ∀ g c, g < n → c < n → rd ν 7 0 (6 * g + c) = nI (t g c) ∧ t g c ≤ 99
theorem TB7.rm {n : Nat} {t : Nat → Nat → Nat} {S js : List Nat} {ν ν' : Mem} (h : TB7 n t ν) (r : RM S js ν ν') (h0 : 0 ∉ S) (h7 : 7 ∉ S) (hj : 12 ∉ js) : TB7 n t ν' := ⟨by rw [r 0 12 h0 (fun _ => hj)]; exact h.1, fun g c hg hc => by rw [r 7 _ h7 (fun q => absurd q (by decide))]; exact h.2 g c hg hc⟩
theorem getD_app {pre : List Nat} {c i : Nat} : (pre ++ [c]).getD i 0 = if i < pre.length then pre.getD i 0 else if i = pre.length then c else 0 := by
  rw [List.getD_eq_getElem?_getD, List.getD_eq_getElem?_getD]
  by_cases q : i < pre.length
  · rw [if_pos q, List.getElem?_append_left q]
  · rw [if_neg q, List.getElem?_append_right (by omega)]
    by_cases w : i = pre.length
    · subst w; rw [if_pos rfl, Nat.sub_self]; rfl
    · rw [if_neg w]
      obtain ⟨j, hj⟩ : ∃ j, i - pre.length = j + 1 := ⟨i - pre.length - 1, by omega⟩
      rw [hj]; rfl
/-- the digits and the warmth of what is laid so far -/
theorem pre_next {n g c : Nat} {pre : List Nat} (t : Nat → Nat → Nat) (hl : pre.length = g) : sm (fun i => t i ((pre ++ [c]).getD i 0)) (g + 1) = sm (fun i => t i (pre.getD i 0)) g + t g c ∧ dgN (fun i => (pre ++ [c]).getD i 0) (g + 1) = 10 * dgN (fun i => pre.getD i 0) g + c + 1 := by
  have e1 : ∀ i, i < g → (pre ++ [c]).getD i 0 = pre.getD i 0 := fun i hi => by rw [getD_app, if_pos (by omega)]
  have e2 : (pre ++ [c]).getD g 0 = c := by rw [getD_app, if_neg (by omega), if_pos hl.symm]
  refine ⟨?_, ?_⟩
  · rw [sm, e2, sm_cong g (fun i hi => by rw [e1 i hi])]
  · rw [dgN, e2, dgN_cong g e1]
theorem M_seeks_sp {n : Nat} {t : Nat → Nat → Nat} (hn : n ≤ 6) : ∀ (k g used F : Nat) (pre : List Nat) (ν : Mem) (s : Bool × Nat × Nat), g + k = n → k < F → used < 2 ^ n → pre.length = g → (∀ i, i < g → pre.getD i 0 < n) → TB7 n t ν → MB n s ν → ∃ ν', M_seeksR F 0 (nI g) (nI used) (nI (sm (fun i => t i (pre.getD i 0)) g)) (nI (dgN (fun i => pre.getD i 0) g)) ν = some ν' ∧ RM [] [32, 33, 34] ν ν' ∧ MB n ((trL n k used pre).foldl (bsS n t) s) ν' := by
  intro k
  induction k with
  | zero =>
    intro g used F pre ν s hg hF hu hl hp hT hs
    obtain ⟨F, rfl⟩ : ∃ F', F = F' + 1 := ⟨F - 1, by omega⟩
    have : g = n := by omega
    subst this
    have hw : sm (fun i => t i (pre.getD i 0)) g ≤ g * 99 := sm_le g (fun i hi => (hT.2 i _ hi (hp i hi)).2)
    have e23 : ∃ ν', M_seeks_23 (M_seeksR F) (nI (sm (fun i => t i (pre.getD i 0)) g)) (nI (dgN (fun i => pre.getD i 0) g)) ν = some ν' ∧ RM [] [32, 33, 34] ν ν' ∧ MB g (true, dgN (fun i => pre.getD i 0) g, sm (fun i => t i (pre.getD i 0)) g) ν' := by
      unfold M_seeks_23
      simp only [nm_eq]
      exact ⟨_, rfl, ((RM.rf.wr0 (by decide)).wr0 (by decide)).wr0 (by decide), Or.inr ⟨rfl, rfl, rfl, rfl, hw⟩⟩
    obtain ⟨ν1, c1, c2, c3⟩ := e23
    show ∃ ν', M_seeks _ _ _ _ _ _ = _ ∧ _ ∧ MB g (bsS g t s pre) ν'
    unfold M_seeks
    rw [hT.1, if_pos rfl]
    unfold bsS
    rcases hs with ⟨s1, s2⟩ | ⟨s1, s2, s3, s4, s5⟩
    · rw [s2, if_pos rfl, if_pos (Or.inl s1)]
      exact ⟨ν1, c1, c2, c3⟩
    · rw [s2, if_neg (by decide), s4]
      by_cases q : sm (fun i => t i (pre.getD i 0)) g < s.2.2
      · rw [if_pos (nI_lt q (by omega)), if_pos (Or.inr q)]
        exact ⟨ν1, c1, c2, c3⟩
      · rw [if_neg (nI_nlt (by omega) (by omega)), if_neg (by rw [s1]; rintro (z | z); cases z; exact q z)]
        exact ⟨ν, rfl, RM.rf, Or.inr ⟨s1, s2, s3, s4, s5⟩⟩
  | succ k ih =>
    intro g used F pre ν s hg hF hu hl hp hT hs
    obtain ⟨F, rfl⟩ : ∃ F', F = F' + 1 := ⟨F - 1, by omega⟩
    have hgn : g < n := by omega
    have inner : ∀ (j c F' : Nat) (ν1 : Mem) (s1 : Bool × Nat × Nat), c + j = n → j < F' → RM [] [32, 33, 34] ν ν1 → MB n s1 ν1 → ∃ ν', M_seeks_43L (M_seeksR F) F' (nI g) (nI used) (nI (sm (fun i => t i (pre.getD i 0)) g)) (nI (dgN (fun i => pre.getD i 0) g)) (nI c) ν1 = some ν' ∧ RM [] [32, 33, 34] ν ν' ∧ MB n (((rgL j c).flatMap (fun c => if used.testBit c = true then [] else trL n k (used ||| 2 ^ c) (pre ++ [c]))).foldl (bsS n t) s1) ν' := by
      intro j
      induction j with
      | zero =>
        intro c F' ν1 s1 hc hF' hr hm
        obtain ⟨F', rfl⟩ : ∃ F'', F' = F'' + 1 := ⟨F' - 1, by omega⟩
        refine ⟨ν1, ?_, hr, hm⟩
        show M_seeks_43 _ _ _ _ _ _ _ _ = _
        unfold M_seeks_43
        rw [(hT.rm hr (by decide) (by decide) (by decide)).1, if_neg (nI_nlt (by omega) (by omega))]
      | succ j ihj =>
        intro c F' ν1 s1 hc hF' hr hm
        obtain ⟨F', rfl⟩ : ∃ F'', F' = F'' + 1 := ⟨F' - 1, by omega⟩
        have hT1 := hT.rm hr (by decide) (by decide) (by decide)
        have hu6 := p64 hn hu
        rw [rgL, List.flatMap_cons, List.foldl_append]
        cases hb : used.testBit c
        · -- free
          obtain ⟨p1, p2⟩ := pre_next (n := n) (c := c) t hl
          obtain ⟨ν2, b1, b2, b3⟩ := ih (g + 1) (used ||| 2 ^ c) F (pre ++ [c]) ν1 s1 (by omega) (by omega) (or_lt n hn _ hu _ (by omega)) (by rw [List.length_append, hl]; rfl) (fun i hi => by
            rw [getD_app]
            split
            · exact hp i (by omega)
            · split <;> omega) hT1 hm
          rw [p1, p2] at b1
          obtain ⟨ν', d1, d2, d3⟩ := ihj (c + 1) F' ν2 _ (by omega) (by omega) (hr.tr b2) b3
          refine ⟨ν', ?_, d2, by rw [if_neg (by decide)]; exact d3⟩
          show M_seeks_43 _ _ _ _ _ _ _ _ = _
          unfold M_seeks_43 M_seeks_98
          rw [hT1.1, if_pos (nI_lt (by omega) (by omega)), bit_at _ hu6 _ (by omega), hb, if_pos (by decide), litI 6, pk_mul, nI_add, chk_eq _ (inb_nI (by omega) (by omega)), ix_nI (by omega), (hT1.2 g c hgn (by omega)).1, nI_1, or_bit _ hu6 _ (by omega), nI_add, litI 10, pk_mul, nI_add, nI_1, bnd_of b1, nm_eq, nI_1]
          exact d1
        · obtain ⟨ν', d1, d2, d3⟩ := ihj (c + 1) F' ν1 s1 (by omega) (by omega) hr hm
          refine ⟨ν', ?_, d2, by rw [if_pos rfl]; exact d3⟩
          show M_seeks_43 _ _ _ _ _ _ _ _ = _
          unfold M_seeks_43 M_seeks_98
          rw [hT1.1, if_pos (nI_lt (by omega) (by omega)), bit_at _ hu6 _ (by omega), hb, if_neg (by decide), nm_eq, nI_1]
          exact d1
    obtain ⟨ν', a1, a2, a3⟩ := inner n 0 1000 ν s (by omega) (by omega) RM.rf hs
    refine ⟨ν', ?_, a2, a3⟩
    show M_seeks _ _ _ _ _ _ = _
    unfold M_seeks
    rw [hT.1, if_neg (fun z => absurd ((nI_eq (by omega) (by omega)).mp z) (by omega))]
    exact a1
theorem best_agree (x1 x2 : Int32) : Agree (S_best x1 x2) (M_best x1 x2) := by
  intro μ ν I
  have I0 := I
  obtain ⟨hs, gr, tc, X, B, z, sk, sm', sv, IC⟩ := I
  have h : HOK hs gr tc := IC.1.1
  have ht : tc ≤ 6 := IC.1.2.1
  have hA := IC.1.2.2.1
  have hM := IC.1.2.2.2
  have hn := h.2.2.2.1
  rcases S_isDays_sp x1 (b := 10) (by omega) with ⟨-, e1, e2⟩ | ⟨d, hd, rfl, e1, e2⟩
  · refine ⟨-2, μ, ν, ?_, ?_, I0⟩
    · unfold S_best
      rw [show S_isDays x1 10 = 0 from e1, nm_eq, if_pos rfl]
    · unfold M_best
      rw [show M_in x1.toInt64 0 10 = 0 from e2, nm_eq, if_pos rfl]
  have e1 : S_isDays (nI d) 10 = 1 := e1
  have e2 : M_in (nI d).toInt64 0 10 = 1 := e2
  rcases M_in_or (x := x2) (b := 1) (by omega) with ⟨q, e⟩ | ⟨j, hj, rfl, e⟩
  · have n0 : ¬ x2 = 0 ∧ ¬ x2 = 1 := by
      rcases q with q | q
      · exact ⟨neg_ne q (j := 0) (by omega), neg_ne q (j := 1) (by omega)⟩
      · exact ⟨big_ne q (j := 0) (by omega) (by omega), big_ne q (j := 1) (by omega) (by omega)⟩
    refine ⟨-2, μ, ν, ?_, ?_, I0⟩
    · unfold S_best
      rw [e1, nm_eq, if_neg (by decide), if_neg n0.1, if_neg n0.2]
    · unfold M_best
      rw [e2, nm_eq, if_neg (by decide), show M_in x2.toInt64 0 1 = 0 from e, nm_eq, if_pos rfl]
  have e : M_in (nI j).toInt64 0 1 = 1 := e
  obtain ⟨m1, a1, a2, a3⟩ := S_foresee_sp h ht hA IC.2.1.1 (d := d) (by omega)
  obtain ⟨w1, b1, b2, b3⟩ := M_tables_sp h ht hM IC.2.1.2 (d := d) (by omega)
  have hT : ∀ g c, g < hs 3 → c < hs 3 → lvP X hs gr g c (gr c 2) d ≤ 99 := fun g c hg _ => lvP_le h hg
  obtain ⟨t, et⟩ : ∃ t : Nat → Nat → Nat, t = fun g c => lvP X hs gr g c (gr c 2) d := ⟨_, rfl⟩
  have h13 : rd m1 1 0 3 = nI (hs 3) := by rw [a2.rd (by decide)]; exact hA.1 3 (by decide)
  obtain ⟨m2, c1, c2⟩ := S_best_sp (t := t) (m0 := m1) hn h13 (fun g c hg hc => by rw [et]; exact ⟨a3 g c hg hc, hT g c hg hc⟩) (nI j)
  have hT7 : TB7 (hs 3) t (up w1 0 0 32 0) := ⟨by rw [rd_up_j (by decide), b2 0 12 (by decide) (fun _ => by decide)]; exact hM.2.2.2.1, fun g c hg hc => by rw [rd_up_f (by decide), et]; exact ⟨b3 g c hg hc, hT g c hg hc⟩⟩
  obtain ⟨w2, d1, d2, d3⟩ := M_seeks_sp hn (hs 3) 0 0 100 [] (up w1 0 0 32 0) (false, 0, 0) (by omega) (by omega) (Nat.two_pow_pos _) rfl (fun i hi => absurd hi (by omega)) hT7 (Or.inl ⟨rfl, rfl⟩)
  have fin : ((trL (hs 3) (hs 3) 0 []).foldl (bsS (hs 3) t) (false, 0, 0)).1 = true := bsS_all _ _ _ _ (Or.inr (fun q => by
    have := ways_ne (hs 3) (by omega)
    rw [q, List.length_nil] at this
    omega))
  obtain ⟨R, eR⟩ : ∃ R, R = (trL (hs 3) (hs 3) 0 []).foldl (bsS (hs 3) t) (false, 0, 0) := ⟨_, rfl⟩
  rw [← eR] at c1 d3 fin
  obtain ⟨v3, v4⟩ : rd w2 0 0 33 = nI R.2.1 ∧ rd w2 0 0 34 = nI R.2.2 := by
    rcases d3 with ⟨q, -⟩ | ⟨-, -, q1, q2, -⟩
    · rw [fin] at q; cases q
    · exact ⟨q1, q2⟩
  have hj01 : nI j = 0 ∨ nI j = 1 := by
    obtain rfl | rfl : j = 0 ∨ j = 1 := by omega
    · exact Or.inl rfl
    · exact Or.inr rfl
  have oA : SameA μ m2 := (a2.same (by decide)).tr (c2.same (by decide))
  have oM : SameM ν w2 := ((b2.mono (by decide) (by decide)).tr (RM.wr0 RM.rf (by decide))).tr (d2.mono (by decide) (by decide))
  refine ⟨if nI j = 0 then nI R.2.1 else nI R.2.2, m2, w2, ?_, ?_, I0.same oA oM⟩
  · have e21 : S_best_21 (nI d) (nI j) μ = some (if nI j = 0 then nI R.2.1 else nI R.2.2, m2) := by
      unfold S_best_21
      rw [bnd_of a1, h13]
      exact c1
    unfold S_best
    rw [e1, nm_eq, if_neg (by decide), e21]
    rcases hj01 with q | q
    · rw [if_pos q]
    · rw [if_neg (show ¬ nI j = 0 by rw [q]; decide), if_pos q]
  · have d1 : M_seeksR 100 0 0 0 0 0 (up w1 0 0 32 0) = some w2 := d1
    unfold M_best
    rw [e2, nm_eq, if_neg (by decide), e, nm_eq, if_neg (by decide), bnd_of b1, nm_eq, bnd_of d1, v3, v4]
    split <;> rfl
