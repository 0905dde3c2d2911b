/-! ===== tells: by how many ways ===== -/
def msk (P : Nat → Bool) : Nat → Nat
  | 0 => 0
  | k + 1 => if P k = true then msk P k ||| 2 ^ k else msk P k
theorem msk_bit {P : Nat → Bool} {i : Nat} : ∀ k, (msk P k).testBit i = true ↔ i < k ∧ P i = true
  | 0 => by
    rw [msk, Nat.zero_testBit]
    exact ⟨fun h => (by cases h), fun h => absurd h.1 (by omega)⟩
  | k + 1 => by
    rw [msk]
    have ih := msk_bit (P := P) (i := i) k
    by_cases q : P k = true
    · rw [if_pos q, bit_orp, ih]
      constructor
      · rintro (⟨a, b⟩ | h)
        · exact ⟨by omega, b⟩
        · subst h; exact ⟨by omega, q⟩
      · rintro ⟨a, b⟩
        by_cases e : k = i
        · exact Or.inr e
        · exact Or.inl ⟨by omega, b⟩
    · rw [if_neg q, ih]
      constructor
      · rintro ⟨a, b⟩; exact ⟨by omega, b⟩
      · rintro ⟨a, b⟩
        by_cases e : k = i
        · subst e; exact absurd b q
        · exact ⟨by omega, b⟩
theorem msk_lt (P : Nat → Bool) : ∀ k, msk P k < 2 ^ k
  | 0 => Nat.two_pow_pos 0
  | k + 1 => by
    have ih : msk P k < 2 ^ (k + 1) := Nat.lt_of_lt_of_le (msk_lt P k) (Nat.pow_le_pow_right (by decide) (by omega))
    rw [msk]
    split
    · exact Nat.or_lt_two_pow ih (Nat.pow_lt_pow_right (by decide) (by omega))
    · exact ih
/-- what the class keeps and what the reference keeps, in one: how many, the first, it, who is the same in all, who could wear what -/
abbrev WS : Type := Int32 × Nat × List Nat × Nat × (Nat → Nat)
def eqm (n : Nat) (l k : List Nat) : Nat := msk (fun g => decide (l.getD g 0 = k.getD g 0)) n
def wsT (n : Nat) (s : WS) (l : List Nat) : WS := if s.1 + 1 = 1 then (s.1 + 1, dgN (fun g => l.getD g 0) n, l, s.2.2.2.1 &&& eqm n l l, fun g => s.2.2.2.2 g ||| 2 ^ (l.getD g 0)) else (s.1 + 1, s.2.1, s.2.2.1, s.2.2.2.1 &&& eqm n l s.2.2.1, fun g => s.2.2.2.2 g ||| 2 ^ (l.getD g 0))
def fitL (n : Nat) (P : Nat → Nat → Bool) (l : List Nat) : Bool := decide (∀ g, g < n → P g (l.getD g 0) = true)
def wsF (n : Nat) (P : Nat → Nat → Bool) (s : WS) (l : List Nat) : WS := if fitL n P l = true then wsT n s l else s
theorem wsF_y {n : Nat} {P : Nat → Nat → Bool} {s : WS} {l : List Nat} (h : fitL n P l = true) : wsF n P s l = wsT n s l := if_pos h
theorem wsF_n {n : Nat} {P : Nat → Nat → Bool} {s : WS} {l : List Nat} (h : ¬ fitL n P l = true) : wsF n P s l = s := if_neg h
theorem wsT_1 {n : Nat} {s : WS} {l : List Nat} (h : s.1 + 1 = 1) : wsT n s l = (s.1 + 1, dgN (fun g => l.getD g 0) n, l, s.2.2.2.1 &&& eqm n l l, fun g => s.2.2.2.2 g ||| 2 ^ (l.getD g 0)) := if_pos h
theorem wsT_2 {n : Nat} {s : WS} {l : List Nat} (h : ¬ s.1 + 1 = 1) : wsT n s l = (s.1 + 1, s.2.1, s.2.2.1, s.2.2.2.1 &&& eqm n l s.2.2.1, fun g => s.2.2.2.2 g ||| 2 ^ (l.getD g 0)) := if_neg h
/-! what holds of it -/
def WQ (n k : Nat) (s : WS) : Prop := s.1 = nI k ∧ s.2.2.2.1 < 2 ^ n ∧ (k = 0 → s.2.2.2.1 = 2 ^ n - 1 ∧ ∀ g, g < n → s.2.2.2.2 g = 0) ∧ (0 < k → okL n s.2.2.1 ∧ ∀ g, g < n → (s.2.2.2.2 g).testBit (s.2.2.1.getD g 0) = true ∧ (s.2.2.2.1.testBit g = true ↔ s.2.2.2.2 g = 2 ^ (s.2.2.1.getD g 0))) ∧ ∀ g, g < n → s.2.2.2.2 g < 2 ^ n
theorem bit_and {a b i : Nat} : (a &&& b).testBit i = true ↔ a.testBit i = true ∧ b.testBit i = true := by rw [Nat.testBit_and, Bool.and_eq_true]
theorem WQ.next {n k : Nat} {s : WS} {l : List Nat} (hn : n ≤ 6) (hk : k < 2000) (h : WQ n k s) (hl : okL n l) : WQ n (k + 1) (wsT n s l) := by
  obtain ⟨h1, h2, h3, h4, h5⟩ := h
  have cw : ∀ g, g < n → s.2.2.2.2 g ||| 2 ^ (l.getD g 0) < 2 ^ n := fun g hg => or_lt n hn _ (h5 g hg) _ (hl.2 g hg)
  have a1 : s.1 + 1 = nI (k + 1) := by rw [h1, nI_1]
  unfold wsT
  by_cases q : k = 0
  · obtain ⟨h31, h32⟩ := h3 q
    rw [if_pos (by rw [a1, q]; rfl)]
    refine ⟨a1, Nat.lt_of_le_of_lt Nat.and_le_left h2, fun z => absurd z (by omega), fun _ => ⟨hl, fun g hg => ⟨bit_orp.mpr (Or.inr rfl), ?_⟩⟩, cw⟩
    show (s.2.2.2.1 &&& eqm n l l).testBit g = true ↔ s.2.2.2.2 g ||| 2 ^ (l.getD g 0) = 2 ^ (l.getD g 0)
    rw [h32 g hg, Nat.zero_or, bit_and, h31, Nat.testBit_two_pow_sub_one, decide_eq_true hg]
    exact ⟨fun _ => rfl, fun _ => ⟨rfl, (msk_bit n).mpr ⟨hg, decide_eq_true rfl⟩⟩⟩
  · obtain ⟨h41, h42⟩ := h4 (by omega)
    rw [if_neg (fun z => by
      rw [a1] at z
      have := (nI_eq (b := 1) (by omega) (by omega)).mp z
      omega)]
    refine ⟨a1, Nat.lt_of_le_of_lt Nat.and_le_left h2, fun z => absurd z (by omega), fun _ => ⟨h41, fun g hg => ⟨bit_orp.mpr (Or.inl (h42 g hg).1), ?_⟩⟩, cw⟩
    show (s.2.2.2.1 &&& eqm n l s.2.2.1).testBit g = true ↔ s.2.2.2.2 g ||| 2 ^ (l.getD g 0) = 2 ^ (s.2.2.1.getD g 0)
    obtain ⟨c1, c2⟩ := h42 g hg
    rw [bit_and, c2]
    constructor
    · rintro ⟨e1, e2⟩
      have e3 := of_decide_eq_true ((msk_bit n).mp e2).2
      rw [e1, e3, or_in (bit_pw.mpr rfl)]
    · intro e
      have b : (s.2.2.2.2 g ||| 2 ^ (l.getD g 0)).testBit (l.getD g 0) = true := bit_orp.mpr (Or.inr rfl)
      rw [e] at b
      have e3 := bit_pw.mp b
      refine ⟨?_, (msk_bit n).mpr ⟨hg, decide_eq_true e3.symm⟩⟩
      refine Sb.anti (fun i hi => ?_) (fun i hi => ?_)
      · rw [← e]; exact bit_orp.mpr (Or.inl hi)
      · rw [← bit_pw.mp hi]; exact c1
theorem WQ.fold {n : Nat} {P : Nat → Nat → Bool} (hn : n ≤ 6) : ∀ (ls : List (List Nat)) (k : Nat) (s : WS), WQ n k s → (∀ l ∈ ls, okL n l) → k + ls.length < 2000 → ∃ k', k' < 2000 ∧ WQ n k' (ls.foldl (wsF n P) s)
  | [], k, s, h, _, hk => ⟨k, by simpa using hk, h⟩
  | l :: ls, k, s, h, hl, hk => by
    rw [List.length_cons] at hk
    rw [List.foldl_cons]
    unfold wsF
    by_cases q : fitL n P l = true
    · rw [if_pos q]
      exact WQ.fold hn ls (k + 1) _ (h.next hn (by omega) (hl l List.mem_cons_self)) (fun a ha => hl a (List.mem_cons_of_mem _ ha)) (by omega)
    · rw [if_neg q]
      exact WQ.fold hn ls k _ h (fun a ha => hl a (List.mem_cons_of_mem _ ha)) (by omega)
theorem ws_sure {n k : Nat} {s : WS} (hn : n ≤ 6) (hk : k < 2000) (h : WQ n k s) : (if s.1 = 0 then 0 else s.2.2.2.1) = msk (fun g => decide (pc (s.2.2.2.2 g) = 1)) n := by
  obtain ⟨h1, h2, h3, h4, h5⟩ := h
  by_cases q : k = 0
  · rw [if_pos (by rw [h1, q]; rfl)]
    refine Sb.anti (fun i hi => ?_) (fun i hi => ?_)
    · rw [Nat.zero_testBit] at hi; cases hi
    · obtain ⟨a, b⟩ := (msk_bit n).mp hi
      have := of_decide_eq_true b
      rw [(h3 q).2 i a] at this
      exact absurd this (by decide)
  · obtain ⟨h41, h42⟩ := h4 (by omega)
    rw [if_neg (fun z => by
      rw [h1] at z
      have := (nI_eq (b := 0) (by omega) (by omega)).mp z
      omega)]
    have key : ∀ g, g < n → (s.2.2.2.1.testBit g = true ↔ pc (s.2.2.2.2 g) = 1) := by
      intro g hg
      obtain ⟨c1, c2⟩ := h42 g hg
      have hm := h41.2 g hg
      rw [c2]
      constructor
      · intro e; rw [e, pc_pw _ (by omega)]
      · intro e
        rcases pc_gt hn (Nat.pow_lt_pow_right (a := 2) (by decide) hm) (h5 g hg) (fun i hi => by rw [← bit_pw.mp hi]; exact c1) with w | w
        · exact w.symm
        · rw [pc_pw _ (by omega), e] at w; omega
    refine Sb.anti (fun i hi => ?_) (fun i hi => ?_)
    · have := bit_lt h2 hi
      exact (msk_bit n).mpr ⟨this, decide_eq_true ((key i this).mp hi)⟩
    · obtain ⟨a, b⟩ := (msk_bit n).mp hi
      exact (key i a).mpr (of_decide_eq_true b)
/-! the class -/
def HP (n : Nat) (P : Nat → Nat → Bool) (m : Mem) : Prop := ∀ g, g < n → rd m 29 0 g = nI (msk (P g) n)
theorem Wa_among_sp {n : Nat} {P : Nat → Nat → Bool} {l : List Nat} {m : Mem} (hn : n ≤ 6) (h : HL n l m) (hP : HP n P m) : Wa_isAmong m = some (if fitL n P l = true then 1 else 0) := by
  have key : ∀ (k g F : Nat), g + k = n → k < F → (∀ i, i < g → P i (l.getD i 0) = true) → Wa_isAmong_2L F (nI g) m = some (if fitL n P l = true then 1 else 0) := by
    intro k
    induction k with
    | zero =>
      intro g F hg hF ha
      obtain ⟨F, rfl⟩ : ∃ F', F = F' + 1 := ⟨F - 1, by omega⟩
      have : g = n := by omega
      subst this
      show Wa_isAmong_2 _ _ _ = _
      unfold Wa_isAmong_2
      rw [h.1, if_neg (nI_nlt (by omega) (by omega)), if_pos (show fitL g P l = true from decide_eq_true ha)]
    | succ k ih =>
      intro g F hg hF ha
      obtain ⟨F, rfl⟩ : ∃ F', F = F' + 1 := ⟨F - 1, by omega⟩
      have hgn : g < n := by omega
      have hc := h.2.1.2 g hgn
      have hm : msk (P g) n < 64 := p64 hn (msk_lt _ n)
      show Wa_isAmong_2 _ _ _ = _
      unfold Wa_isAmong_2
      rw [h.1, if_pos (nI_lt hgn (by omega)), chk_eq _ (inb_nI (by omega) (by omega)), chk_eq _ (inb_nI (by omega) (by omega)), ix_nI (by omega), hP g hgn, h.2.2 g hgn, bit_at _ hm _ (by omega), nm_eq, nI_1]
      have hb : (msk (P g) n).testBit (l.getD g 0) = P g (l.getD g 0) := by
        cases q : P g (l.getD g 0)
        · cases w : (msk (P g) n).testBit (l.getD g 0)
          · rfl
          · have := ((msk_bit n).mp w).2
            rw [q] at this; cases this
        · exact (msk_bit n).mpr ⟨hc, q⟩
      rw [hb]
      cases q : P g (l.getD g 0)
      · rw [if_pos (by decide), if_neg]
        intro w
        have := of_decide_eq_true w g hgn
        rw [q] at this; cases this
      · rw [if_neg (by decide)]
        exact ih (g + 1) F (by omega) (by omega) (fun i hi => by
          by_cases z : i = g
          · rw [z]; exact q
          · exact ha i (by omega))
  exact key n 0 1000 (by omega) (by omega) (fun i hi => absurd hi (by omega))
theorem Wa_mark_sp {n : Nat} {l : List Nat} {m : Mem} (hn : n ≤ 6) (h : HL n l m) : ∃ m', Wa_mark m = some m' ∧ Off [22] m m' ∧ ∀ g, g < n → rd m' 22 0 g = nI (l.getD g 0) := by
  have key : ∀ (k g F : Nat) (w : Mem), g + k = n → k < F → Off [22] m w → (∀ a, a < g → rd w 22 0 a = nI (l.getD a 0)) → ∃ m', Wa_mark_2L F (nI g) w = some m' ∧ Off [22] m m' ∧ ∀ g, g < n → rd m' 22 0 g = nI (l.getD g 0) := by
    intro k
    induction k with
    | zero =>
      intro g F w hg hF ho hw
      obtain ⟨F, rfl⟩ : ∃ F', F = F' + 1 := ⟨F - 1, by omega⟩
      have : g = n := by omega
      subst this
      refine ⟨w, ?_, ho, hw⟩
      show Wa_mark_2 _ _ _ = _
      unfold Wa_mark_2
      rw [ho.rd (by decide), h.1, if_neg (nI_nlt (by omega) (by omega))]
    | succ k ih =>
      intro g F w hg hF ho hw
      obtain ⟨F, rfl⟩ : ∃ F', F = F' + 1 := ⟨F - 1, by omega⟩
      obtain ⟨m', a1, a2⟩ := ih (g + 1) F (up w 22 0 g (nI (l.getD g 0))) (by omega) (by omega) (ho.wr' (by decide)) (fun a ha => by
        by_cases q : a = g
        · subst q; exact rd_up_s _ _ _ _ _
        · rw [rd_up_j q]; exact hw a (by omega))
      refine ⟨m', ?_, a2⟩
      show Wa_mark_2 _ _ _ = _
      unfold Wa_mark_2
      rw [ho.rd (by decide), h.1, if_pos (nI_lt (by omega) (by omega)), chk_eq _ (inb_nI (by omega) (by omega)), chk_eq _ (inb_nI (by omega) (by omega)), nm_eq, nm_eq, nI_1, ix_nI (by omega), ho.rd (by decide), h.2.2 g (by omega)]
      exact a1
  exact key n 0 1000 m (by omega) (by omega) Off.rf (fun a ha => absurd ha (by omega))
theorem Wa_asMarked_sp {n : Nat} {l k0 : List Nat} {m : Mem} (hn : n ≤ 6) (h : HL n l m) (hk : okL n k0) (hm : ∀ g, g < n → rd m 22 0 g = nI (k0.getD g 0)) : Wa_asMarked m = some (nI (eqm n l k0)) := by
  have key : ∀ (k g F : Nat), g + k = n → k < F → Wa_asMarked_4L F (nI (msk (fun g => decide (l.getD g 0 = k0.getD g 0)) g)) (nI g) m = some (nI (eqm n l k0)) := by
    intro k
    induction k with
    | zero =>
      intro g F hg hF
      obtain ⟨F, rfl⟩ : ∃ F', F = F' + 1 := ⟨F - 1, by omega⟩
      have : g = n := by omega
      subst this
      show Wa_asMarked_4 _ _ _ _ = _
      unfold Wa_asMarked_4
      rw [h.1, if_neg (nI_nlt (by omega) (by omega))]
      rfl
    | succ k ih =>
      intro g F hg hF
      obtain ⟨F, rfl⟩ : ∃ F', F = F' + 1 := ⟨F - 1, by omega⟩
      have hgn : g < n := by omega
      have c1 := h.2.1.2 g hgn
      have c2 := hk.2 g hgn
      have hm64 : msk (fun g => decide (l.getD g 0 = k0.getD g 0)) g < 64 := p64 (n := g) (by omega) (msk_lt _ g)
      have nx := ih (g + 1) F (by omega) (by omega)
      rw [msk] at nx
      show Wa_asMarked_4 _ _ _ _ = _
      unfold Wa_asMarked_4 Wa_asMarked_33
      rw [h.1, if_pos (nI_lt hgn (by omega)), chk_eq _ (inb_nI (by omega) (by omega)), chk_eq _ (inb_nI (by omega) (by omega)), ix_nI (by omega), h.2.2 g hgn, hm g hgn]
      simp only [nm_eq]
      rw [nI_1, or_bit _ hm64 _ (by omega)]
      by_cases q : l.getD g 0 = k0.getD g 0
      · rw [if_pos (decide_eq_true q)] at nx
        rw [if_pos (by rw [q])]; exact nx
      · rw [if_neg (by rw [decide_eq_false q]; decide)] at nx
        rw [if_neg (fun z => q ((nI_eq (by omega) (by omega)).mp z))]; exact nx
  exact key n 0 1000 (by omega) (by omega)
theorem and_nn : ∀ a : Nat, a < 64 → ∀ b : Nat, b < 64 → nI a &&& nI b = nI (a &&& b) := by decide +kernel
theorem S_ways_sp {n : Nat} {P : Nat → Nat → Bool} {m0 : Mem} (hn : n ≤ 6) (h13 : rd m0 1 0 3 = nI n) (hP : HP n P m0) (x2 : Int32) : ∃ m', bnd (Wa_begin (rd m0 1 0 3) m0) (fun μ4 => nm ((shl 1 (rd μ4 1 0 3)) - 1) fun a5 => S_waysBy_40L 1000 x2 0 0 a5 0 μ4) = some (if x2 = 1 then ((trL n n 0 []).foldl (wsF n P) (0, 0, [], 2 ^ n - 1, fun _ => 0)).1 else if x2 = 2 then nI ((trL n n 0 []).foldl (wsF n P) (0, 0, [], 2 ^ n - 1, fun _ => 0)).2.1 else if ((trL n n 0 []).foldl (wsF n P) (0, 0, [], 2 ^ n - 1, fun _ => 0)).1 = 0 then 0 else nI ((trL n n 0 []).foldl (wsF n P) (0, 0, [], 2 ^ n - 1, fun _ => 0)).2.2.2.1, m') ∧ Off [20, 21, 22] m0 m' := by
  obtain ⟨hlen, hfac, hf1⟩ := ways_ne n (by omega)
  have key : ∀ (j k F c : Nat) (l : List Nat) (m : Mem) (s : WS), k + j = fac n → j < F → c ≤ k → HL n l m → rd m 20 0 1 = nI (fac n) → Off [20, 21, 22] m0 m → WQ n c s → (0 < c → ∀ g, g < n → rd m 22 0 g = nI (s.2.2.1.getD g 0)) → ∃ m', S_waysBy_40L F x2 s.1 (nI s.2.1) (nI s.2.2.2.1) (nI k) m = some (if x2 = 1 then ((sqL n j l).foldl (wsF n P) s).1 else if x2 = 2 then nI ((sqL n j l).foldl (wsF n P) s).2.1 else if ((sqL n j l).foldl (wsF n P) s).1 = 0 then 0 else nI ((sqL n j l).foldl (wsF n P) s).2.2.2.1, m') ∧ Off [20, 21, 22] m0 m' := by
    intro j
    induction j with
    | zero =>
      intro k F c l m s hk hF hc hl h1 ho hQ hmk
      obtain ⟨F, rfl⟩ : ∃ F', F = F' + 1 := ⟨F - 1, by omega⟩
      refine ⟨m, ?_, ho⟩
      show S_waysBy_40 _ _ _ _ _ _ _ = _
      unfold S_waysBy_40
      rw [h1, if_neg (nI_nlt (by omega) (by omega))]
      show _ = some (if x2 = 1 then s.1 else if x2 = 2 then nI s.2.1 else if s.1 = 0 then 0 else nI s.2.2.2.1, m)
      by_cases q1 : x2 = 1
      · rw [if_pos q1, if_pos q1]
      · rw [if_neg q1, if_neg q1]
        by_cases q2 : x2 = 2
        · rw [if_pos q2, if_pos q2]
        · rw [if_neg q2, if_neg q2]
          split <;> rfl
    | succ j ih =>
      intro k F c l m s hk hF hc hl h1 ho hQ hmk
      obtain ⟨F, rfl⟩ : ∃ F', F = F' + 1 := ⟨F - 1, by omega⟩
      have hP' : HP n P m := fun g hg => by rw [ho.rd (by decide)]; exact hP g hg
      have su64 : s.2.2.2.1 < 64 := p64 hn hQ.2.1
      show ∃ m', S_waysBy_40 _ _ _ _ _ _ _ = some (if x2 = 1 then ((sqL n j (stpL n l)).foldl (wsF n P) (wsF n P s l)).1 else if x2 = 2 then nI ((sqL n j (stpL n l)).foldl (wsF n P) (wsF n P s l)).2.1 else if ((sqL n j (stpL n l)).foldl (wsF n P) (wsF n P s l)).1 = 0 then 0 else nI ((sqL n j (stpL n l)).foldl (wsF n P) (wsF n P s l)).2.2.2.1, m') ∧ _
      unfold S_waysBy_40
      rw [h1, if_pos (nI_lt (by omega) (by omega)), bnd_of (Wa_among_sp hn hl hP')]
      by_cases q : fitL n P l = true
      · rw [wsF_y q, if_pos q, if_neg (by decide)]
        simp only [nm_eq]
        have hQ' := hQ.next hn (by omega) hl.2.1
        by_cases w : s.1 + 1 = 1
        · rw [wsT_1 w] at hQ'
          rw [wsT_1 w, if_pos w, bnd_of (Wa_digits_sp hn hl)]
          obtain ⟨m1, a1, a2, a3⟩ := Wa_mark_sp hn hl
          have hl1 := hl.off a2 (by decide) (by decide)
          obtain ⟨m2, b1, b2, b3⟩ := Wa_step_sp hn hl1
          obtain ⟨m', c1, c2⟩ := ih (k + 1) F (c + 1) (stpL n l) m2 _ (by omega) (by omega) (by omega) b2 (by rw [b3.rd (by decide), a2.rd (by decide)]; exact h1) ((ho.tr (a2.mono (by decide))).tr (b3.mono (by decide))) hQ' (fun _ g hg => by rw [b3.rd (by decide)]; exact a3 g hg)
          refine ⟨m', ?_, c2⟩
          rw [bnd_of a1]
          unfold S_waysBy_90 S_waysBy_102
          rw [bnd_of (Wa_asMarked_sp hn hl1 hl.2.1 a3), nm_eq, bnd_of b1, nm_eq, nI_1, and_nn _ su64 _ (show eqm n _ _ < 64 from p64 hn (msk_lt _ n))]
          exact c1
        · rw [wsT_2 w] at hQ'
          rw [wsT_2 w, if_neg w]
          have hc0 : 0 < c := by
            refine Nat.pos_of_ne_zero (fun z => w ?_)
            rw [hQ.1, z]; rfl
          obtain ⟨okm, -⟩ := hQ.2.2.2.1 hc0
          obtain ⟨m2, b1, b2, b3⟩ := Wa_step_sp hn hl
          obtain ⟨m', c1, c2⟩ := ih (k + 1) F (c + 1) (stpL n l) m2 _ (by omega) (by omega) (by omega) b2 (by rw [b3.rd (by decide)]; exact h1) (ho.tr (b3.mono (by decide))) hQ' (fun _ g hg => by rw [b3.rd (by decide)]; exact hmk hc0 g hg)
          refine ⟨m', ?_, c2⟩
          unfold S_waysBy_90 S_waysBy_102
          rw [bnd_of (Wa_asMarked_sp hn hl okm (hmk hc0)), nm_eq, bnd_of b1, nm_eq, nI_1, and_nn _ su64 _ (show eqm n _ _ < 64 from p64 hn (msk_lt _ n))]
          exact c1
      · rw [wsF_n q, if_neg q, if_pos rfl]
        obtain ⟨m2, b1, b2, b3⟩ := Wa_step_sp hn hl
        obtain ⟨m', c1, c2⟩ := ih (k + 1) F c (stpL n l) m2 s (by omega) (by omega) (by omega) b2 (by rw [b3.rd (by decide)]; exact h1) (ho.tr (b3.mono (by decide))) hQ (fun z g hg => by rw [b3.rd (by decide)]; exact hmk z g hg)
        refine ⟨m', ?_, c2⟩
        unfold S_waysBy_102
        rw [bnd_of b1, nm_eq, nI_1]
        exact c1
  obtain ⟨m1, a1, a2, a3, a4⟩ := Wa_begin_sp (m := m0) hn
  obtain ⟨m', b1, b2⟩ := key (fac n) 0 1000 0 (rgL n 0) m1 (0, 0, [], 2 ^ n - 1, fun _ => 0) (by omega) (by omega) (by omega) a2 a3 (a4.mono (by decide)) ⟨rfl, by have := Nat.two_pow_pos n; show 2 ^ n - 1 < 2 ^ n; omega, fun _ => ⟨rfl, fun _ _ => rfl⟩, fun z => absurd z (by omega), fun _ _ => Nat.two_pow_pos n⟩ (fun z => absurd z (by omega))
  rw [ways_all n (by omega)] at b1
  refine ⟨m', ?_, b2⟩
  rw [h13, bnd_of a1, nm_eq, a4.rd (by decide), h13, all_pw n (by omega)]
  exact b1
