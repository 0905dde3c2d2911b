/-! ===== what the reference asks of the token at hand ===== -/
theorem letters_eq {B : Nat → Int32} {p e : Nat} {l : List Int32} (hpe : p ≤ e) (hl : l.length ≤ 7) (hl0 : ∀ x ∈ l, x ≠ 0) (hB : ∀ i, p ≤ i → i < e → B i ≠ 0) : (¬ p + 8 < e ∧ ∀ i, i < 8 → (if p + i < e then B (p + i) = l.getD i 0 else l.getD i 0 = 0)) ↔ wlB B p e = l := by
  have ld : ∀ i, i < l.length → l.getD i 0 ≠ 0 := fun i hi => by
    rw [List.getD_eq_getElem?_getD, List.getElem?_eq_getElem hi]
    exact hl0 _ (List.getElem_mem hi)
  have ln : ∀ i, l.length ≤ i → l.getD i 0 = 0 := fun i hi => by
    rw [List.getD_eq_getElem?_getD, List.getElem?_eq_none hi]; rfl
  constructor
  · rintro ⟨h1, h2⟩
    have hlen : e - p = l.length := by
      rcases Nat.lt_trichotomy (e - p) l.length with q | q | q
      · have := h2 (e - p) (by omega)
        rw [if_neg (by omega)] at this
        exact absurd this (ld _ q)
      · exact q
      · have := h2 l.length (by omega)
        rw [if_pos (by omega), ln _ (Nat.le_refl _)] at this
        exact absurd this (hB _ (by omega) (by omega))
    apply List.ext_getElem?
    intro i
    by_cases hi : i < e - p
    · rw [wlB_get hi]
      have := h2 i (by omega)
      rw [if_pos (by omega), List.getD_eq_getElem?_getD, List.getElem?_eq_getElem (show i < l.length by omega)] at this
      rw [List.getElem?_eq_getElem (show i < l.length by omega), this]
      rfl
    · rw [List.getElem?_eq_none (by rw [wlB_len]; omega), List.getElem?_eq_none (by omega)]
  · intro h
    have hlen : e - p = l.length := by rw [← h, wlB_len]
    refine ⟨by omega, fun i hi => ?_⟩
    by_cases q : p + i < e
    · rw [if_pos q]
      have := wlB_get (B := B) (s := p) (e := e) (i := i) (by omega)
      rw [h] at this
      rw [List.getD_eq_getElem?_getD, this]
      rfl
    · rw [if_neg q]
      exact ln i (by omega)
theorem M_isLetter_sp {B : Nat → Int32} {z t p e : Nat} {ν : Mem} (h : TX B z t ν) (he : e ≤ z) (hp : p ≤ z) (h23 : rd ν 0 0 23 = nI p) (h21 : rd ν 0 0 21 = nI e) (i : Nat) (hi : i < 8) (c : Int32) : M_isLetter (nI i) c ν = some (if (if p + i < e then B (p + i) = c else c = 0) then 1 else 0) := by
  have hz := h.2.1
  unfold M_isLetter
  rw [h23, h21, nI_add]
  by_cases q : p + i < e
  · rw [if_pos (nI_lt q (by omega)), bnd_of (M_byteAt_sp h (by omega)), if_pos (show p + i < z by omega)]
    simp only [if_pos q]
    split <;> rfl
  · rw [if_neg (nI_nlt (by omega) (by omega))]
    simp only [if_neg q]
    split <;> rfl
/-- a chain of letters -/
theorem chain {c : Prop} [Decidable c] {X : Option Int32} {P : Prop} [Decidable P] (hX : X = some (if P then 1 else 0)) : (if (if c then (1 : Int32) else 0) = 0 then some 0 else X) = some (if c ∧ P then 1 else 0) := by
  by_cases h : c
  · simp only [if_pos h, h, true_and]
    rw [if_neg (by decide)]
    exact hX
  · simp only [if_neg h, h, false_and, if_true, if_false]
theorem M_isWord_sp {B : Nat → Int32} {z t p e : Nat} {ν : Mem} (h : TX B z t ν) (he : e ≤ z) (hpe : p ≤ e) (h23 : rd ν 0 0 23 = nI p) (h21 : rd ν 0 0 21 = nI e) (h26 : rd ν 0 0 26 = 0) (h22 : rd ν 0 0 22 = 1) (hB : ∀ i, p ≤ i → i < e → B i ≠ 0) {l : List Int32} (hl : l.length ≤ 7) (hl0 : ∀ x ∈ l, x ≠ 0) : M_isWord (l.getD 0 0) (l.getD 1 0) (l.getD 2 0) (l.getD 3 0) (l.getD 4 0) (l.getD 5 0) (l.getD 6 0) (l.getD 7 0) ν = some (if wlB B p e = l then 1 else 0) := by
  have hz := h.2.1
  have key := letters_eq (B := B) hpe hl hl0 hB
  have L := fun i hi => M_isLetter_sp h he (Nat.le_trans hpe he) h23 h21 i hi (l.getD i 0)
  unfold M_isWord
  rw [if_pos h26, if_pos h22, h23, h21, litI 8, nI_add]
  by_cases q : p + 8 < e
  · rw [if_pos (nI_lt q (by omega)), if_neg (fun w => (key.mpr w).1 q)]
  · rw [if_neg (nI_nlt (by omega) (by omega))]
    have goal8 : (∀ i, i < 8 → (if p + i < e then B (p + i) = l.getD i 0 else l.getD i 0 = 0)) ↔ wlB B p e = l := ⟨fun w => key.mp ⟨q, w⟩, fun w => (key.mpr w).2⟩
    have L0 := L 0 (by decide)
    have L1 := L 1 (by decide)
    have L2 := L 2 (by decide)
    have L3 := L 3 (by decide)
    have L4 := L 4 (by decide)
    have L5 := L 5 (by decide)
    have L6 := L 6 (by decide)
    have L7 := L 7 (by decide)
    rw [bnd_of (show M_isLetter 0 (l.getD 0 0) ν = _ from L0), bnd_of (show M_isLetter 1 (l.getD 1 0) ν = _ from L1), bnd_of (show M_isLetter 2 (l.getD 2 0) ν = _ from L2), bnd_of (show M_isLetter 3 (l.getD 3 0) ν = _ from L3), bnd_of (show M_isLetter 4 (l.getD 4 0) ν = _ from L4), bnd_of (show M_isLetter 5 (l.getD 5 0) ν = _ from L5), bnd_of (show M_isLetter 6 (l.getD 6 0) ν = _ from L6), bnd_of (show M_isLetter 7 (l.getD 7 0) ν = _ from L7)]
    rw [chain (chain (chain (chain (chain (chain (chain (chain (P := True) (by simp))))))))]
    congr 1
    have e9 : ((if p + 0 < e then B (p + 0) = l.getD 0 0 else l.getD 0 0 = 0) ∧ (if p + 1 < e then B (p + 1) = l.getD 1 0 else l.getD 1 0 = 0) ∧ (if p + 2 < e then B (p + 2) = l.getD 2 0 else l.getD 2 0 = 0) ∧ (if p + 3 < e then B (p + 3) = l.getD 3 0 else l.getD 3 0 = 0) ∧ (if p + 4 < e then B (p + 4) = l.getD 4 0 else l.getD 4 0 = 0) ∧ (if p + 5 < e then B (p + 5) = l.getD 5 0 else l.getD 5 0 = 0) ∧ (if p + 6 < e then B (p + 6) = l.getD 6 0 else l.getD 6 0 = 0) ∧ (if p + 7 < e then B (p + 7) = l.getD 7 0 else l.getD 7 0 = 0) ∧ True) ↔ wlB B p e = l := by
      rw [← goal8]
      constructor
      · rintro ⟨a0, a1, a2, a3, a4, a5, a6, a7, -⟩ i hi
        match i, hi with
        | 0, _ => exact a0
        | 1, _ => exact a1
        | 2, _ => exact a2
        | 3, _ => exact a3
        | 4, _ => exact a4
        | 5, _ => exact a5
        | 6, _ => exact a6
        | 7, _ => exact a7
      · intro w
        exact ⟨w 0 (by decide), w 1 (by decide), w 2 (by decide), w 3 (by decide), w 4 (by decide), w 5 (by decide), w 6 (by decide), w 7 (by decide), trivial⟩
    by_cases w : wlB B p e = l
    · rw [if_pos w, if_pos (e9.mpr w)]
    · rw [if_neg w, if_neg (fun x => w (e9.mp x))]
theorem M_isWord_no {ν : Mem} (h : rd ν 0 0 26 ≠ 0 ∨ rd ν 0 0 22 ≠ 1) (a b c d e f g i : Int32) : M_isWord a b c d e f g i ν = some 0 := by
  unfold M_isWord
  by_cases h1 : rd ν 0 0 26 = 0
  · rw [if_pos h1, if_neg (h.resolve_left (fun q => q h1))]
  · rw [if_neg h1]
/-- the reference stands at token k, with o open, and no fault yet -/
def MS (B : Nat → Int32) (z t k o : Nat) (ν : Mem) : Prop := TX B z t ν ∧ rd ν 0 0 26 = 0 ∧ rd ν 0 0 25 = nI o ∧ TokM B z (posK B z k) ν
/-- a fault was met at token k -/
def MF (B : Nat → Int32) (z k : Nat) (ν : Mem) : Prop := rd ν 0 0 26 = 1 ∧ rd ν 0 0 27 = nI (posK B z k)
theorem nI_lit_ne {a b : Nat} (ha : a < 2 ^ 31) (hb : b < 2 ^ 31) (h : a ≠ b) : nI a ≠ nI b := fun q => h ((nI_eq ha hb).mp q)
/-- the five sorts of tokens -/
theorem tok_sorts {B : Nat → Int32} {z t k o : Nat} {ν : Mem} (h : MS B z t k o ν) : (tkT B z k = 13 ∧ rd ν 0 0 22 = 0) ∨ (tkT B z k = wordC B (posK B z k) (sp isLe B z (posK B z k)) ∧ posK B z k < z ∧ isLe (B (posK B z k)) = true ∧ rd ν 0 0 22 = 1 ∧ rd ν 0 0 21 = nI (sp isLe B z (posK B z k)) ∧ tokE B z (posK B z k) = sp isLe B z (posK B z k)) ∨
    (tkT B z k = 12 ∧ rd ν 0 0 22 = 2 ∧ rd ν 0 0 21 = nI (tokE B z (posK B z k)) ∧ rdL ν = lN (tkV B z k)) ∨ (isSg (tkT B z k) = true ∧ rd ν 0 0 22 = 3 ∧ rd ν 0 0 21 = nI (tokE B z (posK B z k)) ∧ rdL ν = (tkT B z k).toInt64) ∨ (tkT B z k = 14 ∧ rd ν 0 0 22 = 4) := by
  obtain ⟨-, -, -, -, h⟩ := h
  unfold tkT tokT tkV tokV tokE
  by_cases h1 : z ≤ posK B z k
  · rw [if_pos h1] at h
    exact Or.inl ⟨if_pos h1, h⟩
  · simp only [if_neg h1] at h ⊢
    by_cases h2 : isLe (B (posK B z k)) = true
    · simp only [if_pos h2] at h ⊢
      exact Or.inr (Or.inl ⟨trivial, by omega, h2, h.1, h.2, trivial⟩)
    · simp only [if_neg h2] at h ⊢
      by_cases h3 : isDi (B (posK B z k)) = true
      · simp only [if_pos h3] at h ⊢
        by_cases h4 : 4 < sp isDi B z (posK B z k) - posK B z k
        · simp only [if_pos h4] at h ⊢
          exact Or.inr (Or.inr (Or.inr (Or.inr ⟨trivial, h⟩)))
        · simp only [if_neg h4] at h ⊢
          exact Or.inr (Or.inr (Or.inl ⟨trivial, h.1, h.2.1, h.2.2⟩))
      · simp only [if_neg h3] at h ⊢
        by_cases h4 : isSg (B (posK B z k)) = true
        · simp only [if_pos h4] at h ⊢
          exact Or.inr (Or.inr (Or.inr (Or.inl ⟨h4, h.1, h.2.1, h.2.2⟩)))
        · simp only [if_neg h4] at h ⊢
          exact Or.inr (Or.inr (Or.inr (Or.inr ⟨trivial, h⟩)))
theorem wordC_nsg (B : Nat → Int32) (s e : Nat) {c : Int32} (hc : isSg c = true) : wordC B s e ≠ c := by
  intro q
  rcases wordC_in B s e with ⟨v, hv, ev⟩ | ev
  · rw [ev] at q
    have key : ∀ v, v < 12 → isSg (nI v) = false := by decide +kernel
    rw [← q, key v hv] at hc
    cases hc
  · rw [ev] at q
    rw [← q] at hc
    exact absurd hc (by decide)
theorem lg_cmp0 (x y : Int64) : (lg_cmp x y = 0) ↔ x = y := by
  unfold lg_cmp
  by_cases h1 : x > y
  · rw [if_pos h1]
    exact ⟨fun q => absurd q (by decide), fun q => absurd h1 (by rw [q]; exact Int64.lt_irrefl)⟩
  · rw [if_neg h1]
    by_cases h2 : x = y
    · rw [if_pos h2]; exact ⟨fun _ => h2, fun _ => rfl⟩
    · rw [if_neg h2]; exact ⟨fun q => absurd q (by decide), fun q => absurd q h2⟩
theorem i64_inj {a b : Int32} : a.toInt64 = b.toInt64 ↔ a = b := by
  constructor
  · intro h
    have := congrArg Int64.toInt32 h
    rwa [Int32.toInt32_toInt64, Int32.toInt32_toInt64] at this
  · intro h; rw [h]
theorem M_isSign_sp {B : Nat → Int32} {z t k o : Nat} {ν : Mem} (h : MS B z t k o ν) {c : Int32} (hc : isSg c = true) : M_isSign c ν = if tkT B z k = c then 1 else 0 := by
  have hne : ∀ x : Int32, isSg x = false → x ≠ c := fun x hx q => by rw [q, hc] at hx; cases hx
  unfold M_isSign
  rw [if_pos h.2.1]
  rcases tok_sorts h with ⟨h1, h2⟩ | ⟨h1, -, -, h2, -, -⟩ | ⟨h1, h2, -⟩ | ⟨h1, h2, h3, h4⟩ | ⟨h1, h2⟩
  · rw [h2, if_neg (by decide), h1, if_neg (hne 13 (by decide))]
  · rw [h2, if_neg (by decide), h1, if_neg (wordC_nsg B _ _ hc)]
  · rw [h2, if_neg (by decide), h1, if_neg (hne 12 (by decide))]
  · rw [if_pos h2, h4]
    simp only [lg_cmp0, i64_inj]
  · rw [h2, if_neg (by decide), h1, if_neg (hne 14 (by decide))]
theorem M_isSign_no {ν : Mem} (h : rd ν 0 0 26 ≠ 0) (c : Int32) : M_isSign c ν = 0 := by
  unfold M_isSign
  rw [if_neg h]
theorem isLe_ne0 {b : Int32} (h : isLe b = true) : b ≠ 0 := by
  intro q
  rw [q] at h
  exact absurd h (by decide)
/-- a word of the language at hand: by its letters (the class's place v of it) -/
theorem M_isWord_ms {B : Nat → Int32} {z t k o v : Nat} {ν : Mem} (h : MS B z t k o ν) (hv : v < 12) {a b c d e f g i : Int32} (hw : [a, b, c, d, e, f, g, i] = (List.range 8).map (fun j => (bytJS.getD (v + 1) []).getD j 0)) : M_isWord a b c d e f g i ν = some (if tkT B z k = nI v then 1 else 0) := by
  have hne : ∀ n : Nat, 12 ≤ n → n < 100 → nI n ≠ nI v := fun n h1 h2 => nI_lit_ne (by omega) (by omega) (by omega)
  rcases tok_sorts h with ⟨h1, h2⟩ | ⟨h1, hpz, hle, h2, h3, -⟩ | ⟨h1, h2, -⟩ | ⟨h1, h2, -, -⟩ | ⟨h1, h2⟩
  · rw [M_isWord_no (Or.inr (by rw [h2]; decide)), h1, if_neg (show ¬ (13 : Int32) = nI v from hne 13 (by decide) (by decide))]
  · have hl : ∀ w, w < 12 → (bytJS.getD (w + 1) []).length ≤ 7 ∧ ∀ x ∈ bytJS.getD (w + 1) [], x ≠ 0 := by decide +kernel
    obtain ⟨l1, l2⟩ := hl v hv
    have key := M_isWord_sp h.1 (sp_le (P := isLe) (B := B) (Nat.le_of_lt hpz)) (sp_ge _ _ _ _) h.2.2.2.1 h3 h.2.1 h2 (fun i g1 g2 => isLe_ne0 (sp_all g1 g2)) l1 l2
    simp only [List.range, List.range.loop, List.map_cons, List.map_nil, List.cons.injEq, and_true] at hw
    obtain ⟨rfl, rfl, rfl, rfl, rfl, rfl, rfl, rfl⟩ := hw
    rw [key, h1]
    congr 1
    have := wordC_iff (B := B) (s := posK B z k) (e := sp isLe B z (posK B z k)) hv
    unfold isW at this
    rw [decide_eq_true_iff] at this
    by_cases q : wlB B (posK B z k) (sp isLe B z (posK B z k)) = bytJS.getD (v + 1) []
    · rw [if_pos q, if_pos (this.mpr q)]
    · rw [if_neg q, if_neg (fun w => q (this.mp w))]
  · rw [M_isWord_no (Or.inr (by rw [h2]; decide)), h1, if_neg (show ¬ (12 : Int32) = nI v from hne 12 (by decide) (by decide))]
  · have : tkT B z k ≠ nI v := by
      intro q
      have key : ∀ v, v < 12 → isSg (nI v) = false := by decide +kernel
      rw [q, key v hv] at h1
      cases h1
    rw [M_isWord_no (Or.inr (by rw [h2]; decide)), if_neg this]
  · rw [M_isWord_no (Or.inr (by rw [h2]; decide)), h1, if_neg (show ¬ (14 : Int32) = nI v from hne 14 (by decide) (by decide))]
theorem M_next_ms {B : Nat → Int32} {z t k o : Nat} {ν : Mem} (h : MS B z t k o ν) (hg : goodT B z k) : ∃ ν', M_next ν = some ν' ∧ MS B z t (k + 1) o ν' ∧ NX [21, 22, 23] ν ν' := by
  have hz := h.1.2.1
  have h21 : rd ν 0 0 21 = nI (tokE B z (posK B z k)) := by
    rcases tok_sorts h with ⟨h1, h2⟩ | ⟨h1, -, -, h2, h3, h4⟩ | ⟨h1, h2, h3, -⟩ | ⟨h1, h2, h3, h4⟩ | ⟨h1, h2⟩
    · exact absurd h1 hg.1
    · rw [h4]; exact h3
    · exact h3
    · exact h3
    · exact absurd h1 hg.2
  have hle : tokE B z (posK B z k) ≤ z := tokE_le (posK_le B z k)
  obtain ⟨ν', r1, r2, r3⟩ := M_next_sp (B := B) (z := z) (t := t) (z - tokE B z (posK B z k)) (tokE B z (posK B z k)) 1000 rfl (by omega) hle h.1 h21
  exact ⟨ν', r1, ⟨h.1.nx r2 (by decide) (by decide), by rw [r2.2 26 (by decide)]; exact h.2.1, by rw [r2.2 25 (by decide)]; exact h.2.2.1, r3⟩, r2⟩
theorem M_fail_ms {B : Nat → Int32} {z t k o : Nat} {ν : Mem} (h : MS B z t k o ν) : MF B z k (M_fail ν) ∧ NX [26, 27] ν (M_fail ν) := by
  have e : M_fail ν = up (up ν 0 0 26 1) 0 0 27 (nI (posK B z k)) := by
    unfold M_fail
    rw [if_pos h.2.1]
    simp only [nm_eq]
    rw [rd_up_j (by decide), h.2.2.2.1]
  rw [e]
  exact ⟨⟨by rw [rd_up_j (by decide), rd_up_s], rd_up_s _ _ _ _ _⟩, (NX.rf.wr' (by decide)).wr' (by decide)⟩
theorem M_fail_mf {B : Nat → Int32} {z k : Nat} {ν : Mem} (h : MF B z k ν) : M_fail ν = ν := by
  unfold M_fail
  rw [if_neg (by rw [h.1]; decide)]
theorem M_opens_ms {B : Nat → Int32} {z t k o : Nat} {ν : Mem} (h : MS B z t k o ν) (hg : goodT B z k) (ho : o ≤ 5) : (o = 5 ∧ ∃ ν', M_opens ν = some (0, ν') ∧ MF B z k ν' ∧ NX [26, 27] ν ν') ∨ (o < 5 ∧ ∃ ν', M_opens ν = some (1, ν') ∧ MS B z t (k + 1) (o + 1) ν' ∧ NX [21, 22, 23, 25] ν ν') := by
  unfold M_opens
  rw [h.2.2.1]
  by_cases q : o = 5
  · subst q
    rw [if_pos (show nI 5 = 5 from rfl)]
    exact Or.inl ⟨rfl, _, rfl, M_fail_ms h⟩
  · rw [if_neg (show ¬ nI o = 5 from nI_lit_ne (a := o) (b := 5) (by omega) (by omega) q)]
    simp only [nm_eq]
    rw [nI_1]
    have n1 : NX [25] ν (up ν 0 0 25 (nI (o + 1))) := NX.wr (by decide)
    have h1 : MS B z t k (o + 1) (up ν 0 0 25 (nI (o + 1))) := by
      refine ⟨h.1.nx n1 (by decide) (by decide), by rw [n1.2 26 (by decide)]; exact h.2.1, rd_up_s _ _ _ _ _, ?_⟩
      unfold TokM
      rw [n1.2 23 (by decide), n1.2 22 (by decide), n1.2 21 (by decide), rdL_up]
      exact h.2.2.2
    obtain ⟨ν', r1, r2, r3⟩ := M_next_ms h1 hg
    refine Or.inr ⟨by omega, ν', by rw [bnd_of r1], r2, (n1.mono (by decide)).tr (r3.mono (by decide))⟩
