/-! ===== the tape cut into tokens: the plain function ===== -/
def isBl (b : Int32) : Bool := decide (b = 32) || decide (b = 10)
def isLe (b : Int32) : Bool := !decide (b < 97) && !decide (122 < b)
def isDi (b : Int32) : Bool := !decide (b < 48) && !decide (57 < b)
def isSg (b : Int32) : Bool := decide (b = 40) || decide (b = 41) || decide (b = 42) || decide (b = 43) || decide (b = 45) || decide (b = 59) || decide (b = 60) || decide (b = 61)
def spF (P : Int32 → Bool) (B : Nat → Int32) (z : Nat) : Nat → Nat → Nat
  | 0, p => p
  | k + 1, p => if p < z ∧ P (B p) = true then spF P B z k (p + 1) else p
def sp (P : Int32 → Bool) (B : Nat → Int32) (z p : Nat) : Nat := spF P B z (z - p) p
theorem sp_yes {P : Int32 → Bool} {B : Nat → Int32} {z p : Nat} (h : p < z) (hp : P (B p) = true) : sp P B z p = sp P B z (p + 1) := by
  unfold sp
  rw [show z - p = (z - (p + 1)) + 1 by omega, spF, if_pos ⟨h, hp⟩]
theorem sp_no {P : Int32 → Bool} {B : Nat → Int32} {z p : Nat} (h : ¬ (p < z ∧ P (B p) = true)) : sp P B z p = p := by
  unfold sp
  cases hk : z - p with
  | zero => rfl
  | succ k => rw [spF, if_neg h]
theorem spF_ge (P : Int32 → Bool) (B : Nat → Int32) (z : Nat) : ∀ k p, p ≤ spF P B z k p
  | 0, p => Nat.le_refl p
  | k + 1, p => by
    rw [spF]
    split
    · exact Nat.le_trans (Nat.le_succ p) (spF_ge P B z k (p + 1))
    · exact Nat.le_refl p
theorem spF_le (P : Int32 → Bool) (B : Nat → Int32) (z : Nat) : ∀ k p, p ≤ z → spF P B z k p ≤ z
  | 0, p, h => h
  | k + 1, p, h => by
    rw [spF]
    split
    · exact spF_le P B z k (p + 1) (by omega)
    · exact h
theorem sp_ge (P : Int32 → Bool) (B : Nat → Int32) (z p : Nat) : p ≤ sp P B z p := spF_ge P B z _ p
theorem sp_le {P : Int32 → Bool} {B : Nat → Int32} {z p : Nat} (h : p ≤ z) : sp P B z p ≤ z := spF_le P B z _ p h
theorem spF_all (P : Int32 → Bool) (B : Nat → Int32) (z : Nat) : ∀ k p i, p ≤ i → i < spF P B z k p → P (B i) = true
  | 0, p, i, h1, h2 => by rw [spF] at h2; omega
  | k + 1, p, i, h1, h2 => by
    rw [spF] at h2
    split at h2
    · rename_i h
      rcases Nat.eq_or_lt_of_le h1 with e | e
      · rw [← e]; exact h.2
      · exact spF_all P B z k (p + 1) i e h2
    · omega
theorem sp_all {P : Int32 → Bool} {B : Nat → Int32} {z p i : Nat} (h1 : p ≤ i) (h2 : i < sp P B z p) : P (B i) = true := spF_all P B z _ p i h1 h2
theorem spF_end (P : Int32 → Bool) (B : Nat → Int32) (z : Nat) : ∀ k p, z - p ≤ k → ¬ (spF P B z k p < z ∧ P (B (spF P B z k p)) = true)
  | 0, p, h => by rw [spF]; omega
  | k + 1, p, h => by
    rw [spF]
    split
    · exact spF_end P B z k (p + 1) (by omega)
    · assumption
theorem sp_end (P : Int32 → Bool) (B : Nat → Int32) (z p : Nat) : ¬ (sp P B z p < z ∧ P (B (sp P B z p)) = true) := spF_end P B z _ p (Nat.le_refl _)
/-- a function of bytes counts on what lies ahead of the size alone -/
theorem spF_cong {P : Int32 → Bool} {B B' : Nat → Int32} {z : Nat} (h : ∀ i, i < z → B i = B' i) : ∀ k p, spF P B z k p = spF P B' z k p
  | 0, _ => rfl
  | k + 1, p => by
    rw [spF, spF]
    by_cases hp : p < z
    · rw [h p hp, spF_cong h k (p + 1)]
    · rw [if_neg (fun q => hp q.1), if_neg (fun q => hp q.1)]
/-- the letters from s to e -/
def wlB (B : Nat → Int32) (s e : Nat) : List Int32 := (List.range (e - s)).map (fun i => B (s + i))
def isW (B : Nat → Int32) (s e k : Nat) : Bool := decide (wlB B s e = bytJS.getD k [])
def wordF (B : Nat → Int32) (s e : Nat) : Nat → Nat → Int32
  | 0, _ => 14
  | k + 1, w => if isW B s e (w + 1) = true then nI w else wordF B s e k (w + 1)
def wordC (B : Nat → Int32) (s e : Nat) : Int32 := wordF B s e 12 0
theorem isW_one {B : Nat → Int32} {s e k k' : Nat} (hk : k < 13) (hk' : k' < 13) (h : isW B s e k = true) (h' : isW B s e k' = true) : k = k' := by
  have h1 := of_decide_eq_true h
  have h2 := of_decide_eq_true h'
  have key : ∀ a, a < 13 → ∀ b, b < 13 → bytJS.getD a [] = bytJS.getD b [] → a = b := by decide +kernel
  exact key k hk k' hk' (h1.symm.trans h2)
theorem wordF_spec (B : Nat → Int32) (s e : Nat) : ∀ k w, (∃ v, w ≤ v ∧ v < w + k ∧ isW B s e (v + 1) = true ∧ wordF B s e k w = nI v) ∨ ((∀ v, w ≤ v → v < w + k → isW B s e (v + 1) = false) ∧ wordF B s e k w = 14)
  | 0, w => Or.inr ⟨fun v h1 h2 => by omega, rfl⟩
  | k + 1, w => by
    rw [wordF]
    by_cases h : isW B s e (w + 1) = true
    · rw [if_pos h]
      exact Or.inl ⟨w, Nat.le_refl _, by omega, h, rfl⟩
    · rw [if_neg h]
      rcases wordF_spec B s e k (w + 1) with ⟨v, h1, h2, h3, h4⟩ | ⟨h1, h2⟩
      · exact Or.inl ⟨v, by omega, by omega, h3, h4⟩
      · refine Or.inr ⟨fun v g1 g2 => ?_, h2⟩
        rcases Nat.eq_or_lt_of_le g1 with q | q
        · rw [← q]; simpa using h
        · exact h1 v q (by omega)
/-- a word's code tells which it is -/
theorem wordC_iff {B : Nat → Int32} {s e v : Nat} (hv : v < 12) : wordC B s e = nI v ↔ isW B s e (v + 1) = true := by
  rcases wordF_spec B s e 12 0 with ⟨u, h1, h2, h3, h4⟩ | ⟨h1, h2⟩
  · rw [wordC, h4, nI_eq (by omega) (by omega)]
    constructor
    · intro q; rw [← q]; exact h3
    · intro q
      have := isW_one (by omega) (by omega) h3 q
      omega
  · rw [wordC, h2]
    constructor
    · intro q
      have : (14 : Int32) = nI 14 := rfl
      rw [this, nI_eq (by omega) (by omega)] at q
      omega
    · intro q
      rw [h1 v (by omega) (by omega)] at q
      cases q
theorem wordC_in (B : Nat → Int32) (s e : Nat) : (∃ v, v < 12 ∧ wordC B s e = nI v) ∨ wordC B s e = nI 14 := by
  rcases wordF_spec B s e 12 0 with ⟨u, h1, h2, h3, h4⟩ | ⟨h1, h2⟩
  · exact Or.inl ⟨u, by omega, h4⟩
  · exact Or.inr h2
/-- the number that k digits from p on spell, behind a -/
def numA (B : Nat → Int32) : Nat → Nat → Nat → Nat
  | 0, _, a => a
  | k + 1, p, a => numA B k (p + 1) (10 * a + (ix (B p) - 48))
/-- what token begins at p: its code, its number, where it ends -/
def tokT (B : Nat → Int32) (z p : Nat) : Int32 :=
  if z ≤ p then 13 else if isLe (B p) = true then wordC B p (sp isLe B z p)
  else if isDi (B p) = true then (if 4 < sp isDi B z p - p then 14 else 12)
  else if isSg (B p) = true then B p else 14
def tokV (B : Nat → Int32) (z p : Nat) : Nat := if z ≤ p then 0 else if isLe (B p) = true then 0 else if isDi (B p) = true then numA B (sp isDi B z p - p) p 0 else 0
def tokE (B : Nat → Int32) (z p : Nat) : Nat := if z ≤ p then p else if isLe (B p) = true then sp isLe B z p else if isDi (B p) = true then sp isDi B z p else p + 1
def sttK (B : Nat → Int32) (z : Nat) : Nat → Nat
  | 0 => 0
  | k + 1 => tokE B z (sp isBl B z (sttK B z k))
def posK (B : Nat → Int32) (z k : Nat) : Nat := sp isBl B z (sttK B z k)
def tkT (B : Nat → Int32) (z k : Nat) : Int32 := tokT B z (posK B z k)
def tkV (B : Nat → Int32) (z k : Nat) : Nat := tokV B z (posK B z k)
def goodT (B : Nat → Int32) (z k : Nat) : Prop := tkT B z k ≠ 13 ∧ tkT B z k ≠ 14
theorem tokE_gt {B : Nat → Int32} {z p : Nat} (h : p < z) : p < tokE B z p ∧ tokE B z p ≤ z := by
  unfold tokE
  rw [if_neg (by omega)]
  by_cases h1 : isLe (B p) = true
  · rw [if_pos h1, sp_yes h h1]
    exact ⟨sp_ge _ _ _ _, sp_le (by omega)⟩
  · rw [if_neg h1]
    by_cases h2 : isDi (B p) = true
    · rw [if_pos h2, sp_yes h h2]
      exact ⟨sp_ge _ _ _ _, sp_le (by omega)⟩
    · rw [if_neg h2]
      omega
theorem tokE_le {B : Nat → Int32} {z p : Nat} (h : p ≤ z) : tokE B z p ≤ z := by
  rcases Nat.eq_or_lt_of_le h with e | e
  · unfold tokE; rw [if_pos (by omega)]; exact h
  · exact (tokE_gt e).2
theorem sttK_le (B : Nat → Int32) (z : Nat) : ∀ k, sttK B z k ≤ z
  | 0 => Nat.zero_le _
  | k + 1 => tokE_le (sp_le (sttK_le B z k))
theorem posK_le (B : Nat → Int32) (z k : Nat) : posK B z k ≤ z := sp_le (sttK_le B z k)
theorem tkT_end {B : Nat → Int32} {z k : Nat} (h : z ≤ posK B z k) : tkT B z k = 13 := by unfold tkT tokT; rw [if_pos h]
theorem good_lt {B : Nat → Int32} {z k : Nat} (h : goodT B z k) : posK B z k < z := by
  rcases Nat.lt_or_ge (posK B z k) z with q | q
  · exact q
  · exact absurd (tkT_end q) h.1
theorem posK_grow {B : Nat → Int32} {z : Nat} : ∀ k, (∀ i, i < k → goodT B z i) → k ≤ sttK B z k
  | 0, _ => Nat.zero_le _
  | k + 1, h => by
    have h1 := posK_grow k (fun i hi => h i (by omega))
    have h2 := good_lt (h k (by omega))
    have h3 := (tokE_gt (B := B) h2).1
    have h4 := sp_ge isBl B z (sttK B z k)
    show k + 1 ≤ tokE B z (posK B z k)
    have h5 : sp isBl B z (sttK B z k) = posK B z k := rfl
    omega
theorem good_count {B : Nat → Int32} {z k : Nat} (h : ∀ i, i < k → goodT B z i) : k ≤ z := Nat.le_trans (posK_grow k h) (sttK_le B z k)
theorem tokT_cong {B B' : Nat → Int32} {z : Nat} (h : ∀ i, i < z → B i = B' i) {p : Nat} : tokT B z p = tokT B' z p ∧ tokV B z p = tokV B' z p ∧ tokE B z p = tokE B' z p := by
  have hsp : ∀ P p, sp P B z p = sp P B' z p := fun P p => spF_cong h _ _
  by_cases hp : z ≤ p
  · simp only [tokT, tokV, tokE, if_pos hp, and_self]
  · have hb := h p (by omega)
    have hw : ∀ P, ∀ i, i < sp P B' z p - p → B (p + i) = B' (p + i) := fun P i hi => h _ (by have := sp_le (P := P) (B := B') (show p ≤ z by omega); omega)
    have hwl : ∀ P, wlB B p (sp P B' z p) = wlB B' p (sp P B' z p) := fun P => by
      unfold wlB
      exact List.map_congr_left fun i hi => hw P i (List.mem_range.mp hi)
    have hF : ∀ k w, wordF B p (sp isLe B' z p) k w = wordF B' p (sp isLe B' z p) k w := by
      intro k
      induction k with
      | zero => intro w; rfl
      | succ k ih => intro w; rw [wordF, wordF, ih (w + 1)]; unfold isW; rw [hwl isLe]
    have hN : ∀ k q a, q + k ≤ z → numA B k q a = numA B' k q a := by
      intro k
      induction k with
      | zero => intro q a _; rfl
      | succ k ih => intro q a hq; rw [numA, numA, h q (by omega)]; exact ih _ _ (by omega)
    refine ⟨?_, ?_, ?_⟩
    · simp only [tokT, hb, hsp, wordC, hF]
    · simp only [tokV, hb, hsp]
      rw [hN]
      have h1 := sp_le (P := isDi) (B := B') (show p ≤ z by omega)
      have h2 := sp_ge isDi B' z p
      omega
    · simp only [tokE, hb, hsp]
theorem sttK_cong {B B' : Nat → Int32} {z : Nat} (h : ∀ i, i < z → B i = B' i) : ∀ k, sttK B z k = sttK B' z k
  | 0 => rfl
  | k + 1 => by
    show tokE B z (sp isBl B z (sttK B z k)) = tokE B' z (sp isBl B' z (sttK B' z k))
    rw [sttK_cong h k, (tokT_cong h).2.2]
    show tokE B' z (spF _ B _ _ _) = tokE B' z (spF _ B' _ _ _)
    rw [spF_cong h]
theorem tk_cong {B B' : Nat → Int32} {z : Nat} (h : ∀ i, i < z → B i = B' i) (k : Nat) : posK B z k = posK B' z k ∧ tkT B z k = tkT B' z k ∧ tkV B z k = tkV B' z k := by
  have e : posK B z k = posK B' z k := by
    show spF _ B _ _ _ = spF _ B' _ _ _
    rw [sttK_cong h k, spF_cong h]
  refine ⟨e, ?_, ?_⟩
  · unfold tkT; rw [e, (tokT_cong h).1]
  · unfold tkV; rw [e, (tokT_cong h).2.1]
/-! ===== the class cuts so ===== -/
theorem up_same {μ : Mem} {f i j : Nat} {v : Int32} (h : rd μ f i j = v) : up μ f i j v = μ := by
  refine Prod.ext (funext fun f' => funext fun i' => funext fun j' => ?_) rfl
  show (if f' = f ∧ i' = i ∧ j' = j then v else μ.1 f' i' j') = μ.1 f' i' j'
  split
  · rename_i q
    obtain ⟨rfl, rfl, rfl⟩ := q
    exact h.symm
  · rfl
theorem up_up (μ : Mem) (f i j : Nat) (v w : Int32) : up (up μ f i j v) f i j w = up μ f i j w := by
  refine Prod.ext (funext fun f' => funext fun i' => funext fun j' => ?_) rfl
  show (if f' = f ∧ i' = i ∧ j' = j then w else (if f' = f ∧ i' = i ∧ j' = j then v else μ.1 f' i' j')) = (if f' = f ∧ i' = i ∧ j' = j then w else μ.1 f' i' j')
  split
  · rfl
  · rfl
theorem up_comm (μ : Mem) {f i j f2 i2 j2 : Nat} (v w : Int32) (h : f ≠ f2) : up (up μ f i j v) f2 i2 j2 w = up (up μ f2 i2 j2 w) f i j v := by
  refine Prod.ext (funext fun f' => funext fun i' => funext fun j' => ?_) rfl
  show (if f' = f2 ∧ i' = i2 ∧ j' = j2 then w else (if f' = f ∧ i' = i ∧ j' = j then v else μ.1 f' i' j')) = (if f' = f ∧ i' = i ∧ j' = j then v else (if f' = f2 ∧ i' = i2 ∧ j' = j2 then w else μ.1 f' i' j'))
  by_cases h1 : f' = f ∧ i' = i ∧ j' = j
  · rw [if_pos h1, if_pos h1, if_neg (fun q => h (h1.1.symm.trans q.1))]
  · rw [if_neg h1, if_neg h1]
/-- the tape holds z bytes B -/
def TapeA (B : Nat → Int32) (z : Nat) (μ : Mem) : Prop := z ≤ 160 ∧ rd μ 10 0 1 = nI z ∧ ∀ i, i < z → rd μ 11 0 i = B i
theorem TapeA.up {B : Nat → Int32} {z : Nat} {μ : Mem} (h : TapeA B z μ) {f i j : Nat} {v : Int32} (h1 : f ≠ 11) (h2 : ¬ (f = 10 ∧ j = 1)) : TapeA B z (up μ f i j v) := by
  refine ⟨h.1, ?_, fun q hq => ?_⟩
  · rw [rd_up, if_neg (fun q => h2 ⟨q.1.symm, q.2.2.symm⟩)]; exact h.2.1
  · rw [rd_up_f (fun q => h1 q.symm)]; exact h.2.2 q hq
theorem TapeA.at {B : Nat → Int32} {z p : Nat} {μ : Mem} (h : TapeA B z μ) (hp : p < z) : rd μ 11 0 (ix (nI p)) = B p := by
  have hz := h.1
  rw [ix_nI (by omega)]
  exact h.2.2 p hp
theorem Ta_isLetter_sp {B : Nat → Int32} {z p : Nat} {μ : Mem} (h : TapeA B z μ) (hp : p < z) : Ta_isLetter (nI p) μ = some (if isLe (B p) = true then 1 else 0) := by
  have hz := h.1
  unfold Ta_isLetter isLe
  rw [chk_eq _ (inb_nI (by omega) (by omega))]
  simp only [h.at hp]
  by_cases h1 : B p < 97
  · simp [h1]
  · rw [if_neg h1, chk_eq _ (inb_nI (by omega) (by omega))]
    by_cases h2 : 122 < B p <;> simp [h1, h2]
theorem Ta_isDigit_sp {B : Nat → Int32} {z p : Nat} {μ : Mem} (h : TapeA B z μ) (hp : p < z) : Ta_isDigit (nI p) μ = some (if isDi (B p) = true then 1 else 0) := by
  have hz := h.1
  unfold Ta_isDigit isDi
  rw [chk_eq _ (inb_nI (by omega) (by omega))]
  simp only [h.at hp]
  by_cases h1 : B p < 48
  · simp [h1]
  · rw [if_neg h1, chk_eq _ (inb_nI (by omega) (by omega))]
    by_cases h2 : 57 < B p <;> simp [h1, h2]
theorem Ta_signAt_sp {B : Nat → Int32} {z p : Nat} {μ : Mem} (h : TapeA B z μ) (hp : p < z) : Ta_signAt (nI p) μ = some (if isSg (B p) = true then B p else 14) := by
  have hz := h.1
  have e : Ta_signAt_108 (nI p) μ = some (B p) := by
    unfold Ta_signAt_108
    rw [chk_eq _ (inb_nI (by omega) (by omega)), h.at hp]
  unfold Ta_signAt isSg
  rw [chk_eq _ (inb_nI (by omega) (by omega)), ix_nI (by omega), h.2.2 p hp, e]
  by_cases h1 : B p = 40 <;> by_cases h2 : B p = 41 <;> by_cases h3 : B p = 42 <;> by_cases h4 : B p = 43 <;> by_cases h5 : B p = 45 <;> by_cases h6 : B p = 59 <;> by_cases h7 : B p = 60 <;> by_cases h8 : B p = 61 <;> simp [h1, h2, h3, h4, h5, h6, h7, h8]
theorem Ta_passBlanks_sp {B : Nat → Int32} {z : Nat} : ∀ (k p F : Nat) {μ : Mem}, z - p = k → k < F → p ≤ z → TapeA B z μ → rd μ 10 0 5 = nI p → Ta_passBlanks_0L F μ = some (up μ 10 0 5 (nI (sp isBl B z p))) := by
  intro k
  induction k with
  | zero =>
    intro p F μ hk hF hp h hn
    obtain ⟨F, rfl⟩ : ∃ F', F = F' + 1 := ⟨F - 1, by omega⟩
    have hz := h.1
    show Ta_passBlanks_0 _ _ = _
    rw [Ta_passBlanks_0, hn, h.2.1, if_neg (nI_nlt (by omega) (by omega)), sp_no (fun q => by omega), up_same hn]
  | succ k ih =>
    intro p F μ hk hF hp h hn
    obtain ⟨F, rfl⟩ : ∃ F', F = F' + 1 := ⟨F - 1, by omega⟩
    have hz := h.1
    have step : isBl (B p) = true → Ta_passBlanks_39 (Ta_passBlanks_0L F) μ = some (up μ 10 0 5 (nI (sp isBl B z p))) := by
      intro hb
      unfold Ta_passBlanks_39
      rw [nm_eq, hn, nI_1, ih (p + 1) F (by omega) (by omega) (by omega) (h.up (by decide) (by decide)) (rd_up_s _ _ _ _ _), up_up, sp_yes (by omega) hb]
    show Ta_passBlanks_0 _ _ = _
    rw [Ta_passBlanks_0, hn, h.2.1, if_pos (nI_lt (by omega) (by omega)), chk_eq _ (inb_nI (by omega) (by omega))]
    simp only [h.at (show p < z by omega)]
    by_cases h1 : B p = 32
    · rw [if_pos h1]
      exact step (by simp [isBl, h1])
    · rw [if_neg h1, chk_eq _ (inb_nI (by omega) (by omega))]
      by_cases h2 : B p = 10
      · rw [if_pos h2]
        exact step (by simp [isBl, h2])
      · rw [if_neg h2, sp_no (by simp [isBl, h1, h2]), up_same hn]
