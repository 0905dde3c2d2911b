/-! ===== the class's cutting of the tape ===== -/
theorem slen_nI {k : Nat} : slen k = nI (lenJS.getD k 0) := rfl
theorem len_byt : ∀ k, k < 13 → lenJS.getD k 0 = (bytJS.getD k []).length ∧ lenJS.getD k 0 ≤ 41 := by decide +kernel
theorem wlB_len (B : Nat → Int32) (s e : Nat) : (wlB B s e).length = e - s := by simp [wlB]
theorem wlB_get {B : Nat → Int32} {s e i : Nat} (h : i < e - s) : (wlB B s e)[i]? = some (B (s + i)) := by simp [wlB, h]
theorem isW_iff {B : Nat → Int32} {s e k : Nat} (hk : k < 13) : isW B s e k = true ↔ (e - s = lenJS.getD k 0 ∧ ∀ i, i < lenJS.getD k 0 → schr k i = B (s + i)) := by
  obtain ⟨hl, -⟩ := len_byt k hk
  unfold isW
  rw [decide_eq_true_iff]
  constructor
  · intro h
    have h1 : e - s = lenJS.getD k 0 := by rw [hl, ← h, wlB_len]
    refine ⟨h1, fun i hi => ?_⟩
    have h2 := wlB_get (B := B) (s := s) (e := e) (i := i) (by omega)
    rw [h] at h2
    unfold schr
    rw [List.getD_eq_getElem?_getD, h2]
    rfl
  · rintro ⟨h1, h2⟩
    apply List.ext_getElem?
    intro i
    by_cases hi : i < e - s
    · rw [wlB_get hi]
      have h3 := h2 i (by omega)
      unfold schr at h3
      rw [List.getD_eq_getElem?_getD] at h3
      rw [List.getElem?_eq_getElem (show i < (bytJS.getD k []).length by omega)] at h3 ⊢
      simp only [Option.getD_some] at h3
      rw [h3]
    · rw [List.getElem?_eq_none (by rw [wlB_len]; omega), List.getElem?_eq_none (by omega)]
theorem Ta_isSpelled_sp {B : Nat → Int32} {z s e k : Nat} {μ : Mem} (h : TapeA B z μ) (hk : k < 13) (hse : s ≤ e) (hez : e ≤ z) (hn : rd μ 10 0 5 = nI e) : Ta_isSpelled (nI s) k μ = some (if isW B s e k = true then 1 else 0) := by
  obtain ⟨hl, hl2⟩ := len_byt k hk
  have hz := h.1
  have key : ∀ d i F : Nat, i + d = lenJS.getD k 0 → d < F → e - s = lenJS.getD k 0 → (∀ q, q < i → schr k q = B (s + q)) → Ta_isSpelled_17L F (nI s) k (nI i) μ = some (if isW B s e k = true then 1 else 0) := by
    intro d
    induction d with
    | zero =>
      intro i F hi hF hls hq
      obtain ⟨F, rfl⟩ : ∃ F', F = F' + 1 := ⟨F - 1, by omega⟩
      show Ta_isSpelled_17 _ _ _ _ _ = _
      rw [Ta_isSpelled_17, slen_nI, if_neg (nI_nlt (by omega) (by omega)), if_pos ((isW_iff hk).mpr ⟨hls, fun q h1 => hq q (by omega)⟩)]
    | succ d ih =>
      intro i F hi hF hls hq
      obtain ⟨F, rfl⟩ : ∃ F', F = F' + 1 := ⟨F - 1, by omega⟩
      show Ta_isSpelled_17 _ _ _ _ _ = _
      rw [Ta_isSpelled_17, slen_nI, if_pos (nI_lt (by omega) (by omega)), chk_eq _ (inb_nI (by omega) (by omega)), nI_add, chk_eq _ (inb_nI (by omega) (by omega))]
      simp only [h.at (show s + i < z by omega), ix_nI (show i < 2 ^ 31 by omega)]
      by_cases hc : schr k i = B (s + i)
      · rw [if_pos hc]
        simp only [nm_eq]
        rw [nI_1]
        refine ih (i + 1) F (by omega) (by omega) hls (fun q h1 => ?_)
        rcases Nat.lt_or_ge q i with h2 | h2
        · exact hq q h2
        · have : q = i := by omega
          rw [this]; exact hc
      · rw [if_neg hc, if_neg (fun q => hc (((isW_iff hk).mp q).2 i (by omega)))]
  unfold Ta_isSpelled
  rw [slen_nI, hn, nI_sub' hse]
  simp only [nI_eq' (show lenJS.getD k 0 < 2 ^ 31 by omega) (show e - s < 2 ^ 31 by omega)]
  by_cases hc : lenJS.getD k 0 = e - s
  · rw [if_pos hc]
    exact key (lenJS.getD k 0) 0 1000 (by omega) (by omega) hc.symm (fun q hq => by omega)
  · rw [if_neg hc, if_neg (fun q => hc ((isW_iff hk).mp q).1.symm)]
theorem Ta_spelling_sp : ∀ w, w < 12 → Ta_spelling (nI w) = w + 1 := by decide +kernel
theorem Ta_cutWord_42_sp {B : Nat → Int32} {z s e : Nat} {μ : Mem} (h : TapeA B z μ) (hse : s ≤ e) (hez : e ≤ z) (hn : rd μ 10 0 5 = nI e) : ∀ (k w F : Nat), w + k = 12 → k < F → Ta_cutWord_42L F (nI s) (nI w) μ = some (wordF B s e k w, μ) := by
  intro k
  induction k with
  | zero =>
    intro w F hw hF
    obtain ⟨F, rfl⟩ : ∃ F', F = F' + 1 := ⟨F - 1, by omega⟩
    show Ta_cutWord_42 _ _ _ _ = _
    rw [Ta_cutWord_42, litI 12, if_neg (nI_nlt (by omega) (by omega))]
    rfl
  | succ k ih =>
    intro w F hw hF
    obtain ⟨F, rfl⟩ : ∃ F', F = F' + 1 := ⟨F - 1, by omega⟩
    show Ta_cutWord_42 _ _ _ _ = _
    rw [Ta_cutWord_42, litI 12, if_pos (nI_lt (by omega) (by omega))]
    simp only [nm_eq]
    rw [Ta_spelling_sp w (by omega), chk_eq _ (by omega), bnd_of (Ta_isSpelled_sp h (by omega) hse hez hn), wordF]
    by_cases hc : isW B s e (w + 1) = true
    · rw [if_pos hc, if_pos hc, if_neg (by decide)]
    · rw [if_neg hc, if_neg hc, if_pos rfl, nI_1]
      exact ih (w + 1) F (by omega) (by omega)
theorem Ta_cutWord_sp {B : Nat → Int32} {z s : Nat} : ∀ (k p F : Nat) {μ : Mem}, z - p = k → k < F → s ≤ p → p ≤ z → TapeA B z μ → rd μ 10 0 5 = nI p → Ta_cutWord_5L F (nI s) μ = some (wordC B s (sp isLe B z p), up μ 10 0 5 (nI (sp isLe B z p))) := by
  have fin : ∀ (p : Nat) (μ : Mem), s ≤ p → p ≤ z → TapeA B z μ → rd μ 10 0 5 = nI p → Ta_cutWord_40 (nI s) μ = some (wordC B s p, up μ 10 0 5 (nI p)) := by
    intro p μ hs hp h hn
    unfold Ta_cutWord_40
    rw [litI 0, Ta_cutWord_42_sp h hs hp hn 12 0 1000 (by omega) (by omega), up_same hn]
    rfl
  intro k
  induction k with
  | zero =>
    intro p F μ hk hF hs hp h hn
    obtain ⟨F, rfl⟩ : ∃ F', F = F' + 1 := ⟨F - 1, by omega⟩
    have hz := h.1
    show Ta_cutWord_5 _ _ _ = _
    rw [Ta_cutWord_5, hn, h.2.1, if_neg (nI_nlt (by omega) (by omega)), sp_no (fun q => by omega)]
    exact fin p μ hs hp h hn
  | succ k ih =>
    intro p F μ hk hF hs hp h hn
    obtain ⟨F, rfl⟩ : ∃ F', F = F' + 1 := ⟨F - 1, by omega⟩
    have hz := h.1
    show Ta_cutWord_5 _ _ _ = _
    rw [Ta_cutWord_5, hn, h.2.1, if_pos (nI_lt (by omega) (by omega)), bnd_of (Ta_isLetter_sp h (by omega))]
    by_cases hb : isLe (B p) = true
    · rw [if_pos hb, if_neg (by decide)]
      simp only [nm_eq]
      rw [nI_1, ih (p + 1) F (by omega) (by omega) (by omega) (by omega) (h.up (by decide) (by decide)) (rd_up_s _ _ _ _ _), up_up, sp_yes (by omega) hb]
    · rw [if_neg hb, if_pos rfl, sp_no (fun q => hb q.2)]
      exact fin p μ hs hp h hn
theorem dig_step {b : Int32} (a : Nat) (h : isDi b = true) : (10 * nI a + b) - 48 = nI (10 * a + (ix b - 48)) := by
  unfold isDi at h
  simp only [Bool.and_eq_true, Bool.not_eq_true', decide_eq_false_iff_not] at h
  obtain ⟨h1, h2⟩ := h
  have h0 : ¬ b < 0 := fun q => h1 (Int32.lt_trans q (by decide))
  obtain ⟨j, hj, rfl⟩ := nI_of h0
  have h3 : 48 ≤ j := by
    rcases Nat.lt_or_ge j 48 with q | q
    · exact absurd (nI_lt q (by omega)) h1
    · exact q
  rw [ix_nI hj, litI 10, litI 48, pk_mul, nI_add, nI_sub' (by omega)]
  congr 1
  omega
theorem Ta_cutNumber_sp {B : Nat → Int32} {z s t : Nat} (ht : t ≤ 160) : ∀ (k p F a : Nat) {μ : Mem}, z - p = k → k < F → s ≤ p → p ≤ z → TapeA B z μ → rd μ 10 0 5 = nI p → rd μ 14 0 t = nI a → Ta_cutNumber_5L F (nI t) (nI s) μ = some (if 4 < sp isDi B z p - s then 14 else 12, up (up μ 14 0 t (nI (numA B (sp isDi B z p - p) p a))) 10 0 5 (nI (sp isDi B z p))) := by
  have fin : ∀ (p a : Nat) (μ : Mem), s ≤ p → p ≤ z → TapeA B z μ → rd μ 10 0 5 = nI p → rd μ 14 0 t = nI a → Ta_cutNumber_68 (nI s) μ = some (if 4 < p - s then 14 else 12, up (up μ 14 0 t (nI a)) 10 0 5 (nI p)) := by
    intro p a μ hs hp h hn ha
    have hz := h.1
    unfold Ta_cutNumber_68
    rw [hn, nI_sub' hs, up_same ha, up_same hn]
    simp only [litI 4, nI_lt' (show 4 < 2 ^ 31 by omega) (show p - s < 2 ^ 31 by omega)]
    split <;> rfl
  intro k
  induction k with
  | zero =>
    intro p F a μ hk hF hs hp h hn ha
    obtain ⟨F, rfl⟩ : ∃ F', F = F' + 1 := ⟨F - 1, by omega⟩
    have hz := h.1
    show Ta_cutNumber_5 _ _ _ _ = _
    rw [Ta_cutNumber_5, hn, h.2.1, if_neg (nI_nlt (by omega) (by omega)), sp_no (fun q => by omega), Nat.sub_self]
    exact fin p a μ hs hp h hn ha
  | succ k ih =>
    intro p F a μ hk hF hs hp h hn ha
    obtain ⟨F, rfl⟩ : ∃ F', F = F' + 1 := ⟨F - 1, by omega⟩
    have hz := h.1
    show Ta_cutNumber_5 _ _ _ _ = _
    rw [Ta_cutNumber_5, hn, h.2.1, if_pos (nI_lt (by omega) (by omega)), bnd_of (Ta_isDigit_sp h (by omega))]
    by_cases hb : isDi (B p) = true
    · rw [if_pos hb, if_neg (by decide), chk_eq _ (inb_nI (by omega) (by omega)), chk_eq _ (inb_nI (by omega) (by omega)), chk_eq _ (inb_nI (by omega) (by omega))]
      simp only [nm_eq]
      rw [h.at (by omega), ix_nI (show t < 2 ^ 31 by omega), ha, dig_step a hb, rd_up_f (by decide), hn, nI_1]
      rw [ih (p + 1) F (10 * a + (ix (B p) - 48)) (by omega) (by omega) (by omega) (by omega) ((h.up (by decide) (fun q => absurd q.1 (by decide))).up (by decide) (by decide)) (rd_up_s _ _ _ _ _) (by rw [rd_up_f (by decide), rd_up_s])]
      have e1 : sp isDi B z p = sp isDi B z (p + 1) := sp_yes (by omega) hb
      have e2 := sp_ge isDi B z (p + 1)
      rw [e1, show sp isDi B z (p + 1) - p = (sp isDi B z (p + 1) - (p + 1)) + 1 by omega, numA]
      rw [up_comm _ _ _ (by decide : (10 : Nat) ≠ 14), up_up, up_up]
    · rw [if_neg hb, if_pos rfl, sp_no (fun q => hb q.2), Nat.sub_self]
      exact fin p a μ hs hp h hn ha
theorem Ta_cutOne_sp {B : Nat → Int32} {z p t : Nat} {μ : Mem} (ht : t ≤ 160) (hp : p ≤ z) (h : TapeA B z μ) (hn : rd μ 10 0 5 = nI p) (ha : rd μ 14 0 t = nI 0) : Ta_cutOne (nI t) μ = some (tokT B z p, up (up μ 14 0 t (nI (tokV B z p))) 10 0 5 (nI (tokE B z p))) := by
  have hz := h.1
  unfold Ta_cutOne tokT tokV tokE
  rw [hn, h.2.1]
  by_cases hpz : p < z
  · simp only [if_neg (show ¬ z ≤ p by omega)]
    rw [if_pos (nI_lt hpz (by omega)), bnd_of (Ta_isLetter_sp h hpz)]
    by_cases h1 : isLe (B p) = true
    · simp only [if_pos h1]
      rw [if_neg (by decide)]
      have e : Ta_cutWord μ = some (wordC B p (sp isLe B z p), up μ 10 0 5 (nI (sp isLe B z p))) := by
        unfold Ta_cutWord
        rw [nm_eq, hn]
        exact Ta_cutWord_sp (z - p) p 1000 rfl (by omega) (Nat.le_refl _) hp h hn
      rw [bnd2_of e, up_same ha]
    · simp only [if_neg h1, if_true]
      rw [bnd_of (Ta_isDigit_sp h hpz)]
      by_cases h2 : isDi (B p) = true
      · simp only [if_pos h2]
        rw [if_neg (by decide)]
        have e : Ta_cutNumber (nI t) μ = some (if 4 < sp isDi B z p - p then 14 else 12, up (up μ 14 0 t (nI (numA B (sp isDi B z p - p) p 0))) 10 0 5 (nI (sp isDi B z p))) := by
          unfold Ta_cutNumber
          rw [nm_eq, hn]
          exact Ta_cutNumber_sp ht (z - p) p 1000 0 rfl (by omega) (Nat.le_refl _) hp h hn ha
        rw [bnd2_of e]
      · simp only [if_neg h2, nm_eq, if_true]
        rw [rd_up_s, nI_1, litI 1, nI_sub' (by omega), show p + 1 - 1 = p by omega, bnd_of (Ta_signAt_sp (h.up (by decide) (by decide)) hpz), up_same ha]
  · simp only [if_pos (show z ≤ p by omega)]
    rw [if_neg (nI_nlt (by omega) (by omega)), up_same ha, up_same hn]
/-- the tokens ahead of t lie in their rows -/
def CutA (B : Nat → Int32) (z t : Nat) (μ : Mem) : Prop := ∀ j, j < t → rd μ 12 0 j = tkT B z j ∧ rd μ 13 0 j = nI (posK B z j) ∧ rd μ 14 0 j = nI (tkV B z j)
theorem Ta_cut_9_sp {B : Nat → Int32} {z : Nat} : ∀ (k t F : Nat) {μ : Mem}, t + k = 162 → k + 1 < F → TapeA B z μ → rd μ 10 0 5 = nI (sttK B z t) → CutA B z t μ → (∀ i, i < t → goodT B z i) → ∃ μ', Ta_cut_9L F 1 (nI t) μ = some μ' ∧ Off [10, 12, 13, 14] μ μ' ∧ TapeA B z μ' ∧ ∃ n, CutA B z n μ' ∧ 0 < n ∧ (∀ i, i + 1 < n → goodT B z i) ∧ ¬ goodT B z (n - 1) := by
  intro k
  induction k with
  | zero =>
    intro t F μ hk hF h hn hc hg
    have h1 := good_count hg
    have h2 := h.1
    omega
  | succ k ih =>
    intro t F μ hk hF h hn hc hg
    obtain ⟨F, rfl⟩ : ∃ F', F = F' + 1 := ⟨F - 1, by omega⟩
    have hz := h.1
    have htz := good_count hg
    have hp := posK_le B z t
    show ∃ μ', Ta_cut_9 _ _ _ _ = _ ∧ _
    rw [Ta_cut_9, litI 160, if_neg (nI_nlt (by omega) (by omega)), if_neg (by decide)]
    have e1 : Ta_passBlanks μ = some (up μ 10 0 5 (nI (posK B z t))) := Ta_passBlanks_sp (z - sttK B z t) (sttK B z t) 1000 rfl (by omega) (sttK_le B z t) h hn
    rw [bnd_of e1, chk_eq _ (inb_nI (by omega) (by omega))]
    simp only [nm_eq, ix_nI (show t < 2 ^ 31 by omega)]
    rw [rd_up_s, chk_eq _ (inb_nI (by omega) (by omega))]
    obtain ⟨m1, em1⟩ : ∃ m, m = up (up (up μ 10 0 5 (nI (posK B z t))) 13 0 t (nI (posK B z t))) 14 0 t 0 := ⟨_, rfl⟩
    rw [← em1]
    have g1 : TapeA B z m1 := by rw [em1]; exact ((h.up (by decide) (by decide)).up (by decide) (fun q => absurd q.1 (by decide))).up (by decide) (fun q => absurd q.1 (by decide))
    have g2 : rd m1 10 0 5 = nI (posK B z t) := by rw [em1, rd_up_f (by decide), rd_up_f (by decide), rd_up_s]
    have g3 : rd m1 14 0 t = nI 0 := by rw [em1, rd_up_s]; rfl
    rw [bnd2_of (Ta_cutOne_sp (by omega) hp g1 g2 g3), chk_eq _ (inb_nI (by omega) (by omega)), chk_eq _ (inb_nI (by omega) (by omega)), chk_eq _ (inb_nI (by omega) (by omega)), rd_up_s]
    obtain ⟨m2, em2⟩ : ∃ m, m = up (up (up m1 14 0 t (nI (tokV B z (posK B z t)))) 10 0 5 (nI (tokE B z (posK B z t)))) 12 0 t (tokT B z (posK B z t)) := ⟨_, rfl⟩
    rw [← em2]
    have o1 : Off [10, 12, 13, 14] μ m2 := by
      rw [em2, em1]
      exact ((((((Off.rf).wr' (by decide)).wr' (by decide)).wr' (by decide)).wr' (by decide)).wr' (by decide)).wr' (by decide)
    have t1 : TapeA B z m2 := by rw [em2]; exact ((g1.up (by decide) (fun q => absurd q.1 (by decide))).up (by decide) (by decide)).up (by decide) (fun q => absurd q.1 (by decide))
    have n1 : rd m2 10 0 5 = nI (sttK B z (t + 1)) := by rw [em2, rd_up_f (by decide), rd_up_s]; rfl
    have c1 : CutA B z (t + 1) m2 := by
      intro j hj
      by_cases ej : j = t
      · subst ej
        refine ⟨?_, ?_, ?_⟩
        · rw [em2, rd_up_s]; rfl
        · rw [em2, rd_up_f (by decide), rd_up_f (by decide), rd_up_f (by decide), em1, rd_up_f (by decide), rd_up_s]
        · rw [em2, rd_up_f (by decide), rd_up_f (by decide), rd_up_s]; rfl
      · obtain ⟨q1, q2, q3⟩ := hc j (by omega)
        refine ⟨?_, ?_, ?_⟩
        · rw [em2, rd_up_j ej, rd_up_f (by decide), rd_up_f (by decide), em1, rd_up_f (by decide), rd_up_f (by decide), rd_up_f (by decide)]; exact q1
        · rw [em2, rd_up_f (by decide), rd_up_f (by decide), rd_up_f (by decide), em1, rd_up_f (by decide), rd_up_j ej, rd_up_f (by decide)]; exact q2
        · rw [em2, rd_up_f (by decide), rd_up_f (by decide), rd_up_j ej, em1, rd_up_j ej, rd_up_f (by decide), rd_up_f (by decide)]; exact q3
    have stop : ¬ goodT B z t → ∃ μ', Ta_cut_79 (Ta_cut_9L F) (nI t) 0 m2 = some μ' ∧ Off [10, 12, 13, 14] μ μ' ∧ TapeA B z μ' ∧ ∃ n, CutA B z n μ' ∧ 0 < n ∧ (∀ i, i + 1 < n → goodT B z i) ∧ ¬ goodT B z (n - 1) := by
      intro hb
      obtain ⟨F, rfl⟩ : ∃ F', F = F' + 1 := ⟨F - 1, by omega⟩
      refine ⟨m2, ?_, o1, t1, t + 1, c1, by omega, fun i hi => hg i (by omega), hb⟩
      unfold Ta_cut_79
      simp only [nm_eq]
      rw [nI_1]
      show Ta_cut_9 _ _ _ _ = _
      rw [Ta_cut_9]
      split
      · rfl
      · rw [if_pos rfl]
    by_cases h13 : tokT B z (posK B z t) = 13
    · rw [if_pos h13]
      exact stop (fun q => q.1 h13)
    · rw [if_neg h13]
      by_cases h14 : tokT B z (posK B z t) = 14
      · rw [if_pos h14]
        exact stop (fun q => q.2 h14)
      · rw [if_neg h14]
        unfold Ta_cut_79
        simp only [nm_eq]
        rw [nI_1]
        obtain ⟨μ', r1, r2, r3⟩ := ih (t + 1) F (by omega) (by omega) t1 n1 c1 (fun i hi => by
          rcases Nat.lt_or_ge i t with q | q
          · exact hg i q
          · have : i = t := by omega
            rw [this]; exact ⟨h13, h14⟩)
        exact ⟨μ', r1, o1.tr r2, r3⟩
/-- the tape cut: tokens up to the first that ends them -/
theorem Ta_cut_sp {B : Nat → Int32} {z : Nat} {μ : Mem} (h : TapeA B z μ) : ∃ μ', Ta_cut μ = some μ' ∧ Off [10, 12, 13, 14] μ μ' ∧ TapeA B z μ' ∧ ∃ n, CutA B z n μ' ∧ 0 < n ∧ (∀ i, i + 1 < n → goodT B z i) ∧ ¬ goodT B z (n - 1) := by
  unfold Ta_cut
  simp only [nm_eq]
  obtain ⟨μ', r1, r2, r3⟩ := Ta_cut_9_sp (B := B) (z := z) 162 0 1000 (by omega) (by omega) (h.up (f := 10) (i := 0) (j := 5) (v := 0) (by decide) (by decide)) (rd_up_s _ _ _ _ _) (fun j hj => by omega) (fun i hi => by omega)
  exact ⟨μ', r1, (Off.wr (by decide)).tr r2, r3⟩
