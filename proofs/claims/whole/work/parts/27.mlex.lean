/-! ===== the reference's lexer ===== -/
/-- the text that is read: t-th, its bytes, its size -/
def TX (B : Nat → Int32) (z t : Nat) (ν : Mem) : Prop := t < 6 ∧ z ≤ 160 ∧ rd ν 0 0 19 = nI (160 * t) ∧ rd ν 0 0 20 = nI z ∧ (∀ i, i < z → rd ν 1 0 (160 * t + i) = B i) ∧ ∀ i, i < z → ¬ B i < 0
/-- only these fields of the reference's object change (and its long) -/
def NX (js : List Nat) (ν ν' : Mem) : Prop := (∀ f i : Nat, f ≠ 0 → ν'.1 f i = ν.1 f i) ∧ ∀ j : Nat, j ∉ js → rd ν' 0 0 j = rd ν 0 0 j
theorem NX.rf {js : List Nat} {ν : Mem} : NX js ν ν := ⟨fun _ _ _ => rfl, fun _ _ => rfl⟩
theorem NX.tr {js : List Nat} {a b c : Mem} (h : NX js a b) (h2 : NX js b c) : NX js a c := ⟨fun f i q => (h2.1 f i q).trans (h.1 f i q), fun j q => (h2.2 j q).trans (h.2 j q)⟩
theorem NX.mono {js js' : List Nat} {a b : Mem} (h : NX js a b) (hs : ∀ x ∈ js, x ∈ js') : NX js' a b := ⟨h.1, fun j q => h.2 j (fun z => q (hs j z))⟩
theorem NX.wr {js : List Nat} {ν : Mem} {j : Nat} {v : Int32} (hj : j ∈ js) : NX js ν (up ν 0 0 j v) := ⟨fun f i q => up_off ν v (fun z => q z.1), fun j' q => rd_up_j (fun z => q (by rw [z]; exact hj))⟩
theorem NX.wr' {js : List Nat} {a ν : Mem} {j : Nat} {v : Int32} (h : NX js a ν) (hj : j ∈ js) : NX js a (up ν 0 0 j v) := h.tr (NX.wr hj)
theorem NX.wrL {js : List Nat} {a ν : Mem} {w : Int64} (h : NX js a ν) : NX js a (upL ν w) := h.tr ⟨fun _ _ _ => rfl, fun _ _ => rfl⟩
theorem NX.rd {js : List Nat} {a b : Mem} (h : NX js a b) {f : Nat} (hf : f ≠ 0) (i j : Nat) : rd b f i j = rd a f i j := by
  show b.1 f i j = a.1 f i j
  rw [h.1 f i hf]
theorem TX.nx {B : Nat → Int32} {z t : Nat} {ν ν' : Mem} {js : List Nat} (h : TX B z t ν) (hn : NX js ν ν') (h1 : 19 ∉ js) (h2 : 20 ∉ js) : TX B z t ν' := ⟨h.1, h.2.1, by rw [hn.2 19 h1]; exact h.2.2.1, by rw [hn.2 20 h2]; exact h.2.2.2.1, fun i hi => by rw [hn.rd (by decide)]; exact h.2.2.2.2.1 i hi, h.2.2.2.2.2⟩
theorem M_byteAt_sp {B : Nat → Int32} {z t i : Nat} {ν : Mem} (h : TX B z t ν) (hi : i < 2 ^ 30) : M_byteAt (nI i) ν = some (if i < z then B i else -1) := by
  obtain ⟨h1, h2, h3, h4, h5, h6⟩ := h
  unfold M_byteAt
  rw [h4, h3]
  by_cases q : i < z
  · rw [if_pos (nI_lt q (by omega)), if_pos q, nI_add, chk_eq _ (inb_nI (by omega) (by omega)), ix_nI (by omega), h5 i q]
  · rw [if_neg (nI_nlt (by omega) (by omega)), if_neg q]
theorem M_in_byte (b : Int32) (lo hi : Nat) (hl : lo < 2 ^ 31) (hh : hi < 2 ^ 31) : M_in b.toInt64 (lN lo) (lN hi) = if ¬ b < nI lo ∧ ¬ nI hi < b then 1 else 0 := by
  rw [M_in_iff, lN_toInt hl, lN_toInt hh]
  have e1 : b < nI lo ↔ b.toInt < (lo : Int) := by rw [Int32.lt_iff_toInt_lt, nI_toInt hl]
  have e2 : nI hi < b ↔ (hi : Int) < b.toInt := by rw [Int32.lt_iff_toInt_lt, nI_toInt hh]
  by_cases q : ¬ b < nI lo ∧ ¬ nI hi < b
  · rw [if_pos q, if_pos ⟨by rcases Int.lt_or_le b.toInt (lo : Int) with w | w; exact absurd (e1.mpr w) q.1; exact w, by rcases Int.lt_or_le (hi : Int) b.toInt with w | w; exact absurd (e2.mpr w) q.2; exact w⟩]
  · rw [if_neg q, if_neg]
    intro w
    exact q ⟨fun x => by have := e1.mp x; omega, fun x => by have := e2.mp x; omega⟩
theorem M_in_le (b : Int32) : M_in b.toInt64 97 122 = if isLe b = true then 1 else 0 := by
  have := M_in_byte b 97 122 (by omega) (by omega)
  rw [show (97 : Int64) = lN 97 from rfl, show (122 : Int64) = lN 122 from rfl, this]
  have e : isLe b = true ↔ (¬ b < nI 97 ∧ ¬ nI 122 < b) := by
    unfold isLe
    simp only [Bool.and_eq_true, Bool.not_eq_true', decide_eq_false_iff_not]
    exact Iff.rfl
  by_cases q : isLe b = true
  · rw [if_pos q, if_pos (e.mp q)]
  · rw [if_neg q, if_neg (fun w => q (e.mpr w))]
theorem M_in_di (b : Int32) : M_in b.toInt64 48 57 = if isDi b = true then 1 else 0 := by
  have := M_in_byte b 48 57 (by omega) (by omega)
  rw [show (48 : Int64) = lN 48 from rfl, show (57 : Int64) = lN 57 from rfl, this]
  have e : isDi b = true ↔ (¬ b < nI 48 ∧ ¬ nI 57 < b) := by
    unfold isDi
    simp only [Bool.and_eq_true, Bool.not_eq_true', decide_eq_false_iff_not]
    exact Iff.rfl
  by_cases q : isDi b = true
  · rw [if_pos q, if_pos (e.mp q)]
  · rw [if_neg q, if_neg (fun w => q (e.mpr w))]
/-- what the reference knows of the token that begins at p -/
def TokM (B : Nat → Int32) (z p : Nat) (ν : Mem) : Prop := rd ν 0 0 23 = nI p ∧
  if z ≤ p then rd ν 0 0 22 = 0
  else if isLe (B p) = true then rd ν 0 0 22 = 1 ∧ rd ν 0 0 21 = nI (sp isLe B z p)
  else if isDi (B p) = true then (if 4 < sp isDi B z p - p then rd ν 0 0 22 = 4 else rd ν 0 0 22 = 2 ∧ rd ν 0 0 21 = nI (sp isDi B z p) ∧ rdL ν = lN (numA B (sp isDi B z p - p) p 0))
  else if isSg (B p) = true then rd ν 0 0 22 = 3 ∧ rd ν 0 0 21 = nI (p + 1) ∧ rdL ν = (B p).toInt64
  else rd ν 0 0 22 = 4
theorem neg1_isLe : isLe (-1) = false := by decide
theorem neg1_isDi : isDi (-1) = false := by decide
theorem M_next_100_sp {B : Nat → Int32} {z t : Nat} : ∀ (k p F : Nat) {ν : Mem}, z - p = k → k < F → p ≤ z → TX B z t ν → rd ν 0 0 21 = nI p → M_next_100L F ν = some (up ν 0 0 21 (nI (sp isLe B z p))) := by
  intro k
  induction k with
  | zero =>
    intro p F ν hk hF hp h hh
    obtain ⟨F, rfl⟩ : ∃ F', F = F' + 1 := ⟨F - 1, by omega⟩
    have hz := h.2.1
    show M_next_100 _ _ = _
    rw [M_next_100, hh, bnd_of (M_byteAt_sp h (by omega)), if_neg (by omega)]
    simp only [nm_eq]
    rw [M_in_le, neg1_isLe, if_neg (show ¬ (false = true) by decide), if_pos rfl, sp_no (fun q => by omega), up_same hh]
  | succ k ih =>
    intro p F ν hk hF hp h hh
    obtain ⟨F, rfl⟩ : ∃ F', F = F' + 1 := ⟨F - 1, by omega⟩
    have hz := h.2.1
    show M_next_100 _ _ = _
    rw [M_next_100, hh, bnd_of (M_byteAt_sp h (by omega)), if_pos (by omega)]
    simp only [nm_eq]
    rw [M_in_le]
    by_cases q : isLe (B p) = true
    · rw [if_pos q, if_neg (by decide), nI_1, ih (p + 1) F (by omega) (by omega) (by omega) (h.nx (NX.wr (js := [21]) (by decide)) (by decide) (by decide)) (rd_up_s _ _ _ _ _), up_up, sp_yes (by omega) q]
    · rw [if_neg q, if_pos rfl, sp_no (fun w => q w.2), up_same hh]
theorem dig_stepL {b : Int32} (a : Nat) (h : isDi b = true) : (10 * lN a + b.toInt64) - 48 = lN (10 * a + (ix b - 48)) := by
  unfold isDi at h
  simp only [Bool.and_eq_true, Bool.not_eq_true', decide_eq_false_iff_not] at h
  obtain ⟨h1, h2⟩ := h
  have h0 : ¬ b < 0 := fun q => h1 (Int32.lt_trans q (by decide))
  obtain ⟨j, hj, rfl⟩ := nI_of h0
  have h3 : 48 ≤ j := by
    rcases Nat.lt_or_ge j 48 with q | q
    · exact absurd (nI_lt q (by omega)) h1
    · exact q
  rw [ix_nI hj, nI_l hj, show (10 : Int64) = lN 10 from rfl, show (48 : Int64) = lN 48 from rfl, lN_mul, lN_add, lN_sub (by omega)]
  congr 1
  omega
/-- behind c digits: the number of the first four -/
theorem M_next_160_sp {B : Nat → Int32} {z t s : Nat} : ∀ (k p F a : Nat) {ν : Mem}, z - p = k → k < F → s ≤ p → p ≤ z → TX B z t ν → rd ν 0 0 21 = nI p → (p - s ≤ 4 → rdL ν = lN a) → ∃ ν', M_next_160L F (nI (p - s)) ν = some ν' ∧ NX [21, 22] ν ν' ∧ (if 4 < sp isDi B z p - s then rd ν' 0 0 22 = 4 else rd ν' 0 0 22 = 2 ∧ rd ν' 0 0 21 = nI (sp isDi B z p) ∧ rdL ν' = lN (numA B (sp isDi B z p - p) p a)) := by
  have fin : ∀ (p a : Nat) (ν : Mem), s ≤ p → p ≤ z → TX B z t ν → rd ν 0 0 21 = nI p → (p - s ≤ 4 → rdL ν = lN a) → ∃ ν', (if 4 < nI (p - s) then M_next_246 4 ν else M_next_246 2 ν) = some ν' ∧ NX [21, 22] ν ν' ∧ (if 4 < p - s then rd ν' 0 0 22 = 4 else rd ν' 0 0 22 = 2 ∧ rd ν' 0 0 21 = nI p ∧ rdL ν' = lN a) := by
    intro p a ν hs hp h hh ha
    have hz := h.2.1
    simp only [litI 4, nI_lt' (show 4 < 2 ^ 31 by omega) (show p - s < 2 ^ 31 by omega)]
    by_cases q : 4 < p - s
    · rw [if_pos q]
      exact ⟨up ν 0 0 22 4, rfl, NX.wr (by decide), by rw [if_pos q]; exact rd_up_s _ _ _ _ _⟩
    · rw [if_neg q]
      exact ⟨up ν 0 0 22 2, rfl, NX.wr (by decide), by rw [if_neg q]; exact ⟨rd_up_s _ _ _ _ _, by rw [rd_up_j (by decide)]; exact hh, by rw [rdL_up]; exact ha (by omega)⟩⟩
  intro k
  induction k with
  | zero =>
    intro p F a ν hk hF hs hp h hh ha
    obtain ⟨F, rfl⟩ : ∃ F', F = F' + 1 := ⟨F - 1, by omega⟩
    have hz := h.2.1
    show ∃ ν', M_next_160 _ _ _ = _ ∧ _
    unfold M_next_160
    rw [hh, bnd_of (M_byteAt_sp h (by omega)), if_neg (by omega), nm_eq, M_in_di, neg1_isDi, if_neg (show ¬ (false = true) by decide), if_pos rfl, sp_no (fun q => by omega), Nat.sub_self]
    exact fin p a ν hs hp h hh ha
  | succ k ih =>
    intro p F a ν hk hF hs hp h hh ha
    obtain ⟨F, rfl⟩ : ∃ F', F = F' + 1 := ⟨F - 1, by omega⟩
    have hz := h.2.1
    show ∃ ν', M_next_160 _ _ _ = _ ∧ _
    unfold M_next_160
    rw [hh, bnd_of (M_byteAt_sp h (by omega)), if_pos (by omega), nm_eq, M_in_di]
    by_cases q : isDi (B p) = true
    · rw [if_pos q, if_neg (by decide), sp_yes (by omega) q]
      have e2 := sp_ge isDi B z (p + 1)
      have tail : ∀ (v : Int64), (p - s < 4 → v = lN (10 * a + (ix (B p) - 48))) → ∃ ν', M_next_216 (M_next_160L F) (nI (p - s)) v ν = some ν' ∧ NX [21, 22] ν ν' ∧ (if 4 < sp isDi B z (p + 1) - s then rd ν' 0 0 22 = 4 else rd ν' 0 0 22 = 2 ∧ rd ν' 0 0 21 = nI (sp isDi B z (p + 1)) ∧ rdL ν' = lN (numA B (sp isDi B z (p + 1) - p) p a)) := by
        intro v hv
        unfold M_next_216
        simp only [nm_eq]
        rw [rd_upL, hh, nI_1, nI_1, show p - s + 1 = (p + 1) - s by omega]
        have hnx : NX [21, 22] ν (up (upL ν v) 0 0 21 (nI (p + 1))) := (NX.rf.wrL).wr' (by decide)
        obtain ⟨ν', r1, r2, r3⟩ := ih (p + 1) F (10 * a + (ix (B p) - 48)) (by omega) (by omega) (by omega) (by omega) (h.nx hnx (by decide) (by decide)) (rd_up_s _ _ _ _ _) (fun w => by rw [rdL_up, rdL_upL]; exact hv (by omega))
        refine ⟨ν', r1, hnx.tr r2, ?_⟩
        by_cases c : 4 < sp isDi B z (p + 1) - s
        · rw [if_pos c] at r3 ⊢; exact r3
        · rw [if_neg c] at r3 ⊢
          refine ⟨r3.1, r3.2.1, ?_⟩
          rw [r3.2.2, show sp isDi B z (p + 1) - p = (sp isDi B z (p + 1) - (p + 1)) + 1 by omega, numA]
      by_cases c : p - s < 4
      · rw [litI 4, if_pos (nI_lt c (by omega)), bnd_of (M_byteAt_sp h (by omega)), if_pos (by omega)]
        exact tail _ (fun _ => by rw [ha (by omega)]; exact dig_stepL a q)
      · rw [litI 4, if_neg (nI_nlt (by omega) (by omega))]
        exact tail _ (fun w => absurd w c)
    · rw [if_neg q, if_pos rfl, sp_no (fun w => q w.2), Nat.sub_self]
      exact fin p a ν hs hp h hh ha
theorem isSg_iff (b : Int32) : isSg b = true ↔ b = 40 ∨ b = 41 ∨ b = 42 ∨ b = 43 ∨ b = 45 ∨ b = 59 ∨ b = 60 ∨ b = 61 := by
  unfold isSg
  simp only [Bool.or_eq_true, decide_eq_true_eq, or_assoc]
/-- one token on -/
theorem M_next_sp {B : Nat → Int32} {z t : Nat} : ∀ (k p F : Nat) {ν : Mem}, z - p = k → k < F → p ≤ z → TX B z t ν → rd ν 0 0 21 = nI p → ∃ ν', M_next_0L F ν = some ν' ∧ NX [21, 22, 23] ν ν' ∧ TokM B z (sp isBl B z p) ν' := by
  intro k
  induction k with
  | zero =>
    intro p F ν hk hF hp h hh
    obtain ⟨F, rfl⟩ : ∃ F', F = F' + 1 := ⟨F - 1, by omega⟩
    have hz := h.2.1
    have hpz : p = z := by omega
    subst hpz
    show ∃ ν', M_next_0 _ _ = _ ∧ _
    unfold M_next_0
    rw [hh, bnd_of (M_byteAt_sp h (by omega)), if_neg (Nat.lt_irrefl _), if_neg (by decide), bnd_of (M_byteAt_sp h (by omega)), if_neg (Nat.lt_irrefl _), if_neg (by decide), nm_eq, rd_up_j (by decide), hh]
    have h7 : TX B p t (up ν 0 0 23 (nI p)) := h.nx (NX.wr (js := [23]) (by decide)) (by decide) (by decide)
    rw [bnd_of (M_byteAt_sp h7 (by omega)), if_neg (Nat.lt_irrefl _), nm_eq, if_pos (by decide), nm_eq, nm_eq]
    refine ⟨_, rfl, (((NX.rf.wr' (by decide)).wr' (by decide)).wr' (by decide)).wr' (by decide), ?_⟩
    rw [sp_no (fun q => by omega)]
    refine ⟨?_, ?_⟩
    · rw [rd_up_s, rd_up_j (by decide), rd_up_j (by decide), rd_up_j (by decide)]; exact h.2.2.2.1
    · rw [if_pos (Nat.le_refl _), rd_up_j (by decide), rd_up_s]
  | succ k ih =>
    intro p F ν hk hF hp h hh
    obtain ⟨F, rfl⟩ : ∃ F', F = F' + 1 := ⟨F - 1, by omega⟩
    have hz := h.2.1
    have hpz : p < z := by omega
    have blank : isBl (B p) = true → ∃ ν', M_next_26 (M_next_0L F) ν = some ν' ∧ NX [21, 22, 23] ν ν' ∧ TokM B z (sp isBl B z p) ν' := by
      intro q
      unfold M_next_26
      rw [nm_eq, hh, nI_1, sp_yes hpz q]
      have hnx : NX [21, 22, 23] ν (up ν 0 0 21 (nI (p + 1))) := NX.wr (by decide)
      obtain ⟨ν', r1, r2, r3⟩ := ih (p + 1) F (by omega) (by omega) (by omega) (h.nx hnx (by decide) (by decide)) (rd_up_s _ _ _ _ _)
      exact ⟨ν', r1, hnx.tr r2, r3⟩
    show ∃ ν', M_next_0 _ _ = _ ∧ _
    unfold M_next_0
    rw [hh, bnd_of (M_byteAt_sp h (by omega)), if_pos hpz]
    by_cases b1 : B p = 32
    · rw [if_pos b1]
      exact blank (by simp [isBl, b1])
    · rw [if_neg b1, bnd_of (M_byteAt_sp h (by omega)), if_pos hpz]
      by_cases b2 : B p = 10
      · rw [if_pos b2]
        exact blank (by simp [isBl, b2])
      · rw [if_neg b2, nm_eq, rd_up_j (by decide), hh, sp_no (by simp [isBl, b1, b2])]
        have n7 : NX [21, 22, 23] ν (up ν 0 0 23 (nI p)) := NX.wr (by decide)
        have h7 := h.nx n7 (by decide) (by decide)
        rw [bnd_of (M_byteAt_sp h7 (by omega)), if_pos hpz, nm_eq, if_neg (h.2.2.2.2.2 p hpz), nm_eq, M_in_le]
        obtain ⟨m, em⟩ : ∃ m, m = up (up ν 0 0 23 (nI p)) 0 0 22 4 := ⟨_, rfl⟩
        rw [← em]
        have nm' : NX [21, 22, 23] ν m := by rw [em]; exact n7.wr' (by decide)
        have hm := h.nx nm' (by decide) (by decide)
        have m23 : rd m 0 0 23 = nI p := by rw [em, rd_up_j (by decide), rd_up_s]
        have m22 : rd m 0 0 22 = 4 := by rw [em, rd_up_s]
        have m21 : rd m 0 0 21 = nI p := by rw [em, rd_up_j (by decide), rd_up_j (by decide)]; exact hh
        unfold TokM
        simp only [if_neg (show ¬ z ≤ p by omega)]
        by_cases c1 : isLe (B p) = true
        · simp only [if_pos c1]
          rw [if_neg (by decide), nm_eq]
          have n8 : NX [21, 22, 23] m (up m 0 0 22 1) := NX.wr (by decide)
          refine ⟨_, M_next_100_sp (z - p) p 1000 rfl (by omega) hp (hm.nx n8 (by decide) (by decide)) (by rw [rd_up_j (by decide)]; exact m21), (nm'.tr n8).wr' (by decide), ?_, ?_, rd_up_s _ _ _ _ _⟩
          · rw [rd_up_j (by decide), rd_up_j (by decide)]; exact m23
          · rw [rd_up_j (by decide), rd_up_s]
        · simp only [if_neg c1, if_true]
          rw [nm_eq, M_in_di]
          by_cases c2 : isDi (B p) = true
          · simp only [if_pos c2]
            rw [if_neg (by decide), nm_eq, nm_eq]
            have n8 : NX [21, 22, 23] m (upL (up m 0 0 22 2) 0) := (NX.rf.wr' (by decide)).wrL
            obtain ⟨ν', r1, r2, r3⟩ := M_next_160_sp (s := p) (z - p) p 1000 0 rfl (by omega) (Nat.le_refl _) hp (hm.nx n8 (by decide) (by decide)) (by rw [rd_upL, rd_up_j (by decide)]; exact m21) (fun _ => rfl)
            rw [Nat.sub_self] at r1
            refine ⟨ν', r1, (nm'.tr n8).tr (r2.mono (by decide)), ?_, r3⟩
            rw [r2.2 23 (by decide), rd_upL, rd_up_j (by decide)]; exact m23
          · simp only [if_neg c2, if_true]
            have sign : ∃ ν', M_next_300 (B p) m = some ν' ∧ NX [21, 22, 23] ν ν' ∧ rd ν' 0 0 23 = nI p ∧ (rd ν' 0 0 22 = 3 ∧ rd ν' 0 0 21 = nI (p + 1) ∧ rdL ν' = (B p).toInt64) := by
              unfold M_next_300
              simp only [nm_eq]
              rw [rd_upL, rd_up_j (by decide), m21, nI_1]
              refine ⟨_, rfl, (((nm'.wr' (by decide)).wrL).wr' (by decide)), ?_, ?_, rd_up_s _ _ _ _ _, rfl⟩
              · rw [rd_up_j (by decide), rd_upL, rd_up_j (by decide)]; exact m23
              · rw [rd_up_j (by decide), rd_upL, rd_up_s]
            by_cases c3 : isSg (B p) = true
            · simp only [if_pos c3]
              have c4 := (isSg_iff _).mp c3
              obtain ⟨ν', s1, s2⟩ := sign
              refine ⟨ν', ?_, s2⟩
              by_cases d1 : B p = 40
              · rw [if_pos d1]; exact s1
              · rw [if_neg d1]
                by_cases d2 : B p = 41
                · rw [if_pos d2]; exact s1
                · rw [if_neg d2]
                  by_cases d3 : B p = 59
                  · rw [if_pos d3]; exact s1
                  · rw [if_neg d3]
                    by_cases d4 : B p = 43
                    · rw [if_pos d4]; exact s1
                    · rw [if_neg d4]
                      by_cases d5 : B p = 45
                      · rw [if_pos d5]; exact s1
                      · rw [if_neg d5]
                        by_cases d6 : B p = 42
                        · rw [if_pos d6]; exact s1
                        · rw [if_neg d6]
                          by_cases d7 : B p = 60
                          · rw [if_pos d7]; exact s1
                          · rw [if_neg d7]
                            by_cases d8 : B p = 61
                            · rw [if_pos d8]; exact s1
                            · rcases c4 with q | q | q | q | q | q | q | q
                              · exact absurd q d1
                              · exact absurd q d2
                              · exact absurd q d6
                              · exact absurd q d4
                              · exact absurd q d5
                              · exact absurd q d3
                              · exact absurd q d7
                              · exact absurd q d8
            · simp only [if_neg c3]
              have c4 := fun q => c3 ((isSg_iff (B p)).mpr q)
              rw [if_neg (fun q => c4 (Or.inl q)), if_neg (fun q => c4 (Or.inr (Or.inl q))), if_neg (fun q => c4 (by simp [q])), if_neg (fun q => c4 (by simp [q])), if_neg (fun q => c4 (by simp [q])), if_neg (fun q => c4 (by simp [q])), if_neg (fun q => c4 (by simp [q])), if_neg (fun q => c4 (by simp [q]))]
              exact ⟨m, rfl, nm', m23, m22⟩
