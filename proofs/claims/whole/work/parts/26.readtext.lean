/-! ===== a whole text: three parts ===== -/
def sq2 {α : Type} (r : Option (Nat × Option (List Int32))) (f : Nat → List Int32 → Option (Nat × Option α)) : Option (Nat × Option α) := match r with
  | none => none
  | some (k, none) => some (k, none)
  | some (k, some c) => f k c
theorem sq2_some {α : Type} {r : Option (Nat × Option (List Int32))} {f : Nat → List Int32 → Option (Nat × Option α)} {z : Nat × Option α} (h : sq2 r f = some z) : (∃ k, r = some (k, none) ∧ z = (k, none)) ∨ ∃ k c, r = some (k, some c) ∧ f k c = some z := by
  match r, h with
  | some (k, none), h => exact Or.inl ⟨k, rfl, (Option.some.inj h).symm⟩
  | some (k, some c), h => exact Or.inr ⟨k, c, rfl, h⟩
def gPart (T : Nat → Int32) (Q : Nat → Nat) (p k : Nat) : Option (Nat × Option (List Int32)) :=
  if T k = nI (6 + p) then sq (gr T Q 2000 0 0 (k + 1)) fun k1 c => if T k1 = 59 then some (k1 + 1, some c) else some (k1, none) else some (k, none)
def gText (T : Nat → Int32) (Q : Nat → Nat) : Option (Nat × Option (List Int32 × List Int32 × List Int32)) :=
  sq2 (gPart T Q 0 0) fun k0 c0 => sq2 (gPart T Q 1 k0) fun k1 c1 => sq2 (gPart T Q 2 k1) fun k2 c2 => if T k2 = 13 then some (k2, some (c0, c1, c2)) else some (k2, none)
theorem gPart_ok {T : Nat → Int32} {Q : Nat → Nat} {N p k : Nat} (hT : TokN T Q N) (hp : p < 3) (hk : k < N) : ∃ r, gPart T Q p k = some r ∧ r.1 < N ∧ k ≤ r.1 ∧ ∀ cs, r.2 = some cs → k + cs.length + 2 ≤ r.1 ∧ One cs := by
  unfold gPart
  by_cases h : T k = nI (6 + p)
  · rw [if_pos h]
    have n13 : (13 : Int32) = nI 13 := rfl
    have n14 : (14 : Int32) = nI 14 := rfl
    have hk1 : k + 1 < N := hT.lt hk (by rw [h, n13]; exact fun q => absurd ((nI_eq (by omega) (by omega)).mp q) (by omega)) (by rw [h, n14]; exact fun q => absurd ((nI_eq (by omega) (by omega)).mp q) (by omega))
    have hN := hT.2.1
    obtain ⟨r1, e1⟩ := grm_total hT 2000 0 0 (k + 1) hk1 (by decide) (by have : rkG 0 = 7 := rfl; omega)
    obtain ⟨g1, g2, g3⟩ := grm_ok hT 2000 0 0 (k + 1) r1 hk1 e1
    rw [e1]
    match r1, g1, g2, g3 with
    | (k1, none), g1, g2, g3 => exact ⟨(k1, none), rfl, g1, by dsimp only at g2 ⊢; omega, fun cs e => by cases e⟩
    | (k1, some c1), g1, g2, g3 =>
      obtain ⟨g4, g5, -⟩ := g3 c1 rfl
      dsimp only at g1 g2 g4
      show ∃ r, (if T k1 = 59 then some (k1 + 1, some c1) else some (k1, none)) = some r ∧ _
      by_cases h2 : T k1 = 59
      · rw [if_pos h2]
        have hk2 : k1 + 1 < N := hT.lt g1 (by rw [h2]; decide) (by rw [h2]; decide)
        exact ⟨_, rfl, hk2, by show k ≤ k1 + 1; omega, fun cs e => by cases e; exact ⟨by show k + c1.length + 2 ≤ k1 + 1; omega, g5 (by decide)⟩⟩
      · rw [if_neg h2]
        exact ⟨_, rfl, g1, by show k ≤ k1; omega, fun cs e => by cases e⟩
  · rw [if_neg h]
    exact ⟨_, rfl, hk, Nat.le_refl _, fun cs e => by cases e⟩
theorem gText_ok {T : Nat → Int32} {Q : Nat → Nat} {N : Nat} (hT : TokN T Q N) : ∃ r, gText T Q = some r ∧ r.1 < N := by
  unfold gText
  obtain ⟨r0, e0, a0, b0, -⟩ := gPart_ok hT (p := 0) (k := 0) (by decide) hT.1
  rw [e0]
  match r0, a0 with
  | (k0, none), a0 => exact ⟨_, rfl, a0⟩
  | (k0, some c0), a0 =>
    obtain ⟨r1, e1, a1, b1, -⟩ := gPart_ok hT (p := 1) (k := k0) (by decide) a0
    show ∃ r, (sq2 (gPart T Q 1 k0) fun k1 c1 => sq2 (gPart T Q 2 k1) fun k2 c2 => if T k2 = 13 then some (k2, some (c0, c1, c2)) else some (k2, none)) = some r ∧ _
    rw [e1]
    match r1, a1 with
    | (k1, none), a1 => exact ⟨_, rfl, a1⟩
    | (k1, some c1), a1 =>
      obtain ⟨r2, e2, a2, b2, -⟩ := gPart_ok hT (p := 2) (k := k1) (by decide) a1
      show ∃ r, (sq2 (gPart T Q 2 k1) fun k2 c2 => if T k2 = 13 then some (k2, some (c0, c1, c2)) else some (k2, none)) = some r ∧ _
      rw [e2]
      match r2, a2 with
      | (k2, none), a2 => exact ⟨_, rfl, a2⟩
      | (k2, some c2), a2 =>
        show ∃ r, (if T k2 = 13 then some (k2, some (c0, c1, c2)) else some (k2, none)) = some r ∧ _
        split
        · exact ⟨_, rfl, a2⟩
        · exact ⟨_, rfl, a2⟩
/-! the class -/
def KeepP (t l p : Nat) (μ μ' : Mem) : Prop := Off [6, 7, 9] μ μ' ∧ (∀ t' : Nat, t' ≠ t → μ'.1 6 t' = μ.1 6 t' ∧ μ'.1 7 t' = μ.1 7 t') ∧ (∀ i, i < l → rd μ' 6 t i = rd μ 6 t i) ∧ ∀ i, i < p → rd μ' 7 t i = rd μ 7 t i
theorem Keep.p {t l p : Nat} {μ μ' : Mem} (h : Keep t l μ μ') : KeepP t l p μ μ' := ⟨h.1.mono (by decide), fun t' q => ⟨h.2.1 t' q, h.1.2 7 t' (by decide)⟩, h.2.2, fun i _ => h.1.rd (by decide) t i⟩
theorem KeepP.tr {t l l' p p' : Nat} {a b c : Mem} (h : KeepP t l p a b) (h2 : KeepP t l' p' b c) (hl : l ≤ l') (hp : p ≤ p') : KeepP t l p a c := ⟨h.1.tr h2.1, fun t' q => ⟨(h2.2.1 t' q).1.trans (h.2.1 t' q).1, (h2.2.1 t' q).2.trans (h.2.1 t' q).2⟩, fun i q => (h2.2.2.1 i (by omega)).trans (h.2.2.1 i q), fun i q => (h2.2.2.2 i (by omega)).trans (h.2.2.2 i q)⟩
theorem Hold.keepP {t l l' p : Nat} {cs : List Int32} {μ μ' : Mem} (h : Hold t l cs μ) (k : KeepP t l' p μ μ') (hl : l + cs.length ≤ l') : Hold t l cs μ' := fun i hi => (k.2.2.1 _ (by omega)).trans (h i hi)
theorem Re_begin_sp {T : Nat → Int32} {Q : Nat → Nat} {N t k l p : Nat} {μ : Mem} (h : RS T Q N t k l μ) (hp : p < 4) : ∃ μ', Re_begin (nI p) μ = some μ' ∧ RS T Q N t k l μ' ∧ KeepP t 160 p μ μ' ∧ rd μ' 7 t p = nI l := by
  obtain ⟨i1, i2⟩ := h.i0
  obtain ⟨h1, h2, h3, h4, h5, h6⟩ := h
  refine ⟨up μ 7 t p (nI l), ?_, ⟨h1, ?_, ?_, ?_, ?_, fun j hj => ?_⟩, ⟨Off.rf.wr' (by decide), fun t' q => ⟨?_, ?_⟩, fun i hi => ?_, fun i hi => ?_⟩, rd_up_s _ _ _ _ _⟩
  · unfold Re_begin
    rw [if_neg i1, chk_eq _ ⟨i1, by rw [i2]; exact h1⟩, chk_eq _ (inb_nI (by omega) (by omega)), i2, h3, ix_nI (by omega)]
    rfl
  · rw [rd_up_f (by decide)]; exact h2
  · rw [rd_up_f (by decide)]; exact h3
  · rw [rd_up_f (by decide)]; exact h4
  · rw [rd_up_f (by decide)]; exact h5
  · rw [rd_up_f (by decide), rd_up_f (by decide)]; exact h6 j hj
  · rw [up_off _ _ (fun z => absurd z.1 (by decide))]
  · rw [up_off _ _ (fun z => q z.2)]
  · rw [rd_up_f (by decide)]
  · rw [rd_up_j (by omega)]
theorem Re_eats_sp {T : Nat → Int32} {Q : Nat → Nat} {N t k l : Nat} {μ : Mem} (hT : TokN T Q N) (h : RS T Q N t k l μ) (hk : k < N) {x : Int32} (hx : x ≠ 13 ∧ x ≠ 14) : (T k ≠ x ∧ Re_eats x μ = some (0, μ)) ∨ (T k = x ∧ k + 1 < N ∧ ∃ μ', Re_eats x μ = some (1, μ') ∧ RS T Q N t (k + 1) l μ' ∧ Keep t 160 μ μ') := by
  by_cases e : T k = x
  · have hk1 := hT.lt hk (by rw [e]; exact hx.1) (by rw [e]; exact hx.2)
    obtain ⟨μ', s1, s2, s3⟩ := Re_pass_sp hT.2.1 h hk1
    refine Or.inr ⟨e, hk1, μ', ?_, s2, s3⟩
    unfold Re_eats
    rw [h.tk, if_pos e, bnd_of s1]
  · refine Or.inl ⟨e, ?_⟩
    unfold Re_eats
    rw [h.tk, if_neg e]
/-- one part read: the loop stops with 0, or goes on -/
theorem Re_part_sp {T : Nat → Int32} {Q : Nat → Nat} {N t k l p F : Nat} {μ : Mem} (hT : TokN T Q N) (h : RS T Q N t k l μ) (hk : k < N) (hl : l ≤ k) (hp : p < 3) : (∃ k' μ', gPart T Q p k = some (k', none) ∧ Re_readsParts_2L (F + 1) (nI p) μ = some (0, μ') ∧ rd μ' 9 0 3 = nI k' ∧ (∀ j, j < N → rd μ' 12 0 j = T j) ∧ KeepP t l p μ μ') ∨
    (∃ k' cs μ', gPart T Q p k = some (k', some cs) ∧ k' < N ∧ l + cs.length ≤ k' ∧ One cs ∧ Re_readsParts_2L (F + 1) (nI p) μ = Re_readsParts_2L F (nI (p + 1)) μ' ∧ RS T Q N t k' (l + cs.length) μ' ∧ Hold t l cs μ' ∧ rd μ' 7 t p = nI l ∧ KeepP t l p μ μ') := by
  have hN := hT.2.1
  obtain ⟨m1, s1, s2, s3, s4⟩ := Re_begin_sp h (p := p) (by omega)
  have s3' : KeepP t l p μ m1 := ⟨s3.1, s3.2.1, fun i hi => s3.2.2.1 i (by omega), s3.2.2.2⟩
  have e0 : Re_readsParts_2L (F + 1) (nI p) μ = (bnd2 (Re_eats (nI (6 + p)) m1) fun r7 μ8 => if r7 = 0 then some (0, μ8) else bnd2 (Re_rec 100 0 0 μ8) fun r11 μ12 => if r11 = 0 then some (0, μ12) else bnd2 (Re_eats 59 μ12) fun r15 μ16 => if r15 = 0 then some (0, μ16) else Re_readsParts_2L F (nI (p + 1)) μ16) := by
    show Re_readsParts_2 (Re_readsParts_2L F) (nI p) μ = _
    unfold Re_readsParts_2
    rw [litI 3, if_pos (nI_lt hp (by omega)), bnd_of s1, litI 6, nI_add, nI_1]
    rfl
  rw [e0]
  have n13 : (13 : Int32) = nI 13 := rfl
  have n14 : (14 : Int32) = nI 14 := rfl
  unfold gPart
  rcases Re_eats_sp hT s2 hk (x := nI (6 + p)) ⟨by rw [n13]; exact fun q => absurd ((nI_eq (by omega) (by omega)).mp q) (by omega), by rw [n14]; exact fun q => absurd ((nI_eq (by omega) (by omega)).mp q) (by omega)⟩ with ⟨a1, a2⟩ | ⟨a1, hk1, m2, a2, a3, a4⟩
  · rw [if_neg a1, bnd2_of a2, if_pos rfl]
    exact Or.inl ⟨k, m1, rfl, rfl, s2.2.2.2.1, fun j hj => (s2.2.2.2.2.2 j hj).1, s3'⟩
  · rw [if_pos a1, bnd2_of a2, if_neg (by decide)]
    have a4' : Keep t l m1 m2 := ⟨a4.1, a4.2.1, fun i hi => a4.2.2 i (by omega)⟩
    obtain ⟨r1, e1⟩ := grm_total hT 2000 0 0 (k + 1) hk1 (by decide) (by have : rkG 0 = 7 := rfl; omega)
    obtain ⟨g1, g2, g3⟩ := grm_ok hT 2000 0 0 (k + 1) r1 hk1 e1
    obtain ⟨b, m3, c1, c2⟩ := Re_sp hT 2000 0 0 (k + 1) l 100 1000 0 r1 m2 hk1 (by decide) (by omega) (by decide) e1 a3 (by decide) (by omega) (by omega)
    have c1 : Re_rec 100 0 0 m2 = some (b, m3) := c1
    rw [e1]
    match r1, g1, g2, g3, c2 with
    | (k1, none), g1, g2, g3, c2 =>
      rw [bnd2_of c1, if_pos c2.2.1]
      refine Or.inl ⟨k1, m3, rfl, rfl, c2.2.2.1, c2.2.2.2, (s3'.tr a4'.p (Nat.le_refl _) (Nat.le_refl _)).tr c2.1.p (Nat.le_refl _) (Nat.le_refl _)⟩
    | (k1, some cs), g1, g2, g3, c2 =>
      obtain ⟨g4, g5, -⟩ := g3 cs rfl
      dsimp only at g1 g2 g4
      obtain ⟨d1, d2, d3, d4⟩ := c2
      dsimp only at d2 d3 d4
      rw [bnd2_of c1, if_neg (by rw [d2]; decide)]
      show (∃ k' μ', (if T k1 = 59 then some (k1 + 1, some cs) else some (k1, none)) = some (k', none) ∧ _) ∨ (∃ k' cs' μ', (if T k1 = 59 then some (k1 + 1, some cs) else some (k1, none)) = some (k', some cs') ∧ _)
      have kk : KeepP t l p μ m3 := (s3'.tr a4'.p (Nat.le_refl _) (Nat.le_refl _)).tr d1.p (Nat.le_refl _) (Nat.le_refl _)
      have hb : rd m3 7 t p = nI l := by rw [d1.1.rd (by decide), a4.1.rd (by decide)]; exact s4
      rcases Re_eats_sp hT d3 g1 (x := 59) ⟨by decide, by decide⟩ with ⟨a5, a6⟩ | ⟨a5, hk2, m4, a6, a7, a8⟩
      · rw [if_neg a5, bnd2_of a6, if_pos rfl]
        exact Or.inl ⟨k1, m3, rfl, rfl, d3.2.2.2.1, fun j hj => (d3.2.2.2.2.2 j hj).1, kk⟩
      · rw [if_pos a5, bnd2_of a6, if_neg (by decide)]
        have hN2 : l + cs.length ≤ 160 := by omega
        have a8' : Keep t (l + cs.length) m3 m4 := ⟨a8.1, a8.2.1, fun i hi => a8.2.2 i (by omega)⟩
        refine Or.inr ⟨k1 + 1, cs, m4, rfl, hk2, by omega, g5 (by decide), rfl, a7, d4.keep a8' (Nat.le_refl _), by rw [a8.1.rd (by decide)]; exact hb, kk.tr a8'.p (by omega) (Nat.le_refl _)⟩
/-- a text lies in the class: three rows of codes behind one another -/
def TextA (t : Nat) (c0 c1 c2 : List Int32) (μ : Mem) : Prop := rd μ 7 t 0 = nI 0 ∧ rd μ 7 t 1 = nI c0.length ∧ rd μ 7 t 2 = nI (c0.length + c1.length) ∧ rd μ 7 t 3 = nI (c0.length + c1.length + c2.length) ∧ c0.length + c1.length + c2.length ≤ 160 ∧ Hold t 0 c0 μ ∧ Hold t c0.length c1 μ ∧ Hold t (c0.length + c1.length) c2 μ
theorem cut_TokN {B : Nat → Int32} {z n : Nat} (h0 : 0 < n) (h1 : ∀ i, i + 1 < n → goodT B z i) (h2 : ¬ goodT B z (n - 1)) (hz : z ≤ 160) : TokN (tkT B z) (tkV B z) n := by
  refine ⟨h0, ?_, ?_, ?_, ?_⟩
  · have := good_count (B := B) (z := z) (k := n - 1) (fun i hi => h1 i (by omega))
    omega
  · unfold goodT at h2
    by_cases e : tkT B z (n - 1) = 13
    · exact Or.inl e
    · by_cases e2 : tkT B z (n - 1) = 14
      · exact Or.inr e2
      · exact absurd ⟨e, e2⟩ h2
  · intro k hk
    unfold tkT tokT at hk
    unfold tkV tokV
    split at hk
    · cases hk
    · rename_i hp
      split at hk
      · rename_i hl
        rw [if_neg hp, if_pos hl]
        decide
      · rename_i hl
        rw [if_neg hp, if_neg hl]
        split at hk
        · rename_i hd
          rw [if_pos hd]
          split at hk
          · cases hk
          · rename_i h4
            -- at most four digits
            have dg : ∀ q, posK B z k ≤ q → q < sp isDi B z (posK B z k) → ix (B q) - 48 ≤ 9 := by
              intro q q1 q2
              have := sp_all q1 q2
              unfold isDi at this
              simp only [Bool.and_eq_true, Bool.not_eq_true', decide_eq_false_iff_not] at this
              have h0 : ¬ B q < 0 := fun x => this.1 (Int32.lt_trans x (by decide))
              obtain ⟨j, hj, ej⟩ := nI_of h0
              rw [ej] at this ⊢
              rw [ix_nI hj]
              rcases Nat.lt_or_ge 57 j with w | w
              · exact absurd (nI_lt w hj) this.2
              · omega
            have grow : ∀ c p a, p + c ≤ sp isDi B z (posK B z k) → posK B z k ≤ p → numA B c p a < 10 ^ c * (a + 1) := by
              intro c
              induction c with
              | zero => intro p a _ _; simp [numA]
              | succ c ih =>
                intro p a h5 h6
                rw [numA]
                have := dg p h6 (by omega)
                have h7 := ih (p + 1) (10 * a + (ix (B p) - 48)) (by omega) (by omega)
                refine Nat.lt_of_lt_of_le h7 ?_
                rw [Nat.pow_succ, Nat.mul_assoc]
                exact Nat.mul_le_mul (Nat.le_refl _) (by omega)
            have h8 := grow (sp isDi B z (posK B z k) - posK B z k) (posK B z k) 0 (by have := sp_ge isDi B z (posK B z k); omega) (Nat.le_refl _)
            have h9 : (10 : Nat) ^ (sp isDi B z (posK B z k) - posK B z k) ≤ 10 ^ 4 := Nat.pow_le_pow_right (by decide) (by omega)
            omega
        · rename_i hd
          rw [if_neg hd]
          decide
  · intro k hk
    unfold tkT tokT at hk ⊢
    split at hk
    · exact absurd hk (by decide)
    · rename_i hp
      rw [if_neg hp]
      split at hk
      · rename_i hl
        rw [if_pos hl]
        rcases wordC_in B (posK B z k) (sp isLe B z (posK B z k)) with ⟨v, hv, e⟩ | e
        · rw [e] at hk ⊢
          have h6 : (6 : Int32) = nI 6 := rfl
          rw [h6, nI_ltI (by omega) (by omega)] at hk
          exact ⟨v, hk, rfl⟩
        · rw [e] at hk
          exact absurd hk (by decide)
      · split at hk
        · split at hk
          · exact absurd hk (by decide)
          · exact absurd hk (by decide)
        · split at hk
          · rename_i hs
            unfold isSg at hs
            simp only [Bool.or_eq_true, decide_eq_true_eq] at hs
            rcases hs with ((((((h | h) | h) | h) | h) | h) | h) | h <;> rw [h] at hk <;> exact absurd hk (by decide)
          · exact absurd hk (by decide)
/-- what reading a text may change: its own rows, the reader, the tape -/
def RdOff (t : Nat) (μ μ' : Mem) : Prop := Off [6, 7, 9, 10, 12, 13, 14] μ μ' ∧ ∀ t' : Nat, t' ≠ t → μ'.1 6 t' = μ.1 6 t' ∧ μ'.1 7 t' = μ.1 7 t'
theorem Re_read_sp {B : Nat → Int32} {z t : Nat} {μ : Mem} (hB : TapeA B z μ) (ht : t < 6) : ∃ r μ', gText (tkT B z) (tkV B z) = some r ∧ RdOff t μ μ' ∧ rd μ' 10 0 1 = 0 ∧ (match r.2 with | none => Re_read t μ = some (nI (posK B z r.1), μ') | some (c0, c1, c2) => Re_read t μ = some (-1, μ') ∧ TextA t c0 c1 c2 μ' ∧ One c0 ∧ One c1 ∧ One c2) := by
  have hz := hB.1
  obtain ⟨m0, em0⟩ : ∃ m, m = up (up (up μ 9 0 1 (nI t)) 9 0 2 0) 9 0 3 0 := ⟨_, rfl⟩
  have hB0 : TapeA B z m0 := by rw [em0]; exact ((hB.up (by decide) (by decide)).up (by decide) (by decide)).up (by decide) (by decide)
  obtain ⟨m1, c1, c2, c3, n, c4, c5, c6, c7⟩ := Ta_cut_sp hB0
  have hT := cut_TokN c5 c6 c7 hz
  have hN := hT.2.1
  obtain ⟨m2, em2⟩ : ∃ m, m = up m1 9 0 4 (tkT B z 0) := ⟨_, rfl⟩
  have hS : RS (tkT B z) (tkV B z) n t 0 0 m2 := by
    refine ⟨ht, ?_, ?_, ?_, ?_, fun j hj => ?_⟩
    · rw [em2, rd_up_j (by decide), c2.rd (by decide), em0, rd_up_j (by decide), rd_up_j (by decide), rd_up_s]
    · rw [em2, rd_up_j (by decide), c2.rd (by decide), em0, rd_up_j (by decide), rd_up_s]; rfl
    · rw [em2, rd_up_j (by decide), c2.rd (by decide), em0, rd_up_s]; rfl
    · rw [em2, rd_up_s]
    · rw [em2, rd_up_f (by decide), rd_up_f (by decide)]
      exact ⟨(c4 j hj).1, fun _ => (c4 j hj).2.2⟩
  have o2 : Off [6, 7, 9, 10, 12, 13, 14] μ m2 := by
    rw [em2]
    refine Off.wr' (Off.tr ?_ (c2.mono (by decide))) (by decide)
    rw [em0]
    exact ((Off.rf.wr' (by decide)).wr' (by decide)).wr' (by decide)
  have r2 : ∀ t' : Nat, t' ≠ t → m2.1 6 t' = μ.1 6 t' ∧ m2.1 7 t' = μ.1 7 t' := by
    intro t' _
    have h6 : Off [9, 10, 12, 13, 14] μ m2 := by
      rw [em2]
      refine Off.wr' (Off.tr ?_ (c2.mono (by decide))) (by decide)
      rw [em0]
      exact ((Off.rf.wr' (by decide)).wr' (by decide)).wr' (by decide)
    exact ⟨h6.2 6 t' (by decide), h6.2 7 t' (by decide)⟩
  have hp2 : ∀ j, j < n → rd m2 13 0 j = nI (posK B z j) := fun j hj => by rw [em2, rd_up_f (by decide)]; exact (c4 j hj).2.1
  have start : Re_read t μ = (bnd2 (Re_readsParts m2) fun r9 μ10 => if r9 = 0 then Re_read_56 0 μ10 else if rd μ10 9 0 4 = 13 then Re_read_56 1 μ10 else Re_read_56 0 μ10) := by
    unfold Re_read
    simp only [nm_eq]
    rw [← em0, bnd_of c1, chk_eq _ (by decide), show rd m1 12 0 (ix 0) = tkT B z 0 from (c4 0 c5).1, ← em2]
  -- the end with 0: the fault's place
  have bad : ∀ (k' : Nat) (m : Mem), k' < n → rd m 9 0 3 = nI k' → Off [6, 7, 9] m2 m → Re_read_56 0 m = some (nI (posK B z k'), up m 10 0 1 0) := by
    intro k' m hk' h1 h2
    unfold Re_read_56
    rw [nm_eq, if_pos rfl, rd_up_f (by decide), h1, chk_eq _ (inb_nI (by omega) (by omega)), ix_nI (by omega), rd_up_f (by decide), h2.rd (by decide), hp2 k' hk']
  have fin : ∀ (m : Mem) (l p : Nat), KeepP t l p m2 m → RdOff t μ (up m 10 0 1 0) ∧ rd (up m 10 0 1 0) 10 0 1 = 0 := by
    intro m l p h
    refine ⟨⟨(o2.tr (h.1.mono (by decide))).wr' (by decide), fun t' q => ?_⟩, rd_up_s _ _ _ _ _⟩
    rw [up_off _ _ (fun z => absurd z.1 (by decide)), up_off _ _ (fun z => absurd z.1 (by decide)), (h.2.1 t' q).1, (h.2.1 t' q).2]
    exact r2 t' q
  rw [start]
  unfold gText
  rcases Re_part_sp (F := 999) (p := 0) hT hS c5 (Nat.le_refl _) (by decide) with ⟨k', m3, p1, p2, p3, p4, p5⟩ | ⟨k0, cs0, m3, p1, a0, b0, one0, p2, s3, h3, g3, kp3⟩
  · have p2 : Re_readsParts m2 = some (0, m3) := p2
    have hk' : k' < n := by
      obtain ⟨r, e, q, -⟩ := gPart_ok hT (p := 0) (k := 0) (by decide) c5
      rw [p1] at e; cases e; exact q
    rw [p1, bnd2_of p2, if_pos rfl, bad k' m3 hk' p3 p5.1]
    exact ⟨_, _, rfl, (fin m3 _ _ p5).1, (fin m3 _ _ p5).2, rfl⟩
  · rw [p1]
    have p2 : Re_readsParts m2 = Re_readsParts_2L 999 (nI 1) m3 := p2
    show ∃ r μ', (sq2 (gPart (tkT B z) (tkV B z) 1 k0) fun k1 c1 => sq2 (gPart (tkT B z) (tkV B z) 2 k1) fun k2 c2 => if tkT B z k2 = 13 then some (k2, some (cs0, c1, c2)) else some (k2, none)) = some r ∧ _
    rcases Re_part_sp (F := 998) (p := 1) hT s3 a0 b0 (by decide) with ⟨k', m4, q1, q2, q3, q4, q5⟩ | ⟨k1, cs1, m4, q1, a1, b1, one1, q2, s4, h4, g4, kp4⟩
    · have hk' : k' < n := by
        obtain ⟨r, e, q, -⟩ := gPart_ok hT (p := 1) (k := k0) (by decide) a0
        rw [q1] at e; cases e; exact q
      have kk := kp3.tr q5 (by omega) (by decide)
      rw [q1, p2, bnd2_of q2, if_pos rfl, bad k' m4 hk' q3 kk.1]
      exact ⟨_, _, rfl, (fin m4 _ _ kk).1, (fin m4 _ _ kk).2, rfl⟩
    · rw [q1]
      show ∃ r μ', (sq2 (gPart (tkT B z) (tkV B z) 2 k1) fun k2 c2 => if tkT B z k2 = 13 then some (k2, some (cs0, cs1, c2)) else some (k2, none)) = some r ∧ _
      rcases Re_part_sp (F := 997) (p := 2) hT s4 a1 b1 (by decide) with ⟨k', m5, w1, w2, w3, w4, w5⟩ | ⟨k2, cs2, m5, w1, a2, b2, one2, w2, s5, h5, g5, kp5⟩
      · have hk' : k' < n := by
          obtain ⟨r, e, q, -⟩ := gPart_ok hT (p := 2) (k := k1) (by decide) a1
          rw [w1] at e; cases e; exact q
        have kk := (kp3.tr kp4 (by omega) (by decide)).tr w5 (by omega) (by decide)
        rw [w1, p2, q2, bnd2_of w2, if_pos rfl, bad k' m5 hk' w3 kk.1]
        exact ⟨_, _, rfl, (fin m5 _ _ kk).1, (fin m5 _ _ kk).2, rfl⟩
      · rw [w1]
        obtain ⟨m6, v1, v2, v3, v4⟩ := Re_begin_sp s5 (p := 3) (by decide)
        have endp : Re_readsParts m2 = some (1, m6) := by
          rw [p2, q2, w2]
          show Re_readsParts_2 (Re_readsParts_2L 996) (nI 3) m5 = _
          unfold Re_readsParts_2
          rw [litI 3, if_neg (nI_nlt (by omega) (by omega)), bnd_of v1]
        rw [bnd2_of endp, if_neg (by decide), v2.tk]
        have kp2 : KeepP t 0 0 m2 m5 := (kp3.tr kp4 (by omega) (by decide)).tr kp5 (by omega) (by decide)
        have kk := kp2.tr v3 (by omega) (by decide)
        show ∃ r μ', (if tkT B z k2 = 13 then some (k2, some (cs0, cs1, cs2)) else some (k2, none)) = some r ∧ _
        by_cases h13 : tkT B z k2 = 13
        · rw [if_pos h13, if_pos h13]
          have e56 : Re_read_56 1 m6 = some (-1, up m6 10 0 1 0) := by
            unfold Re_read_56
            rw [nm_eq, if_neg (by decide)]
          have l0 : 0 + cs0.length = cs0.length := Nat.zero_add _
          rw [e56]
          refine ⟨_, _, rfl, (fin m6 _ _ kk).1, (fin m6 _ _ kk).2, rfl, ⟨?_, ?_, ?_, ?_, by omega, ?_, ?_, ?_⟩, one0, one1, one2⟩
          · rw [rd_up_f (by decide), v3.2.2.2 0 (by decide), kp5.2.2.2 0 (by decide), kp4.2.2.2 0 (by decide)]; exact g3
          · rw [rd_up_f (by decide), v3.2.2.2 1 (by decide), kp5.2.2.2 1 (by decide), g4, l0]
          · rw [rd_up_f (by decide), v3.2.2.2 2 (by decide), g5, l0]
          · rw [rd_up_f (by decide), v4, l0]
          · intro i hi
            rw [rd_up_f (by decide)]
            exact ((h3.keepP kp4 (by omega)).keepP kp5 (by omega)).keepP v3 (by omega) i hi
          · intro i hi
            rw [rd_up_f (by decide)]
            have := ((h4.keepP kp5 (by omega)).keepP v3 (by omega)) i hi
            rw [l0] at this
            exact this
          · intro i hi
            rw [rd_up_f (by decide)]
            have := (h5.keepP v3 (by omega)) i hi
            rw [l0] at this
            exact this
        · rw [if_neg h13, if_neg h13, bad k2 m6 a2 v2.2.2.2.1 kk.1]
          exact ⟨_, _, rfl, (fin m6 _ _ kk).1, (fin m6 _ _ kk).2, rfl⟩
