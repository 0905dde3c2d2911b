/-! ===== the grammar ends; the class reads by it ===== -/
theorem One.ne {cs : List Int32} (h : One cs) : 0 < cs.length := by
  cases cs with
  | nil => have := h.1 0; cases this
  | cons a l => exact Nat.succ_pos _
def rkG (w : Nat) : Nat := 7 - w
theorem grm_total {T : Nat → Int32} {Q : Nat → Nat} {N : Nat} (hT : TokN T Q N) : ∀ (n w o k : Nat), k < N → w ≤ 10 → 12 * (N - k) + rkG w < n → ∃ r, gr T Q n w o k = some r := by
  intro n
  induction n with
  | zero => intro w o k hk hw h; omega
  | succ n ih =>
    intro w o k hk hw hn
    have two : ∀ {a b : Nat}, a < 7 → rkG a < rkG w → 7 ≤ b → b ≤ 10 → ∃ r, (sq (gr T Q n a o k) fun k1 c1 => sq (gr T Q n b o k1) fun k2 c2 => some (k2, some (c1 ++ c2))) = some r := by
      intro a b ha hr hb hb2
      obtain ⟨r1, e1⟩ := ih a o k hk (by omega) (by omega)
      obtain ⟨g1, g2, g3⟩ := grm_ok hT n a o k r1 hk e1
      rw [e1]
      match r1, g1, g2, g3 with
      | (k1, none), g1, g2, g3 => exact ⟨_, rfl⟩
      | (k1, some c1), g1, g2, g3 =>
        obtain ⟨g4, g5, -⟩ := g3 c1 rfl
        have g6 := (g5 ha).ne
        dsimp only at g1 g2 g4
        have hb7 : rkG b = 0 := by unfold rkG; omega
        obtain ⟨r2, e2⟩ := ih b o k1 g1 hb2 (by omega)
        show ∃ r, (sq (gr T Q n b o k1) fun k2 c2 => some (k2, some (c1 ++ c2))) = some r
        rw [e2]
        match r2 with
        | (k2, none) => exact ⟨_, rfl⟩
        | (k2, some c2) => exact ⟨_, rfl⟩
    have round : ∀ {a : Nat} {c : Int32}, a < 7 → k + 1 < N → (sq (gr T Q n a o (k + 1)) fun k1 c1 => sq (gr T Q n w o k1) fun k2 c2 => some (k2, some (c1 ++ ([c] ++ c2)))) ≠ none := by
      intro a c ha hk1
      have ha2 : rkG a ≤ 7 := by unfold rkG; omega
      obtain ⟨r1, e1⟩ := ih a o (k + 1) hk1 (by omega) (by omega)
      obtain ⟨g1, g2, g3⟩ := grm_ok hT n a o (k + 1) r1 hk1 e1
      rw [e1]
      match r1, g1, g2, g3 with
      | (k1, none), g1, g2, g3 => intro q; cases q
      | (k1, some c1), g1, g2, g3 =>
        dsimp only at g1 g2
        obtain ⟨r2, e2⟩ := ih w o k1 g1 hw (by omega)
        show (sq (gr T Q n w o k1) fun k2 c2 => some (k2, some (c1 ++ ([c] ++ c2)))) ≠ none
        rw [e2]
        match r2 with
        | (k2, none) => intro q; cases q
        | (k2, some c2) => intro q; cases q
    have nxt : ∀ {t : Int32}, T k = t → t ≠ 13 → t ≠ 14 → k + 1 < N := fun e h1 h2 => hT.lt hk (by rw [e]; exact h1) (by rw [e]; exact h2)
    have ex : ∀ {x : Option (Nat × Option (List Int32))}, x ≠ none → ∃ r, x = some r := fun {x} h => by
      cases x with
      | none => exact absurd rfl h
      | some r => exact ⟨r, rfl⟩
    match w, hw, hn, @two, @round with
    | 0, hw, hn, two, round => exact two (a := 1) (b := 7) (by decide) (by decide) (by decide) (by decide)
    | 1, hw, hn, two, round => exact two (a := 2) (b := 8) (by decide) (by decide) (by decide) (by decide)
    | 4, hw, hn, two, round => exact two (a := 5) (b := 9) (by decide) (by decide) (by decide) (by decide)
    | 5, hw, hn, two, round => exact two (a := 6) (b := 10) (by decide) (by decide) (by decide) (by decide)
    | 2, hw, hn, two, round =>
      show ∃ r, (if T k = 11 then (if o < 5 then sq (gr T Q n 2 (o + 1) (k + 1)) fun k1 c1 => some (k1, some (c1 ++ [-11])) else some (k, none)) else gr T Q n 3 o k) = some r
      by_cases h1 : T k = 11
      · rw [if_pos h1]
        by_cases h2 : o < 5
        · rw [if_pos h2]
          obtain ⟨r1, e1⟩ := ih 2 (o + 1) (k + 1) (nxt h1 (by decide) (by decide)) (by decide) (by have : rkG 2 = 5 := rfl; omega)
          rw [e1]
          match r1 with
          | (k1, none) => exact ⟨_, rfl⟩
          | (k1, some c1) => exact ⟨_, rfl⟩
        · rw [if_neg h2]; exact ⟨_, rfl⟩
      · rw [if_neg h1]
        exact ih 3 o k hk (by decide) (by have : rkG 2 = 5 := rfl; have : rkG 3 = 4 := rfl; omega)
    | 3, hw, hn, two, round =>
      show ∃ r, (sq (gr T Q n 4 o k) fun k1 c1 => if T k1 = 60 ∨ T k1 = 61 then sq (gr T Q n 4 o (k1 + 1)) fun k2 c2 => some (k2, some (c1 ++ (c2 ++ [-(T k1)]))) else some (k1, some c1)) = some r
      obtain ⟨r1, e1⟩ := ih 4 o k hk (by decide) (by have : rkG 4 = 3 := rfl; have : rkG 3 = 4 := rfl; omega)
      obtain ⟨g1, g2, g3⟩ := grm_ok hT n 4 o k r1 hk e1
      rw [e1]
      match r1, g1, g2 with
      | (k1, none), g1, g2 => exact ⟨_, rfl⟩
      | (k1, some c1), g1, g2 =>
        dsimp only at g1 g2
        show ∃ r, (if T k1 = 60 ∨ T k1 = 61 then sq (gr T Q n 4 o (k1 + 1)) fun k2 c2 => some (k2, some (c1 ++ (c2 ++ [-(T k1)]))) else some (k1, some c1)) = some r
        by_cases h1 : T k1 = 60 ∨ T k1 = 61
        · rw [if_pos h1]
          have hk1 : k1 + 1 < N := hT.lt g1 (by rcases h1 with q | q <;> rw [q] <;> decide) (by rcases h1 with q | q <;> rw [q] <;> decide)
          obtain ⟨r2, e2⟩ := ih 4 o (k1 + 1) hk1 (by decide) (by have : rkG 4 = 3 := rfl; omega)
          rw [e2]
          match r2 with
          | (k2, none) => exact ⟨_, rfl⟩
          | (k2, some c2) => exact ⟨_, rfl⟩
        · rw [if_neg h1]; exact ⟨_, rfl⟩
    | 6, hw, hn, two, round =>
      show ∃ r, (if T k = 12 then some (k + 1, some [nI (Q k)])
        else if T k < 6 then some (k + 1, some [(-1) - T k])
        else if T k = 45 then (if o < 5 then sq (gr T Q n 6 (o + 1) (k + 1)) fun k1 c1 => some (k1, some (c1 ++ [-100])) else some (k, none))
        else if T k = 40 then (if o < 5 then sq (gr T Q n 0 (o + 1) (k + 1)) fun k1 c1 => (if T k1 = 41 then some (k1 + 1, some c1) else some (k1, none)) else some (k, none))
        else some (k, none)) = some r
      by_cases h1 : T k = 12
      · rw [if_pos h1]; exact ⟨_, rfl⟩
      · rw [if_neg h1]
        by_cases h2 : T k < 6
        · rw [if_pos h2]; exact ⟨_, rfl⟩
        · rw [if_neg h2]
          by_cases h3 : T k = 45
          · rw [if_pos h3]
            by_cases h4 : o < 5
            · rw [if_pos h4]
              obtain ⟨r1, e1⟩ := ih 6 (o + 1) (k + 1) (nxt h3 (by decide) (by decide)) (by decide) (by have : rkG 6 = 1 := rfl; omega)
              rw [e1]
              match r1 with
              | (k1, none) => exact ⟨_, rfl⟩
              | (k1, some c1) => exact ⟨_, rfl⟩
            · rw [if_neg h4]; exact ⟨_, rfl⟩
          · rw [if_neg h3]
            by_cases h5 : T k = 40
            · rw [if_pos h5]
              by_cases h4 : o < 5
              · rw [if_pos h4]
                obtain ⟨r1, e1⟩ := ih 0 (o + 1) (k + 1) (nxt h5 (by decide) (by decide)) (by decide) (by have : rkG 0 = 7 := rfl; have : rkG 6 = 1 := rfl; omega)
                rw [e1]
                match r1 with
                | (k1, none) => exact ⟨_, rfl⟩
                | (k1, some c1) =>
                  show ∃ r, (if T k1 = 41 then some (k1 + 1, some c1) else some (k1, none)) = some r
                  split
                  · exact ⟨_, rfl⟩
                  · exact ⟨_, rfl⟩
              · rw [if_neg h4]; exact ⟨_, rfl⟩
            · rw [if_neg h5]; exact ⟨_, rfl⟩
    | 7, hw, hn, two, round =>
      show ∃ r, (if T k = 9 then sq (gr T Q n 1 o (k + 1)) fun k1 c1 => sq (gr T Q n 7 o k1) fun k2 c2 => some (k2, some (c1 ++ ([-9] ++ c2))) else some (k, some [])) = some r
      by_cases h1 : T k = 9
      · rw [if_pos h1]; exact ex (round (by decide) (nxt h1 (by decide) (by decide)))
      · rw [if_neg h1]; exact ⟨_, rfl⟩
    | 8, hw, hn, two, round =>
      show ∃ r, (if T k = 10 then sq (gr T Q n 2 o (k + 1)) fun k1 c1 => sq (gr T Q n 8 o k1) fun k2 c2 => some (k2, some (c1 ++ ([-10] ++ c2))) else some (k, some [])) = some r
      by_cases h1 : T k = 10
      · rw [if_pos h1]; exact ex (round (by decide) (nxt h1 (by decide) (by decide)))
      · rw [if_neg h1]; exact ⟨_, rfl⟩
    | 9, hw, hn, two, round =>
      show ∃ r, (if T k = 43 ∨ T k = 45 then sq (gr T Q n 5 o (k + 1)) fun k1 c1 => sq (gr T Q n 9 o k1) fun k2 c2 => some (k2, some (c1 ++ ([-(T k)] ++ c2))) else some (k, some [])) = some r
      by_cases h1 : T k = 43 ∨ T k = 45
      · rw [if_pos h1]; exact ex (round (by decide) (hT.lt hk (by rcases h1 with q | q <;> rw [q] <;> decide) (by rcases h1 with q | q <;> rw [q] <;> decide)))
      · rw [if_neg h1]; exact ⟨_, rfl⟩
    | 10, hw, hn, two, round =>
      show ∃ r, (if T k = 42 then sq (gr T Q n 6 o (k + 1)) fun k1 c1 => sq (gr T Q n 10 o k1) fun k2 c2 => some (k2, some (c1 ++ ([-42] ++ c2))) else some (k, some [])) = some r
      by_cases h1 : T k = 42
      · rw [if_pos h1]; exact ex (round (by decide) (nxt h1 (by decide) (by decide)))
      · rw [if_neg h1]; exact ⟨_, rfl⟩
    | w + 11, hw, hn, two, round => exact absurd hw (by omega)
/-! the reader's state: text t, at token k, l codes -/
def RS (T : Nat → Int32) (Q : Nat → Nat) (N t k l : Nat) (μ : Mem) : Prop := t < 6 ∧ rd μ 9 0 1 = nI t ∧ rd μ 9 0 2 = nI l ∧ rd μ 9 0 3 = nI k ∧ rd μ 9 0 4 = T k ∧ ∀ j, j < N → rd μ 12 0 j = T j ∧ (T j = 12 → rd μ 14 0 j = nI (Q j))
def Keep (t l : Nat) (μ μ' : Mem) : Prop := Off [6, 9] μ μ' ∧ (∀ t' : Nat, t' ≠ t → μ'.1 6 t' = μ.1 6 t') ∧ ∀ i, i < l → rd μ' 6 t i = rd μ 6 t i
theorem Keep.rf {t l : Nat} {μ : Mem} : Keep t l μ μ := ⟨Off.rf, fun _ _ => rfl, fun _ _ => rfl⟩
theorem Keep.tr {t l l' : Nat} {a b c : Mem} (h : Keep t l a b) (h2 : Keep t l' b c) (hl : l ≤ l') : Keep t l a c := ⟨h.1.tr h2.1, fun t' q => (h2.2.1 t' q).trans (h.2.1 t' q), fun i q => (h2.2.2 i (by omega)).trans (h.2.2 i q)⟩
def Hold (t l : Nat) (cs : List Int32) (μ : Mem) : Prop := ∀ i, i < cs.length → rd μ 6 t (l + i) = cs.getD i 0
theorem Hold.app {t l : Nat} {a b : List Int32} {μ : Mem} (ha : Hold t l a μ) (hb : Hold t (l + a.length) b μ) : Hold t l (a ++ b) μ := by
  intro i hi
  rw [List.length_append] at hi
  rcases Nat.lt_or_ge i a.length with q | q
  · rw [ha i q, List.getD_eq_getElem?_getD, List.getD_eq_getElem?_getD, List.getElem?_append_left q]
  · have := hb (i - a.length) (by omega)
    rw [show l + a.length + (i - a.length) = l + i by omega] at this
    rw [this, List.getD_eq_getElem?_getD, List.getD_eq_getElem?_getD, List.getElem?_append_right q]
theorem Hold.keep {t l l' : Nat} {cs : List Int32} {μ μ' : Mem} (h : Hold t l cs μ) (k : Keep t l' μ μ') (hl : l + cs.length ≤ l') : Hold t l cs μ' := fun i hi => (k.2.2 _ (by omega)).trans (h i hi)
theorem RS.i0 {T : Nat → Int32} {Q : Nat → Nat} {N t k l : Nat} {μ : Mem} (h : RS T Q N t k l μ) : ¬ rd μ 9 0 1 = -1 ∧ ix (rd μ 9 0 1) = t := by
  have ht := h.1
  rw [h.2.1]
  exact ⟨nI_neg1 (by omega), ix_nI (by omega)⟩
theorem Re_pass_sp {T : Nat → Int32} {Q : Nat → Nat} {N t k l : Nat} {μ : Mem} (hN : N ≤ 161) (h : RS T Q N t k l μ) (hk : k + 1 < N) : ∃ μ', Re_pass μ = some μ' ∧ RS T Q N t (k + 1) l μ' ∧ Keep t 160 μ μ' := by
  obtain ⟨h1, h2, h3, h4, h5, h6⟩ := h
  refine ⟨up (up μ 9 0 3 (nI (k + 1))) 9 0 4 (T (k + 1)), ?_, ⟨h1, ?_, ?_, ?_, ?_, fun j hj => ?_⟩, ⟨(Off.rf.wr' (by decide)).wr' (by decide), fun t' q => ?_, fun i hi => ?_⟩⟩
  · unfold Re_pass
    rw [h4, litI 160, if_pos (nI_lt (by omega) (by omega))]
    simp only [nm_eq]
    unfold Re_pass_20
    rw [nI_1, rd_up_s, chk_eq _ (inb_nI (by omega) (by omega)), ix_nI (by omega), rd_up_f (by decide), (h6 (k + 1) hk).1]
    rfl
  · rw [rd_up_j (by decide), rd_up_j (by decide)]; exact h2
  · rw [rd_up_j (by decide), rd_up_j (by decide)]; exact h3
  · rw [rd_up_j (by decide), rd_up_s]
  · rw [rd_up_s]
  · rw [rd_up_f (by decide), rd_up_f (by decide), rd_up_f (by decide), rd_up_f (by decide)]; exact h6 j hj
  · rw [up_off _ _ (fun z => absurd z.1 (by decide)), up_off _ _ (fun z => absurd z.1 (by decide))]
  · rw [rd_up_f (by decide), rd_up_f (by decide)]
theorem Re_put_sp {T : Nat → Int32} {Q : Nat → Nat} {N t k l : Nat} {μ : Mem} (c : Int32) (h : RS T Q N t k l μ) (hl : l < 160) : ∃ μ', Re_put c μ = some μ' ∧ RS T Q N t k (l + 1) μ' ∧ Keep t l μ μ' ∧ Hold t l [c] μ' := by
  obtain ⟨i1, i2⟩ := h.i0
  obtain ⟨h1, h2, h3, h4, h5, h6⟩ := h
  refine ⟨up (up μ 6 t l c) 9 0 2 (nI (l + 1)), ?_, ⟨h1, ?_, ?_, ?_, ?_, fun j hj => ?_⟩, ⟨(Off.rf.wr' (by decide)).wr' (by decide), fun t' q => ?_, fun i hi => ?_⟩, fun i hi => ?_⟩
  · unfold Re_put
    rw [if_neg i1, chk_eq _ ⟨i1, by rw [i2]; exact h1⟩, i2, h3, litI 160, if_pos (nI_lt (by omega) (by omega)), chk_eq _ (inb_nI (by omega) (by omega)), ix_nI (by omega)]
    simp only [nm_eq]
    rw [rd_up_f (by decide), h3, nI_1]
  · rw [rd_up_j (by decide), rd_up_f (by decide)]; exact h2
  · rw [rd_up_s]
  · rw [rd_up_j (by decide), rd_up_f (by decide)]; exact h4
  · rw [rd_up_j (by decide), rd_up_f (by decide)]; exact h5
  · rw [rd_up_f (by decide), rd_up_f (by decide), rd_up_f (by decide), rd_up_f (by decide)]; exact h6 j hj
  · rw [up_off _ _ (fun z => absurd z.1 (by decide)), up_off _ _ (fun z => q z.2)]
  · rw [rd_up_f (by decide), rd_up_j (by omega)]
  · have : i = 0 := by simp at hi; exact hi
    subst this
    rw [rd_up_f (by decide)]
    exact rd_up_s _ _ _ _ _
