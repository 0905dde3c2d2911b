/-! ===== what the two constructors leave ===== -/
def B0A : Nat → Int32 := fun i => schr 0 i
def B0M : Nat → Int32 := fun i => ([104, 101, 97, 116, 115, 32, 55, 32, 59, 32, 99, 97, 108, 109, 115, 32, 116, 104, 105, 110, 103, 32, 59, 32, 102, 101, 101, 108, 115, 32, 116, 104, 105, 110, 103, 32, 42, 32, 51, 32, 59, 32, 32, 32, 32, 32, 32, 32] : List Int32).getD i 0
theorem g0A_ok : ((gText (tkT B0A 41) (tkV B0A 41)).bind (·.2)).isSome = true := by decide +kernel
theorem g0_eq : (gText (tkT B0M 48) (tkV B0M 48)).bind (·.2) = (gText (tkT B0A 41) (tkV B0A 41)).bind (·.2) := by decide +kernel
def z0I : Nat → Int32 := fun _ => 0
def mem0A : Nat → Nat → Nat → Int32 := fun f _ => ([z0I, fun j => ([0, 60] : List Int32).getD j 0, z0I, z0I, z0I, z0I, z0I, z0I, z0I, fun j => ([0, -1, 0, 0, 13] : List Int32).getD j 0, z0I, z0I, z0I, z0I, z0I, z0I, fun j => ([-1] : List Int32).getD j 0, z0I, fun j => ([0, 0, 0, 0, 0, 0, 0, 0, -1] : List Int32).getD j 0, z0I, fun j => ([0, 1] : List Int32).getD j 0] : List (Nat → Int32)).getD f z0I
def μ0A : Mem := (mem0A, 0)
def mem0B : Nat → Nat → Nat → Int32 := fun f _ => ([fun j => ([0, 0, 0, 0, 0, 0, 0, 0, 60, 0, 0, 0, 0, 0, 0, 0, 0, 0, 0, 0, 0, 0, 0, 0, 0, 0, 0, 0, 0, 0, 0, 0, 0, 0, 0, 0, 0, 0, 0, 0, 0, 0, -1] : List Int32).getD j 0] : List (Nat → Int32)).getD f z0I
def μ0B : Mem := (mem0B, 0)
theorem Ta_wl : ∀ (d i n : Nat) (μ : Mem), i + d = 41 → d < n → rd μ 10 0 1 = nI 41 → ∃ μ', Ta_write_16L n 0 (nI i) μ = some μ' ∧ (∀ k, i ≤ k → k < 41 → rd μ' 11 0 k = schr 0 k) ∧ ∀ f a k, (f = 11 → k < i) → rd μ' f a k = rd μ f a k := by
  intro d
  induction d with
  | zero =>
    intro i n μ h1 h2 h3
    obtain ⟨m, rfl⟩ : ∃ m, n = m + 1 := ⟨n - 1, by omega⟩
    refine ⟨μ, ?_, fun k q w => absurd q (by omega), fun f a k _ => rfl⟩
    show Ta_write_16 (Ta_write_16L m) 0 (nI i) μ = some μ
    unfold Ta_write_16
    rw [h3, if_neg (fun q => by have := (nI_ltI (by omega) (by omega)).mp q; omega)]
  | succ d ih =>
    intro i n μ h1 h2 h3
    obtain ⟨m, rfl⟩ : ∃ m, n = m + 1 := ⟨n - 1, by omega⟩
    obtain ⟨μ', e1, e2, e3⟩ := ih (i + 1) m (up μ 11 0 i (schr 0 i)) (by omega) (by omega) (by rw [rd_up_f (by decide)]; exact h3)
    refine ⟨μ', ?_, fun k q w => ?_, fun f a k q => ?_⟩
    · show Ta_write_16 (Ta_write_16L m) 0 (nI i) μ = some μ'
      unfold Ta_write_16
      rw [h3, if_pos ((nI_ltI (by omega) (by omega)).mpr (by omega)), chk_eq _ (inb_nI (show i < lenJS.getD 0 0 from (by omega : i < 41)) (by decide)), chk_eq _ (inb_nI (show i < 160 by omega) (by decide))]
      simp only [nm_eq]
      rw [ix_nI (by omega), show nI i + 1 = nI (i + 1) by rw [← nI_add]; rfl]
      exact e1
    · by_cases c : k = i
      · subst c
        rw [e3 11 0 k (fun _ => by omega), rd_up_s]
      · exact e2 k (by omega) w
    · rw [e3 f a k (fun w => by have := q w; omega)]
      by_cases c : f = 11
      · subst c
        have := q rfl
        rw [rd_up_j (by omega)]
      · rw [rd_up_f c]
def InitA (x : List Int32 × List Int32 × List Int32) (μ : Mem) : Prop := rd μ 0 0 2 = 0 ∧ (rd μ 1 0 0 = 0 ∧ rd μ 1 0 1 = 60 ∧ rd μ 1 0 2 = 0 ∧ rd μ 1 0 3 = 0) ∧ rd μ 0 0 4 = 1 ∧ TXA x 0 μ ∧ rd μ 10 0 1 = 0 ∧ ∀ s, s < 4 → rd μ 16 s 0 = -1
theorem initA : ∃ x μ1 μ2, (gText (tkT B0A 41) (tkV B0A 41)).bind (·.2) = some x ∧ Ta_write 0 μ0A = some μ1 ∧ Re_read 0 μ1 = some (-1, μ2) ∧ InitA x (up μ2 0 0 4 1) := by
  obtain ⟨μ1, a1, a2, a3⟩ := Ta_wl 41 0 1000 (up μ0A 10 0 1 (nI 41)) rfl (by decide) (rd_up_s _ _ _ _ _)
  have hT : TapeA B0A 41 μ1 := ⟨by decide, by rw [a3 10 0 1 (fun q => absurd q (by decide))]; exact rd_up_s _ _ _ _ _, fun i hi => a2 i (Nat.zero_le _) hi⟩
  obtain ⟨r, μ2, b1, b2, b3, b4⟩ := Re_read_sp (t := 0) hT (by decide)
  have hs := g0A_ok
  rw [b1] at hs ⊢
  obtain ⟨k, rr⟩ := r
  cases rr with
  | none => cases hs
  | some x =>
    obtain ⟨c0, c1, c2⟩ := x
    obtain ⟨d1, d2, d3, d4, d5⟩ := b4
    have q : ∀ f i j, f ∉ [6, 7, 9, 10, 12, 13, 14] → f ≠ 11 → rd μ2 f i j = mem0A f i j := fun f i j h1 h2 => by
      rw [b2.1.rd h1 i j, a3 f i j (fun z => absurd z h2), rd_up_f (fun z => h1 (by rw [z]; decide))]
      rfl
    have a0 : Ta_write 0 μ0A = some μ1 := by
      unfold Ta_write
      rw [nm_eq, show imn (slen 0) 160 = nI 41 by decide, show (0 : Int32) = nI 0 from rfl]
      exact a1
    refine ⟨(c0, c1, c2), μ1, μ2, rfl, a0, d1, ?_, ⟨?_, ?_, ?_, ?_⟩, rd_up_s _ _ _ _ _, ⟨?_, d3, d4, d5⟩, ?_, fun s hs => ?_⟩
    · rw [rd_up_j (by decide), q 0 0 2 (by decide) (by decide)]; rfl
    · rw [rd_up_f (by decide), q 1 0 0 (by decide) (by decide)]; rfl
    · rw [rd_up_f (by decide), q 1 0 1 (by decide) (by decide)]; rfl
    · rw [rd_up_f (by decide), q 1 0 2 (by decide) (by decide)]; rfl
    · rw [rd_up_f (by decide), q 1 0 3 (by decide) (by decide)]; rfl
    · obtain ⟨g0, g1, g2, g3, g4, g5, g6, g7⟩ := d2
      exact ⟨by rw [rd_up_f (by decide)]; exact g0, by rw [rd_up_f (by decide)]; exact g1, by rw [rd_up_f (by decide)]; exact g2, by rw [rd_up_f (by decide)]; exact g3, g4, fun i hi => by rw [rd_up_f (by decide)]; exact g5 i hi, fun i hi => by rw [rd_up_f (by decide)]; exact g6 i hi, fun i hi => by rw [rd_up_f (by decide)]; exact g7 i hi⟩
    · rw [rd_up_f (by decide)]; exact b3
    · rw [rd_up_f (by decide), q 16 s 0 (by decide) (by decide)]; rfl
theorem M_spell_sp {a : Nat} (ha : a + 8 ≤ 960) (y1 y2 y3 y4 y5 y6 y7 y8 : Int32) (ν : Mem) : ∃ ν', M_spell (nI a) y1 y2 y3 y4 y5 y6 y7 y8 ν = some ν' ∧ (∀ k, k < 8 → rd ν' 1 0 (a + k) = ([y1, y2, y3, y4, y5, y6, y7, y8] : List Int32).getD k 0) ∧ ∀ f i j, (f = 1 → j < a ∨ a + 8 ≤ j) → rd ν' f i j = rd ν f i j := by
  have e : ∀ k : Nat, nI a + nI k = nI (a + k) := fun k => by rw [nI_add]
  unfold M_spell
  rw [show (1 : Int32) = nI 1 from rfl, show (2 : Int32) = nI 2 from rfl, show (3 : Int32) = nI 3 from rfl, show (4 : Int32) = nI 4 from rfl, show (5 : Int32) = nI 5 from rfl, show (6 : Int32) = nI 6 from rfl, show (7 : Int32) = nI 7 from rfl]
  simp only [nm_eq, e]
  rw [chk_eq _ (inb_nI (by omega) (by decide)), chk_eq _ (inb_nI (by omega) (by decide)), chk_eq _ (inb_nI (by omega) (by decide)), chk_eq _ (inb_nI (by omega) (by decide)), chk_eq _ (inb_nI (by omega) (by decide)), chk_eq _ (inb_nI (by omega) (by decide)), chk_eq _ (inb_nI (by omega) (by decide)), chk_eq _ (inb_nI (by omega) (by decide))]
  rw [ix_nI (by omega), ix_nI (by omega), ix_nI (by omega), ix_nI (by omega), ix_nI (by omega), ix_nI (by omega), ix_nI (by omega), ix_nI (by omega)]
  refine ⟨_, rfl, fun k hk => ?_, fun f i j h => ?_⟩
  · obtain rfl | rfl | rfl | rfl | rfl | rfl | rfl | rfl : k = 0 ∨ k = 1 ∨ k = 2 ∨ k = 3 ∨ k = 4 ∨ k = 5 ∨ k = 6 ∨ k = 7 := by omega
    all_goals (simp [rd_up])
  · by_cases c : f = 1
    · have := h c
      rw [rd_up_j (by omega), rd_up_j (by omega), rd_up_j (by omega), rd_up_j (by omega), rd_up_j (by omega), rd_up_j (by omega), rd_up_j (by omega), rd_up_j (by omega)]
    · rw [rd_up_f c, rd_up_f c, rd_up_f c, rd_up_f c, rd_up_f c, rd_up_f c, rd_up_f c, rd_up_f c]
def InitM (x : List Int32 × List Int32 × List Int32) (ν : Mem) : Prop := (rd ν 0 0 7 = 0 ∧ rd ν 0 0 8 = 60 ∧ rd ν 0 0 4 = 0 ∧ rd ν 0 0 12 = 0) ∧ rd ν 0 0 3 = 1 ∧ rd ν 0 0 6 = 0 ∧ rd ν 0 0 42 = -1 ∧ (∀ s, s < 4 → rd ν 13 0 s = 0) ∧ TXM x 0 ν
theorem initM {x : List Int32 × List Int32 × List Int32} (hx : (gText (tkT B0A 41) (tkV B0A 41)).bind (·.2) = some x) : ∃ ν1 ν2 ν3 ν4 ν5 ν6, M_spell 0 104 101 97 116 115 32 55 32 μ0B = some ν1 ∧ M_spell 8 59 32 99 97 108 109 115 32 ν1 = some ν2 ∧ M_spell 16 116 104 105 110 103 32 59 32 ν2 = some ν3 ∧ M_spell 24 102 101 101 108 115 32 116 104 ν3 = some ν4 ∧ M_spell 32 105 110 103 32 42 32 51 32 ν4 = some ν5 ∧ M_spell 40 59 32 32 32 32 32 32 32 ν5 = some ν6 ∧ InitM x (up (up ν6 2 0 0 48) 0 0 3 1) := by
  obtain ⟨ν1, a1, b1, c1⟩ := M_spell_sp (a := 0) (by decide) 104 101 97 116 115 32 55 32 μ0B
  obtain ⟨ν2, a2, b2, c2⟩ := M_spell_sp (a := 8) (by decide) 59 32 99 97 108 109 115 32 ν1
  obtain ⟨ν3, a3, b3, c3⟩ := M_spell_sp (a := 16) (by decide) 116 104 105 110 103 32 59 32 ν2
  obtain ⟨ν4, a4, b4, c4⟩ := M_spell_sp (a := 24) (by decide) 102 101 101 108 115 32 116 104 ν3
  obtain ⟨ν5, a5, b5, c5⟩ := M_spell_sp (a := 32) (by decide) 105 110 103 32 42 32 51 32 ν4
  obtain ⟨ν6, a6, b6, c6⟩ := M_spell_sp (a := 40) (by decide) 59 32 32 32 32 32 32 32 ν5
  have off : ∀ f i j, f ≠ 1 → rd ν6 f i j = mem0B f i j := fun f i j h => by
    rw [c6 f i j (fun q => absurd q h), c5 f i j (fun q => absurd q h), c4 f i j (fun q => absurd q h), c3 f i j (fun q => absurd q h), c2 f i j (fun q => absurd q h), c1 f i j (fun q => absurd q h)]
    rfl
  have tx : ∀ i, i < 48 → rd ν6 1 0 i = B0M i := by
    intro i hi
    by_cases h6 : 40 ≤ i
    · obtain ⟨k, rfl⟩ := Nat.exists_eq_add_of_le h6
      rw [b6 k (by omega)]
      obtain rfl | rfl | rfl | rfl | rfl | rfl | rfl | rfl : k = 0 ∨ k = 1 ∨ k = 2 ∨ k = 3 ∨ k = 4 ∨ k = 5 ∨ k = 6 ∨ k = 7 := by omega
      all_goals rfl
    rw [c6 1 0 i (fun _ => by omega)]
    by_cases h5 : 32 ≤ i
    · obtain ⟨k, rfl⟩ := Nat.exists_eq_add_of_le h5
      rw [b5 k (by omega)]
      obtain rfl | rfl | rfl | rfl | rfl | rfl | rfl | rfl : k = 0 ∨ k = 1 ∨ k = 2 ∨ k = 3 ∨ k = 4 ∨ k = 5 ∨ k = 6 ∨ k = 7 := by omega
      all_goals rfl
    rw [c5 1 0 i (fun _ => by omega)]
    by_cases h4 : 24 ≤ i
    · obtain ⟨k, rfl⟩ := Nat.exists_eq_add_of_le h4
      rw [b4 k (by omega)]
      obtain rfl | rfl | rfl | rfl | rfl | rfl | rfl | rfl : k = 0 ∨ k = 1 ∨ k = 2 ∨ k = 3 ∨ k = 4 ∨ k = 5 ∨ k = 6 ∨ k = 7 := by omega
      all_goals rfl
    rw [c4 1 0 i (fun _ => by omega)]
    by_cases h3 : 16 ≤ i
    · obtain ⟨k, rfl⟩ := Nat.exists_eq_add_of_le h3
      rw [b3 k (by omega)]
      obtain rfl | rfl | rfl | rfl | rfl | rfl | rfl | rfl : k = 0 ∨ k = 1 ∨ k = 2 ∨ k = 3 ∨ k = 4 ∨ k = 5 ∨ k = 6 ∨ k = 7 := by omega
      all_goals rfl
    rw [c3 1 0 i (fun _ => by omega)]
    by_cases h2 : 8 ≤ i
    · obtain ⟨k, rfl⟩ := Nat.exists_eq_add_of_le h2
      rw [b2 k (by omega)]
      obtain rfl | rfl | rfl | rfl | rfl | rfl | rfl | rfl : k = 0 ∨ k = 1 ∨ k = 2 ∨ k = 3 ∨ k = 4 ∨ k = 5 ∨ k = 6 ∨ k = 7 := by omega
      all_goals rfl
    rw [c2 1 0 i (fun _ => by omega)]
    have := b1 i (by omega)
    rw [Nat.zero_add] at this
    rw [this]
    obtain rfl | rfl | rfl | rfl | rfl | rfl | rfl | rfl : i = 0 ∨ i = 1 ∨ i = 2 ∨ i = 3 ∨ i = 4 ∨ i = 5 ∨ i = 6 ∨ i = 7 := by omega
    all_goals rfl
  have pos : ∀ i, i < 48 → ¬ B0M i < 0 := by decide
  have hg := g0_eq.trans hx
  obtain ⟨⟨k, rr⟩, g1, g2⟩ : ∃ r, gText (tkT B0M 48) (tkV B0M 48) = some r ∧ r.2 = some x := by
    cases e : gText (tkT B0M 48) (tkV B0M 48) with
    | none => rw [e] at hg; cases hg
    | some r => exact ⟨r, rfl, by rw [e] at hg; exact hg⟩
  obtain rfl : rr = some x := g2
  refine ⟨ν1, ν2, ν3, ν4, ν5, ν6, a1, a2, a3, a4, a5, a6, ⟨?_, ?_, ?_, ?_⟩, rd_up_s _ _ _ _ _, ?_, ?_, fun s hs => ?_, B0M, 48, k, ⟨by decide, by decide, ?_, fun i hi => ?_, pos⟩, g1⟩
  · rw [rd_up_j (by decide), rd_up_f (by decide), off 0 0 7 (by decide)]; rfl
  · rw [rd_up_j (by decide), rd_up_f (by decide), off 0 0 8 (by decide)]; rfl
  · rw [rd_up_j (by decide), rd_up_f (by decide), off 0 0 4 (by decide)]; rfl
  · rw [rd_up_j (by decide), rd_up_f (by decide), off 0 0 12 (by decide)]; rfl
  · rw [rd_up_j (by decide), rd_up_f (by decide), off 0 0 6 (by decide)]; rfl
  · rw [rd_up_j (by decide), rd_up_f (by decide), off 0 0 42 (by decide)]; rfl
  · rw [rd_up_f (by decide), rd_up_f (by decide), off 13 0 s (by decide)]; rfl
  · rw [rd_up_f (by decide), rd_up_s]; rfl
  · rw [rd_up_f (by decide), rd_up_f (by decide), Nat.mul_zero, Nat.zero_add]; exact tx i hi
theorem inv_first {x : List Int32 × List Int32 × List Int32} {μ ν : Mem} (hA : InitA x μ) (hM : InitM x ν) : Inv μ ν := by
  obtain ⟨a1, ⟨a2, a3, a4, a5⟩, a6, a7, a8, a9⟩ := hA
  obtain ⟨⟨m1, m2, m3, m4⟩, m5, m6, m7, m8, m9⟩ := hM
  refine ⟨fun j => if j = 1 then 60 else 0, fun _ _ => 0, 1, fun _ => x, fun _ => 0, 0, fun _ => 3, fun _ => 0, fun _ _ => 0, ⟨⟨by decide, by decide, by decide, by decide, fun g h => absurd h (by simp), fun g g' h => absurd h (by simp)⟩, by decide, ⟨fun j hj => ?_, fun g j h => absurd h (by simp)⟩, m1, m2, m3, m4, fun g h => absurd h (by simp)⟩, ⟨⟨a6, fun t ht => ?_⟩, m5, fun t ht => ?_⟩, ⟨⟨by decide, a8, fun i h => absurd h (by omega)⟩, m6, fun i h => absurd h (by omega)⟩, ⟨fun s hs => ⟨Nat.le_refl 3, Nat.zero_le _⟩, fun s hs => ?_, fun s hs => ?_⟩, Or.inl ⟨a1, m7⟩⟩
  · obtain rfl | rfl | rfl | rfl : j = 0 ∨ j = 1 ∨ j = 2 ∨ j = 3 := by omega
    · exact a2
    · exact a3
    · exact a4
    · exact a5
  · obtain rfl : t = 0 := by omega
    exact a7
  · obtain rfl : t = 0 := by omega
    exact m9
  · rw [if_pos rfl]; exact a9 s hs
  · rw [if_pos rfl]; exact m8 s hs
