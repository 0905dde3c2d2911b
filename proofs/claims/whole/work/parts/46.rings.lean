/-! ===== ring, rings ===== -/
theorem or_bit : ∀ m : Nat, m < 64 → ∀ g : Nat, g < 6 → nI m ||| shl 1 (nI g) = nI (m ||| 2 ^ g) := by decide +kernel
theorem bit_at : ∀ m : Nat, m < 64 → ∀ g : Nat, g < 6 → (shr (nI m) (nI g)) &&& 1 = (if m.testBit g then 1 else 0) := by decide +kernel
theorem or_lt : ∀ n : Nat, n ≤ 6 → ∀ m : Nat, m < 2 ^ n → ∀ g : Nat, g < n → m ||| 2 ^ g < 2 ^ n := fun n _ m hm g hg => Nat.or_lt_two_pow hm (Nat.pow_lt_pow_right (by decide) hg)
def pc (m : Nat) : Nat := m % 2 + m / 2 % 2 + m / 4 % 2 + m / 8 % 2 + m / 16 % 2 + m / 32 % 2
theorem pc_or : ∀ m : Nat, m < 64 → ∀ g : Nat, g < 6 → m.testBit g = false → pc (m ||| 2 ^ g) = pc m + 1 := by decide +kernel
theorem pc_le : ∀ n : Nat, n < 7 → ∀ m : Nat, m < 64 → m < 2 ^ n → pc m ≤ n := by decide +kernel
theorem p64 {n m : Nat} (hn : n ≤ 6) (h : m < 2 ^ n) : m < 64 := Nat.lt_of_lt_of_le h (Nat.pow_le_pow_right (n := 2) (by decide) hn)
/-- the way round from x -/
def orb (w : Nat → Nat) (x : Nat) : Nat → Nat
  | 0 => x
  | k + 1 => w (orb w x k)
def mk (w : Nat → Nat) (x : Nat) : Nat → Nat
  | 0 => 0
  | k + 1 => mk w x k ||| 2 ^ orb w x k
theorem orb_lt {w : Nat → Nat} {n x : Nat} (hw : ∀ g, g < n → w g < n) (hx : x < n) : ∀ k, orb w x k < n
  | 0 => hx
  | k + 1 => hw _ (orb_lt hw hx k)
theorem mk_lt {w : Nat → Nat} {n x : Nat} (hn : n ≤ 6) (hw : ∀ g, g < n → w g < n) (hx : x < n) : ∀ k, mk w x k < 2 ^ n
  | 0 => Nat.two_pow_pos n
  | k + 1 => or_lt n hn _ (mk_lt hn hw hx k) _ (orb_lt hw hx k)
theorem mk_bit (w : Nat → Nat) (x y : Nat) : ∀ k, (mk w x k).testBit y = true ↔ ∃ i, i < k ∧ orb w x i = y
  | 0 => by
    show (0 : Nat).testBit y = true ↔ _
    rw [Nat.zero_testBit]
    exact ⟨fun h => (by cases h), fun ⟨i, hi, _⟩ => absurd hi (by omega)⟩
  | k + 1 => by
    show (mk w x k ||| 2 ^ orb w x k).testBit y = true ↔ _
    rw [Nat.testBit_or, Nat.testBit_two_pow, Bool.or_eq_true, mk_bit w x y k, decide_eq_true_iff]
    constructor
    · rintro (⟨i, hi, e⟩ | e)
      · exact ⟨i, by omega, e⟩
      · exact ⟨k, by omega, e⟩
    · rintro ⟨i, hi, e⟩
      by_cases q : i = k
      · subst q; exact Or.inr e
      · exact Or.inl ⟨i, by omega, e⟩
theorem or_in {m g : Nat} (h : m.testBit g = true) : m ||| 2 ^ g = m := by
  apply Nat.eq_of_testBit_eq
  intro i
  rw [Nat.testBit_or, Nat.testBit_two_pow]
  by_cases q : g = i
  · subst q; rw [h]; rfl
  · rw [decide_eq_false q, Bool.or_false]
theorem mk_stays {w : Nat → Nat} {x k : Nat} (h : (mk w x k).testBit (orb w x k) = true) : ∀ j, (mk w x k).testBit (orb w x (k + j)) = true ∧ mk w x (k + j) = mk w x k
  | 0 => ⟨h, rfl⟩
  | j + 1 => by
    obtain ⟨h1, h2⟩ := mk_stays h j
    have e : mk w x (k + (j + 1)) = mk w x k := by
      show mk w x (k + j) ||| 2 ^ orb w x (k + j) = _
      rw [h2, or_in h1]
    refine ⟨?_, e⟩
    obtain ⟨i, hi, ei⟩ := (mk_bit w x _ k).mp h1
    have e2 : orb w x (k + (j + 1)) = orb w x (i + 1) := by
      show w (orb w x (k + j)) = w (orb w x i)
      rw [ei]
    rw [e2]
    by_cases q : i + 1 = k
    · rw [q]; exact h
    · exact (mk_bit w x _ k).mpr ⟨i + 1, by omega, rfl⟩
theorem S_ringOf_sp {n x : Nat} {w : Nat → Nat} {μ : Mem} (hn : n ≤ 6) (h3 : rd μ 1 0 3 = nI n) (hw : ∀ g, g < n → w g < n ∧ rd μ 2 g 4 = nI (w g)) (hx : x < n) : S_ringOf (nI x) μ = some (nI (mk w x n)) := by
  have hw1 : ∀ g, g < n → w g < n := fun g hg => (hw g hg).1
  have key : ∀ (k i F : Nat), i + k = n → k < F → S_ringOf_7L F (nI (mk w x i)) (nI (orb w x i)) (nI i) μ = some (nI (mk w x n)) := by
    intro k
    induction k with
    | zero =>
      intro i F hi hF
      obtain ⟨F, rfl⟩ : ∃ F', F = F' + 1 := ⟨F - 1, by omega⟩
      have : i = n := by omega
      subst this
      show S_ringOf_7 _ _ _ _ _ = _
      unfold S_ringOf_7
      rw [h3, if_neg (nI_nlt (by omega) (by omega))]
    | succ k ih =>
      intro i F hi hF
      obtain ⟨F, rfl⟩ : ∃ F', F = F' + 1 := ⟨F - 1, by omega⟩
      have ho := orb_lt hw1 hx i
      have hm := p64 hn (mk_lt hn hw1 hx i)
      show S_ringOf_7 _ _ _ _ _ = _
      unfold S_ringOf_7
      rw [h3, if_pos (nI_lt (by omega) (by omega)), nm_eq, or_bit _ hm _ (by omega), chk_eq _ (inb_nI (by omega) (by omega)), nm_eq, nm_eq, ix_nI (by omega), (hw _ ho).2, nI_1]
      exact ih (i + 1) F (by omega) (by omega)
  exact key n 0 1000 (by omega) (by omega)
theorem M_ringOf_sp {n x : Nat} {w : Nat → Nat} {ν : Mem} (hn : n ≤ 6) (hw : ∀ g, g < n → w g < n ∧ rd ν 6 0 g = nI (w g)) (hx : x < n) : M_ringOf (nI x) ν = some (nI (mk w x n)) := by
  have hw1 : ∀ g, g < n → w g < n := fun g hg => (hw g hg).1
  have key : ∀ (k i F : Nat), i + k = n → k < F → pc (mk w x i) = i → M_ringOf_4L F (nI (mk w x i)) (nI (orb w x i)) ν = some (nI (mk w x n)) := by
    intro k
    induction k with
    | zero =>
      intro i F hi hF hp
      obtain ⟨F, rfl⟩ : ∃ F', F = F' + 1 := ⟨F - 1, by omega⟩
      have : i = n := by omega
      subst this
      have ho := orb_lt hw1 hx i
      have hm := p64 hn (mk_lt hn hw1 hx i)
      have hb : (mk w x i).testBit (orb w x i) = true := by
        cases hb : (mk w x i).testBit (orb w x i)
        · exfalso
          have a := pc_or _ hm _ (by omega) hb
          have b := pc_le i (by omega) (mk w x (i + 1)) (p64 hn (mk_lt hn hw1 hx (i + 1))) (mk_lt hn hw1 hx (i + 1))
          have c : mk w x (i + 1) = mk w x i ||| 2 ^ orb w x i := rfl
          rw [c, a] at b
          omega
        · rfl
      show M_ringOf_4 _ _ _ _ = _
      unfold M_ringOf_4
      rw [bit_at _ hm _ (by omega), hb, if_neg (by decide)]
    | succ k ih =>
      intro i F hi hF hp
      obtain ⟨F, rfl⟩ : ∃ F', F = F' + 1 := ⟨F - 1, by omega⟩
      have ho := orb_lt hw1 hx i
      have hm := p64 hn (mk_lt hn hw1 hx i)
      show M_ringOf_4 _ _ _ _ = _
      unfold M_ringOf_4
      rw [bit_at _ hm _ (by omega)]
      cases hb : (mk w x i).testBit (orb w x i)
      · rw [if_pos (by decide), nm_eq, or_bit _ hm _ (by omega), chk_eq _ (inb_nI (by omega) (by omega)), nm_eq, ix_nI (by omega), (hw _ ho).2]
        exact ih (i + 1) F (by omega) (by omega) (by
          show pc (mk w x i ||| 2 ^ orb w x i) = i + 1
          rw [pc_or _ hm _ (by omega) hb, hp])
      · rw [if_neg (by decide)]
        have := (mk_stays hb (n - i)).2
        rw [show i + (n - i) = n by omega] at this
        rw [this]
  exact key n 0 1000 (by omega) (by omega) (by show pc 0 = 0; decide)
theorem bitsJ : ∀ m : Nat, m < 64 → J_bitCount (nI m) = nI (pc m) := by decide +kernel
theorem bitsM : ∀ m : Nat, m < 64 → M_bitsOf (nI m) = some (nI (pc m)) := by decide +kernel
/-- both sides see the ring of a groom -/
def RB (n : Nat) (rg : Nat → Nat) (μ ν : Mem) : Prop := n ≤ 6 ∧ rd μ 1 0 3 = nI n ∧ rd ν 0 0 12 = nI n ∧ ∀ g, g < n → rg g < 64 ∧ S_ringOf (nI g) μ = some (nI (rg g)) ∧ M_ringOf (nI g) ν = some (nI (rg g))
theorem RB_of {hs : Nat → Nat} {gr : Nat → Nat → Nat} {tc : Nat} {μ ν : Mem} (h : HOK hs gr tc) (hA : HA 0 hs gr μ) (hM : HM hs gr ν) : RB (hs 3) (fun g => mk (fun a => gr a 4) g (hs 3)) μ ν := by
  have hn := h.2.2.2.1
  refine ⟨hn, hA.1 3 (by decide), hM.2.2.2.1, fun g hg => ⟨p64 hn (mk_lt hn (fun a ha => (h.2.2.2.2.1 a ha).2.2.2.2) hg _), S_ringOf_sp hn (hA.1 3 (by decide)) (fun a ha => ⟨(h.2.2.2.2.1 a ha).2.2.2.2, hA.2 a 4 ha (by decide)⟩) hg, M_ringOf_sp hn (fun a ha => ⟨(h.2.2.2.2.1 a ha).2.2.2.2, (hM.2.2.2.2 a ha).2.2.2.2⟩) hg⟩⟩
theorem ring_agree (x1 : Int32) {μ ν : Mem} (I : Inv μ ν) : ∃ r, S_ring x1 μ = some r ∧ M_ring x1 ν = some r := by
  obtain ⟨hs, gr, tc, X, B, z, sk, sm', sv, ⟨h, ht, hA, hM⟩, -, -, -, -⟩ := I
  have hn := h.2.2.2.1
  obtain ⟨-, r1, r2, r3⟩ := RB_of h hA hM
  rcases S_isGroom_sp (x := x1) r1 with ⟨p, e⟩ | ⟨p, e⟩
  · obtain ⟨g, hg, rfl⟩ := gOK_nI p (by omega)
    obtain ⟨a1, a2, a3⟩ := r3 g hg
    refine ⟨nI (mk (fun a => gr a 4) g (hs 3)), ?_, ?_⟩
    · unfold S_ring
      rw [e, nm_eq, if_neg (by decide), bnd_of a2]
    · unfold M_ring
      rw [bnd_of (M_isOne_sp r2 (by omega)), if_pos p, if_neg (by decide), bnd_of a3]
  · refine ⟨-2, ?_, ?_⟩
    · unfold S_ring
      rw [e, nm_eq, if_pos rfl]
    · unfold M_ring
      rw [bnd_of (M_isOne_sp r2 (by omega)), if_neg p, if_pos rfl]
theorem ringCount_both {n : Nat} {rg : Nat → Nat} {μ ν : Mem} (R : RB n rg μ ν) : ∃ r, S_ringCount μ = some r ∧ M_ringMany ν = some r := by
  obtain ⟨hn, r1, r2, r3⟩ := R
  have key : ∀ (k g F : Nat) (acc : Int32), g + k = n → k < F → ∃ r, S_ringCount_4L F acc (nI g) μ = some r ∧ M_ringMany_4L F acc (nI g) ν = some r := by
    intro k
    induction k with
    | zero =>
      intro g F acc hg hF
      obtain ⟨F, rfl⟩ : ∃ F', F = F' + 1 := ⟨F - 1, by omega⟩
      refine ⟨acc, ?_, ?_⟩
      · show S_ringCount_4 _ _ _ _ = _
        unfold S_ringCount_4
        rw [r1, if_neg (nI_nlt (by omega) (by omega))]
      · show M_ringMany_4 _ _ _ _ = _
        unfold M_ringMany_4
        rw [r2, if_neg (nI_nlt (by omega) (by omega))]
    | succ k ih =>
      intro g F acc hg hF
      obtain ⟨F, rfl⟩ : ∃ F', F = F' + 1 := ⟨F - 1, by omega⟩
      obtain ⟨a1, a2, a3⟩ := r3 g (by omega)
      by_cases q : nI (rg g) &&& (shl 1 (nI g) - 1) = 0
      · obtain ⟨r, b1, b2⟩ := ih (g + 1) F (acc + 1) (by omega) (by omega)
        refine ⟨r, ?_, ?_⟩
        · show S_ringCount_4 _ _ _ _ = _
          unfold S_ringCount_4 S_ringCount_34 S_ringCount_42
          rw [r1, if_pos (nI_lt (by omega) (by omega)), bnd_of a2, if_pos q, if_neg (by decide), nm_eq, nm_eq, nI_1]
          exact b1
        · show M_ringMany_4 _ _ _ _ = _
          unfold M_ringMany_4 M_ringMany_32
          rw [r2, if_pos (nI_lt (by omega) (by omega)), bnd_of a3, if_pos q, nm_eq, nm_eq, nI_1]
          exact b2
      · obtain ⟨r, b1, b2⟩ := ih (g + 1) F acc (by omega) (by omega)
        refine ⟨r, ?_, ?_⟩
        · show S_ringCount_4 _ _ _ _ = _
          unfold S_ringCount_4 S_ringCount_34 S_ringCount_42
          rw [r1, if_pos (nI_lt (by omega) (by omega)), bnd_of a2, if_neg q, if_pos (by decide), nm_eq, nI_1]
          exact b1
        · show M_ringMany_4 _ _ _ _ = _
          unfold M_ringMany_4 M_ringMany_32
          rw [r2, if_pos (nI_lt (by omega) (by omega)), bnd_of a3, if_neg q, nm_eq, nm_eq, nI_1, Int32.add_zero]
          exact b2
  exact key n 0 1000 0 (by omega) (by omega)
theorem firstChange_both {n : Nat} {rg : Nat → Nat} {μ ν : Mem} (R : RB n rg μ ν) : ∃ r, S_firstChange μ = some r ∧ M_firstChange ν = some r := by
  obtain ⟨hn, r1, r2, r3⟩ := R
  have inner : ∀ (F1 F2 a : Nat), a < n → (∃ r, S_firstChange_2L F1 (nI (a + 1)) μ = some r ∧ M_firstChange_2L F2 (nI (a + 1)) ν = some r) → ∀ (k b F : Nat), b + k = n → k < F → ∃ r, S_firstChange_23L (S_firstChange_2L F1) F (nI a) (nI (rg a)) (nI b) μ = some r ∧ M_firstChange_14L (M_firstChange_2L F2) F (nI a) (nI b) ν = some r := by
    intro F1 F2 a ha ho k
    induction k with
    | zero =>
      intro b F hb hF
      obtain ⟨F, rfl⟩ : ∃ F', F = F' + 1 := ⟨F - 1, by omega⟩
      obtain ⟨r, o1, o2⟩ := ho
      refine ⟨r, ?_, ?_⟩
      · show S_firstChange_23 _ _ _ _ _ _ = _
        unfold S_firstChange_23
        rw [r1, if_neg (nI_nlt (by omega) (by omega)), nm_eq, nI_1]
        exact o1
      · show M_firstChange_14 _ _ _ _ _ = _
        unfold M_firstChange_14
        rw [r2, if_neg (nI_nlt (by omega) (by omega)), nm_eq, nI_1]
        exact o2
    | succ k ih =>
      intro b F hb hF
      obtain ⟨F, rfl⟩ : ∃ F', F = F' + 1 := ⟨F - 1, by omega⟩
      obtain ⟨a1, a2, a3⟩ := r3 a ha
      obtain ⟨r, b1, b2⟩ := ih (b + 1) F (by omega) (by omega)
      have eS : S_firstChange_23L (S_firstChange_2L F1) (F + 1) (nI a) (nI (rg a)) (nI b) μ = if shr (nI (rg a)) (nI b) &&& 1 = 1 then some (10 * nI a + nI b) else S_firstChange_23L (S_firstChange_2L F1) F (nI a) (nI (rg a)) (nI (b + 1)) μ := by
        show S_firstChange_23 _ _ _ _ _ _ = _
        unfold S_firstChange_23
        rw [r1, if_pos (nI_lt (by omega) (by omega)), nm_eq, nI_1]
      have eM : M_firstChange_14L (M_firstChange_2L F2) (F + 1) (nI a) (nI b) ν = if shr (nI (rg a)) (nI b) &&& 1 = 1 then some (10 * nI a + nI b) else M_firstChange_14L (M_firstChange_2L F2) F (nI a) (nI (b + 1)) ν := by
        show M_firstChange_14 _ _ _ _ _ = _
        unfold M_firstChange_14
        rw [r2, if_pos (nI_lt (by omega) (by omega)), bnd_of a3, nm_eq, nI_1]
      rw [eS, eM]
      by_cases q : shr (nI (rg a)) (nI b) &&& 1 = 1
      · rw [if_pos q, if_pos q]; exact ⟨_, rfl, rfl⟩
      · rw [if_neg q, if_neg q]; exact ⟨r, b1, b2⟩
  have key : ∀ (k a F : Nat), a + k = n → k < F → ∃ r, S_firstChange_2L F (nI a) μ = some r ∧ M_firstChange_2L F (nI a) ν = some r := by
    intro k
    induction k with
    | zero =>
      intro a F ha hF
      obtain ⟨F, rfl⟩ : ∃ F', F = F' + 1 := ⟨F - 1, by omega⟩
      refine ⟨-1, ?_, ?_⟩
      · show S_firstChange_2 _ _ _ = _
        unfold S_firstChange_2
        rw [r1, if_neg (nI_nlt (by omega) (by omega))]
      · show M_firstChange_2 _ _ _ = _
        unfold M_firstChange_2
        rw [r2, if_neg (nI_nlt (by omega) (by omega))]
    | succ k ih =>
      intro a F ha hF
      obtain ⟨F, rfl⟩ : ∃ F', F = F' + 1 := ⟨F - 1, by omega⟩
      obtain ⟨a1, a2, a3⟩ := r3 a (by omega)
      obtain ⟨r, b1, b2⟩ := inner F F a (by omega) (ih (a + 1) F (by omega) (by omega)) (n - (a + 1)) (a + 1) 1000 (by omega) (by omega)
      refine ⟨r, ?_, ?_⟩
      · show S_firstChange_2 _ _ _ = _
        unfold S_firstChange_2
        rw [r1, if_pos (nI_lt (by omega) (by omega)), bnd_of a2, nm_eq, nI_1]
        exact b1
      · show M_firstChange_2 _ _ _ = _
        unfold M_firstChange_2
        rw [r2, if_pos (nI_lt (by omega) (by omega)), nm_eq, nI_1]
        exact b2
  exact key n 0 1000 (by omega) (by omega)
/-- the longest ring, and who is in his own -/
theorem longest_both {n : Nat} {rg w : Nat → Nat} {μ ν : Mem} (R : RB n rg μ ν) (hw : ∀ g, g < n → w g < n ∧ rd μ 2 g 4 = nI (w g) ∧ rd ν 6 0 g = nI (w g)) : (∃ r, S_longestRing μ = some r ∧ M_rings_62L 1000 1 0 0 0 ν = some r) ∧ ∃ r, S_inOwn μ = some r ∧ M_rings_62L 1000 4 0 0 0 ν = some r := by
  obtain ⟨hn, r1, r2, r3⟩ := R
  have step : ∀ (F g x b m : Nat), g < n → b ≤ 6 → m < 2 ^ g → (x = 1 ∨ x = 4) → ∃ b' m', b' ≤ 6 ∧ m' < 2 ^ (g + 1) ∧ imx (nI b) (J_bitCount (nI (rg g))) = nI b' ∧ (if nI (w g) = nI g then nI m ||| shl 1 (nI g) else nI m) = nI m' ∧ M_rings_62L (F + 1) (nI x) (nI b) (nI m) (nI g) ν = M_rings_62L F (nI x) (nI b') (nI m') (nI (g + 1)) ν := by
    intro F g x b m hg hb hm hx
    obtain ⟨a1, a2, a3⟩ := r3 g hg
    obtain ⟨c1, c2, c3⟩ := hw g hg
    have hm64 : m < 64 := p64 (n := g) (by omega) hm
    have hpc := pc_le 6 (by omega) (rg g) a1 a1
    have eb : imx (nI b) (J_bitCount (nI (rg g))) = nI (if b < pc (rg g) then pc (rg g) else b) := by
      rw [bitsJ _ a1]
      unfold imx
      by_cases q : b < pc (rg g)
      · rw [if_pos q, if_pos (nI_lt q (by omega))]
      · rw [if_neg q, if_neg (nI_nlt (by omega) (by omega))]
    have em : (if nI (w g) = nI g then nI m ||| shl 1 (nI g) else nI m) = nI (if w g = g then m ||| 2 ^ g else m) := by
      by_cases q : w g = g
      · rw [if_pos q, if_pos (by rw [q]), or_bit _ hm64 _ (by omega)]
      · rw [if_neg q, if_neg (fun z => q ((nI_eq (by omega) (by omega)).mp z))]
    have hm' : (if w g = g then m ||| 2 ^ g else m) < 2 ^ (g + 1) := by
      split
      · exact or_lt (g + 1) (by omega) m (Nat.lt_of_lt_of_le hm (Nat.pow_le_pow_right (by decide) (by omega))) g (by omega)
      · exact Nat.lt_of_lt_of_le hm (Nat.pow_le_pow_right (by decide) (by omega))
    refine ⟨_, _, ?_, hm', eb, em, ?_⟩
    · split <;> omega
    · have e97 : ∀ y, M_rings_97 (M_rings_62L F) (nI x) (nI m) (nI g) y ν = M_rings_62L F (nI x) y (nI (if w g = g then m ||| 2 ^ g else m)) (nI (g + 1)) ν := by
        intro y
        unfold M_rings_97 M_rings_116
        rw [chk_eq _ (inb_nI (by omega) (by omega)), ix_nI (by omega), c3]
        simp only [nm_eq]
        rw [nI_1, or_bit _ hm64 _ (by omega)]
        by_cases q : w g = g
        · rw [if_pos q, if_pos (by rw [q])]
        · rw [if_neg q, if_neg (fun z => q ((nI_eq (by omega) (by omega)).mp z))]
          have : nI m ||| shl 0 (nI g) = nI m := by
            have : ∀ m : Nat, m < 64 → ∀ g : Nat, g < 6 → nI m ||| shl 0 (nI g) = nI m := by decide +kernel
            exact this m hm64 g (by omega)
          rw [this]
      show M_rings_62 _ _ _ _ _ _ = _
      unfold M_rings_62
      rw [r2, if_pos (nI_lt hg (by omega)), bnd_of a3, bnd_of (bitsM _ a1), bnd_of a3, bnd_of (bitsM _ a1), e97, e97]
      by_cases q : b < pc (rg g)
      · rw [if_pos q, if_pos (nI_lt q (by omega))]
      · rw [if_neg q, if_neg (nI_nlt (by omega) (by omega))]
  refine ⟨?_, ?_⟩
  · have key : ∀ (k g F b m : Nat), g + k = n → k < F → b ≤ 6 → m < 2 ^ g → ∃ r, S_longestRing_4L F (nI b) (nI g) μ = some r ∧ M_rings_62L F (nI 1) (nI b) (nI m) (nI g) ν = some r := by
      intro k
      induction k with
      | zero =>
        intro g F b m hg hF hb hm
        obtain ⟨F, rfl⟩ : ∃ F', F = F' + 1 := ⟨F - 1, by omega⟩
        refine ⟨nI b, ?_, ?_⟩
        · show S_longestRing_4 _ _ _ _ = _
          unfold S_longestRing_4
          rw [r1, if_neg (nI_nlt (by omega) (by omega))]
        · show M_rings_62 _ _ _ _ _ _ = _
          unfold M_rings_62
          rw [r2, if_neg (nI_nlt (by omega) (by omega)), if_pos (by decide)]
      | succ k ih =>
        intro g F b m hg hF hb hm
        obtain ⟨F, rfl⟩ : ∃ F', F = F' + 1 := ⟨F - 1, by omega⟩
        obtain ⟨a1, a2, a3⟩ := r3 g (by omega)
        obtain ⟨b', m', s1, s2, s3, s4, s5⟩ := step F g 1 b m (by omega) hb hm (Or.inl rfl)
        obtain ⟨r, t1, t2⟩ := ih (g + 1) F b' m' (by omega) (by omega) s1 s2
        refine ⟨r, ?_, by rw [s5]; exact t2⟩
        show S_longestRing_4 _ _ _ _ = _
        unfold S_longestRing_4
        rw [r1, if_pos (nI_lt (by omega) (by omega)), bnd_of a2, nm_eq, nm_eq, nm_eq, s3, nI_1]
        exact t1
    exact key n 0 1000 0 0 (by omega) (by omega) (by omega) (by decide)
  · have key : ∀ (k g F b m : Nat), g + k = n → k < F → b ≤ 6 → m < 2 ^ g → ∃ r, S_inOwn_4L F (nI m) (nI g) μ = some r ∧ M_rings_62L F (nI 4) (nI b) (nI m) (nI g) ν = some r := by
      intro k
      induction k with
      | zero =>
        intro g F b m hg hF hb hm
        obtain ⟨F, rfl⟩ : ∃ F', F = F' + 1 := ⟨F - 1, by omega⟩
        refine ⟨nI m, ?_, ?_⟩
        · show S_inOwn_4 _ _ _ _ = _
          unfold S_inOwn_4
          rw [r1, if_neg (nI_nlt (by omega) (by omega))]
        · show M_rings_62 _ _ _ _ _ _ = _
          unfold M_rings_62
          rw [r2, if_neg (nI_nlt (by omega) (by omega)), if_neg (by decide)]
      | succ k ih =>
        intro g F b m hg hF hb hm
        obtain ⟨F, rfl⟩ : ∃ F', F = F' + 1 := ⟨F - 1, by omega⟩
        obtain ⟨c1, c2, c3⟩ := hw g (by omega)
        obtain ⟨b', m', s1, s2, s3, s4, s5⟩ := step F g 4 b m (by omega) hb hm (Or.inr rfl)
        obtain ⟨r, t1, t2⟩ := ih (g + 1) F b' m' (by omega) (by omega) s1 s2
        refine ⟨r, ?_, by rw [s5]; exact t2⟩
        show S_inOwn_4 _ _ _ _ = _
        unfold S_inOwn_4 S_inOwn_37
        rw [r1, if_pos (nI_lt (by omega) (by omega)), chk_eq _ (inb_nI (by omega) (by omega)), ix_nI (by omega), c2]
        simp only [nm_eq]
        rw [nI_1]
        by_cases q : nI (w g) = nI g
        · rw [if_pos q] at s4 ⊢
          rw [s4]; exact t1
        · rw [if_neg q] at s4 ⊢
          rw [s4]; exact t1
    exact key n 0 1000 0 0 (by omega) (by omega) (by omega) (by decide)
theorem rings_agree (x1 : Int32) {μ ν : Mem} (I : Inv μ ν) : ∃ r, S_rings x1 μ = some r ∧ M_rings x1 ν = some r := by
  obtain ⟨hs, gr, tc, X, B, z, sk, sm', sv, ⟨h, ht, hA, hM⟩, -, -, -, -⟩ := I
  have R := RB_of h hA hM
  rcases M_in_or (x := x1) (b := 4) (by omega) with ⟨q, e⟩ | ⟨j, hj, rfl, e⟩
  · refine ⟨-2, ?_, ?_⟩
    · unfold S_rings
      rcases q with q | q
      · rw [if_neg (show ¬ x1 = 0 from neg_ne q (j := 0) (by omega)), if_neg (show ¬ x1 = 1 from neg_ne q (j := 1) (by omega)), if_neg (show ¬ x1 = 2 from neg_ne q (j := 2) (by omega)), if_neg (show ¬ x1 = 3 from neg_ne q (j := 3) (by omega)), if_neg (show ¬ x1 = 4 from neg_ne q (j := 4) (by omega))]
      · rw [if_neg (show ¬ x1 = 0 from big_ne q (j := 0) (by omega) (by omega)), if_neg (show ¬ x1 = 1 from big_ne q (j := 1) (by omega) (by omega)), if_neg (show ¬ x1 = 2 from big_ne q (j := 2) (by omega) (by omega)), if_neg (show ¬ x1 = 3 from big_ne q (j := 3) (by omega) (by omega)), if_neg (show ¬ x1 = 4 from big_ne q (j := 4) (by omega) (by omega))]
    · unfold M_rings
      rw [show M_in x1.toInt64 0 4 = 0 from e, nm_eq, if_pos rfl]
  have e : M_in (nI j).toInt64 0 4 = 1 := e
  have eM : M_rings (nI j) ν = ( if nI j = 0 then ( M_rings_24 (nI j) ν) else ( if nI j = 2 then ( M_rings_24 (nI j) ν) else ( if nI j = 3 then ( bnd (M_firstChange ν) fun r8 => some r8) else ( M_rings_62L 1000 (nI j) 0 0 0 ν)))) := by
    unfold M_rings
    rw [e, nm_eq, if_neg (by decide)]
  rw [eM]
  obtain ⟨l1, l2⟩ := longest_both (w := fun a => gr a 4) R (fun g hg => ⟨(h.2.2.2.2.1 g hg).2.2.2.2, hA.2 g 4 hg (by decide), (hM.2.2.2.2 g hg).2.2.2.2⟩)
  obtain rfl | rfl | rfl | rfl | rfl : j = 0 ∨ j = 1 ∨ j = 2 ∨ j = 3 ∨ j = 4 := by omega
  · obtain ⟨r, a1, a2⟩ := ringCount_both R
    refine ⟨r, ?_, ?_⟩
    · unfold S_rings
      rw [if_pos (by decide), bnd_of a1]
    · unfold M_rings_24
      rw [if_pos (by decide), if_pos (by decide), bnd_of a2]
  · obtain ⟨r, a1, a2⟩ := l1
    refine ⟨r, ?_, ?_⟩
    · unfold S_rings
      rw [if_neg (by decide), if_pos (by decide), bnd_of a1]
    · rw [if_neg (by decide), if_neg (by decide), if_neg (by decide)]
      exact a2
  · obtain ⟨r, a1, a2⟩ := ringCount_both R
    refine ⟨nI (hs 3) - r, ?_, ?_⟩
    · unfold S_rings
      rw [if_neg (by decide), if_neg (by decide), if_pos (by decide), bnd_of a1, hA.1 3 (by decide)]
    · unfold M_rings_24
      rw [if_neg (by decide), if_pos (by decide), if_neg (by decide), bnd_of a2, hM.2.2.2.1]
  · obtain ⟨r, a1, a2⟩ := firstChange_both R
    refine ⟨r, ?_, ?_⟩
    · unfold S_rings
      rw [if_neg (by decide), if_neg (by decide), if_neg (by decide), if_pos (by decide), bnd_of a1]
    · rw [if_neg (by decide), if_neg (by decide), if_pos (by decide), bnd_of a2]
  · obtain ⟨r, a1, a2⟩ := l2
    refine ⟨r, ?_, ?_⟩
    · unfold S_rings
      rw [if_neg (by decide), if_neg (by decide), if_neg (by decide), if_neg (by decide), if_pos (by decide), bnd_of a1]
    · rw [if_neg (by decide), if_neg (by decide), if_neg (by decide)]
      exact a2
