/-! ===== what could be opened from where: closed sets ===== -/
def Sb (a b : Nat) : Prop := ∀ i, a.testBit i = true → b.testBit i = true
theorem Sb.rf {a : Nat} : Sb a a := fun _ h => h
theorem Sb.tr {a b c : Nat} (h : Sb a b) (h2 : Sb b c) : Sb a c := fun i q => h2 i (h i q)
theorem Sb.anti {a b : Nat} (h1 : Sb a b) (h2 : Sb b a) : a = b := Nat.eq_of_testBit_eq fun i => by
  cases ha : a.testBit i
  · cases hb : b.testBit i
    · rfl
    · rw [h2 i hb] at ha; cases ha
  · rw [h1 i ha]
theorem Sb.or {a b : Nat} (h : Sb a b) : a ||| b = b := Nat.eq_of_testBit_eq fun i => by
  rw [Nat.testBit_or]
  cases ha : a.testBit i
  · rfl
  · rw [h i ha]; rfl
theorem bit_lt {x n i : Nat} (h : x < 2 ^ n) (hb : x.testBit i = true) : i < n := by
  apply Nat.lt_of_not_le
  intro q
  have := Nat.testBit_lt_two_pow (Nat.lt_of_lt_of_le h (Nat.pow_le_pow_right (n := 2) (by decide) q))
  rw [this] at hb; cases hb
theorem bit_pw {g i : Nat} : (2 ^ g).testBit i = true ↔ g = i := by rw [Nat.testBit_two_pow, decide_eq_true_iff]
theorem bit_orp {m g i : Nat} : (m ||| 2 ^ g).testBit i = true ↔ m.testBit i = true ∨ g = i := by rw [Nat.testBit_or, Bool.or_eq_true, bit_pw]
theorem bit_or {a b i : Nat} : (a ||| b).testBit i = true ↔ a.testBit i = true ∨ b.testBit i = true := by rw [Nat.testBit_or, Bool.or_eq_true]
theorem pc_gt0 : ∀ a : Nat, a < 64 → ∀ b : Nat, b < 64 → a ||| b = b → a = b ∨ pc a < pc b := by decide +kernel
theorem pc_gt {n a b : Nat} (hn : n ≤ 6) (ha : a < 2 ^ n) (hb : b < 2 ^ n) (h : Sb a b) : a = b ∨ pc a < pc b := pc_gt0 a (p64 hn ha) b (p64 hn hb) h.or
theorem pc_pw : ∀ g : Nat, g < 6 → pc (2 ^ g) = 1 := by decide +kernel
theorem or_nn : ∀ a : Nat, a < 64 → ∀ b : Nat, b < 64 → nI a ||| nI b = nI (a ||| b) := by decide +kernel
theorem shl_pw : ∀ g : Nat, g < 6 → shl 1 (nI g) = nI (2 ^ g) := by decide +kernel
theorem all_pw : ∀ n : Nat, n < 7 → shl 1 (nI n) - 1 = nI (2 ^ n - 1) := by decide +kernel
/-- closed under what is opened -/
def Cz (op : Nat → Nat) (n C : Nat) : Prop := ∀ g, g < n → C.testBit g = true → Sb (op g) C
def IsCl (op : Nat → Nat) (n x y : Nat) : Prop := Sb x y ∧ Cz op n y ∧ ∀ C, Sb x C → Cz op n C → Sb y C
theorem IsCl.uniq {op : Nat → Nat} {n x y y' : Nat} (h : IsCl op n x y) (h' : IsCl op n x y') : y = y' := Sb.anti (h.2.2 y' h'.1 h'.2.1) (h'.2.2 y h.1 h.2.1)
def OPK (op : Nat → Nat) (n : Nat) : Prop := ∀ g, g < n → op g < 2 ^ n
/-! the reference's pass -/
def inn (op : Nat → Nat) (g s : Nat) : Nat → Nat
  | 0 => s
  | o + 1 => if (inn op g s o).testBit g = true ∧ (op g).testBit o = true then inn op g s o ||| 2 ^ o else inn op g s o
def pas (op : Nat → Nat) (n s : Nat) : Nat → Nat
  | 0 => s
  | g + 1 => inn op g (pas op n s g) n
theorem inn_ge (op : Nat → Nat) (g s : Nat) : ∀ o, Sb s (inn op g s o)
  | 0 => Sb.rf
  | o + 1 => by
    rw [inn]
    split
    · exact fun i h => bit_orp.mpr (Or.inl (inn_ge op g s o i h))
    · exact inn_ge op g s o
theorem inn_lt {op : Nat → Nat} {n g s : Nat} (hn : n ≤ 6) (hs : s < 2 ^ n) : ∀ o, o ≤ n → inn op g s o < 2 ^ n
  | 0, _ => hs
  | o + 1, h => by
    have := inn_lt (op := op) (g := g) hn hs o (by omega)
    rw [inn]
    split
    · exact or_lt n hn _ this o (by omega)
    · exact this
theorem inn_le {op : Nat → Nat} {n g s C : Nat} (hg : g < n) (h1 : Sb s C) (h2 : Cz op n C) : ∀ o, Sb (inn op g s o) C
  | 0 => h1
  | o + 1 => by
    have ih := inn_le (s := s) hg h1 h2 o
    rw [inn]
    split
    · rename_i q
      intro i hi
      rcases bit_orp.mp hi with z | z
      · exact ih i z
      · subst z; exact h2 g hg (ih g q.1) _ q.2
    · exact ih
theorem inn_in {op : Nat → Nat} {g s : Nat} (hs : s.testBit g = true) : ∀ o k, k < o → (op g).testBit k = true → (inn op g s o).testBit k = true
  | 0, k, h, _ => absurd h (by omega)
  | o + 1, k, h, hk => by
    have hg := inn_ge op g s o g hs
    rw [inn]
    by_cases q : k = o
    · subst q
      rw [if_pos ⟨hg, hk⟩]
      exact bit_orp.mpr (Or.inr rfl)
    · have ih := inn_in hs o k (by omega) hk
      split
      · exact bit_orp.mpr (Or.inl ih)
      · exact ih
theorem pas_ge (op : Nat → Nat) (n s : Nat) : ∀ g, Sb s (pas op n s g)
  | 0 => Sb.rf
  | g + 1 => (pas_ge op n s g).tr (inn_ge op g _ n)
theorem pas_lt {op : Nat → Nat} {n s : Nat} (hn : n ≤ 6) (hs : s < 2 ^ n) : ∀ g, pas op n s g < 2 ^ n
  | 0 => hs
  | g + 1 => inn_lt hn (pas_lt hn hs g) n (Nat.le_refl n)
theorem pas_le {op : Nat → Nat} {n s C : Nat} (h1 : Sb s C) (h2 : Cz op n C) : ∀ g, g ≤ n → Sb (pas op n s g) C
  | 0, _ => h1
  | g + 1, h => inn_le (by omega) (pas_le h1 h2 g (by omega)) h2 n
theorem pas_in {op : Nat → Nat} {n s g : Nat} (hs : s.testBit g = true) : ∀ j, g < j → ∀ k, k < n → (op g).testBit k = true → (pas op n s j).testBit k = true
  | 0, h, _, _, _ => absurd h (by omega)
  | j + 1, h, k, hk, hb => by
    rw [pas]
    by_cases q : g = j
    · subst q
      exact inn_in (pas_ge op n s g g hs) n k hk hb
    · exact inn_ge op j _ n k (pas_in hs j (by omega) k hk hb)
theorem pas_fix {op : Nat → Nat} {n s : Nat} (hop : OPK op n) (h : pas op n s n = s) : Cz op n s := by
  intro g hg hb i hi
  have := pas_in (op := op) hb n hg i (bit_lt (hop g hg) hi) hi
  rw [h] at this
  exact this
/-! the class's rounds -/
def bU (W : Nat → Nat) (x : Nat) : Nat → Nat
  | 0 => 0
  | g + 1 => if x.testBit g = true then bU W x g ||| W g else bU W x g
theorem bU_bit {W : Nat → Nat} {x i : Nat} : ∀ k, (bU W x k).testBit i = true ↔ ∃ g, g < k ∧ x.testBit g = true ∧ (W g).testBit i = true
  | 0 => by
    rw [bU, Nat.zero_testBit]
    exact ⟨fun h => (by cases h), fun ⟨g, h, _⟩ => absurd h (by omega)⟩
  | k + 1 => by
    rw [bU]
    have ih := bU_bit (W := W) (x := x) (i := i) k
    by_cases q : x.testBit k = true
    · rw [if_pos q, bit_or, ih]
      constructor
      · rintro (⟨g, a, b, c⟩ | h)
        · exact ⟨g, by omega, b, c⟩
        · exact ⟨k, by omega, q, h⟩
      · rintro ⟨g, a, b, c⟩
        by_cases e : g = k
        · subst e; exact Or.inr c
        · exact Or.inl ⟨g, by omega, b, c⟩
    · rw [if_neg q, ih]
      constructor
      · rintro ⟨g, a, b, c⟩; exact ⟨g, by omega, b, c⟩
      · rintro ⟨g, a, b, c⟩
        by_cases e : g = k
        · subst e; exact absurd b q
        · exact ⟨g, by omega, b, c⟩
theorem or_lt2 {n a b : Nat} (ha : a < 2 ^ n) (hb : b < 2 ^ n) : a ||| b < 2 ^ n := Nat.or_lt_two_pow ha hb
theorem bU_lt {W : Nat → Nat} {n x : Nat} (hW : ∀ g, g < n → W g < 2 ^ n) : ∀ k, k ≤ n → bU W x k < 2 ^ n
  | 0, _ => Nat.two_pow_pos n
  | k + 1, h => by
    have ih := bU_lt (x := x) hW k (by omega)
    rw [bU]
    split
    · exact or_lt2 ih (hW k (by omega))
    · exact ih
/-- each has himself, and nothing that isn't in every closed set with him -/
def OKW (op : Nat → Nat) (n : Nat) (W : Nat → Nat) : Prop := ∀ g, g < n → W g < 2 ^ n ∧ (W g).testBit g = true ∧ Sb (op g) (W g) ∧ ∀ C, C.testBit g = true → Cz op n C → Sb (W g) C
def stW (n : Nat) (W : Nat → Nat) (g : Nat) : Nat → Nat := fun a => if a = g then bU W (W g) n else W a
theorem stW_ge {op : Nat → Nat} {n : Nat} {W : Nat → Nat} (h : OKW op n W) (g : Nat) {a : Nat} (ha : a < n) : Sb (W a) (stW n W g a) := by
  unfold stW
  split
  · rename_i q
    subst q
    intro i hi
    have hin := bit_lt (h a ha).1 hi
    exact (bU_bit n).mpr ⟨i, hin, hi, (h i hin).2.1⟩
  · exact Sb.rf
theorem stW_ok {op : Nat → Nat} {n : Nat} {W : Nat → Nat} (h : OKW op n W) (g : Nat) : OKW op n (stW n W g) := by
  intro a ha
  obtain ⟨h1, h2, h3, h4⟩ := h a ha
  refine ⟨?_, stW_ge h g ha a h2, h3.tr (stW_ge h g ha), ?_⟩
  · unfold stW
    split
    · rename_i q
      subst q
      exact bU_lt (fun b hb => (h b hb).1) n (Nat.le_refl n)
    · exact h1
  · intro C hC hz
    unfold stW
    split
    · rename_i q
      subst q
      intro i hi
      obtain ⟨b, hb, hx, hi⟩ := (bU_bit n).mp hi
      exact (h b hb).2.2.2 C (h4 C hC hz b hx) hz i hi
    · exact h4 C hC hz
/-- layers -/
def By (op : Nat → Nat) (n g : Nat) : Nat → Nat
  | 0 => 2 ^ g
  | k + 1 => By op n g k ||| bU op (By op n g k) n
theorem By_lt {op : Nat → Nat} {n g : Nat} (hop : OPK op n) (hg : g < n) : ∀ k, By op n g k < 2 ^ n
  | 0 => Nat.pow_lt_pow_right (by decide) hg
  | k + 1 => or_lt2 (By_lt hop hg k) (bU_lt hop n (Nat.le_refl n))
theorem By_self (op : Nat → Nat) (n g : Nat) : ∀ k, (By op n g k).testBit g = true
  | 0 => bit_pw.mpr rfl
  | k + 1 => bit_or.mpr (Or.inl (By_self op n g k))
theorem By_cl {op : Nat → Nat} {n g : Nat} (hn : n ≤ 6) (hop : OPK op n) (hg : g < n) : ∀ k, Cz op n (By op n g k) ∨ k + 1 ≤ pc (By op n g k)
  | 0 => by
    right
    show 1 ≤ pc (2 ^ g)
    rw [pc_pw g (by omega)]
    exact Nat.le_refl 1
  | k + 1 => by
    have hs : Sb (By op n g k) (By op n g (k + 1)) := fun i hi => bit_or.mpr (Or.inl hi)
    have ho : ∀ a, a < n → (By op n g k).testBit a = true → Sb (op a) (By op n g (k + 1)) := fun a ha hb i hi => bit_or.mpr (Or.inr ((bU_bit n).mpr ⟨a, ha, hb, hi⟩))
    rcases pc_gt hn (By_lt hop hg k) (By_lt hop hg (k + 1)) hs with e | e
    · left
      intro a ha hb
      rw [← e] at hb
      exact ho a ha hb
    · rcases By_cl hn hop hg k with z | z
      · left
        have e2 : By op n g (k + 1) = By op n g k := by
          refine Sb.anti (fun i hi => ?_) hs
          rcases bit_or.mp hi with q | q
          · exact q
          · obtain ⟨a, ha, hb, hi⟩ := (bU_bit n).mp q
            exact z a ha hb i hi
        rw [e2]; exact z
      · right; omega
theorem By_end {op : Nat → Nat} {n g : Nat} (hn : n ≤ 6) (hop : OPK op n) (hg : g < n) : Cz op n (By op n g n) := by
  rcases By_cl hn hop hg n with z | z
  · exact z
  · have := pc_le n (by omega) _ (p64 hn (By_lt hop hg n)) (By_lt hop hg n)
    omega
def rdW (n : Nat) (W : Nat → Nat) : Nat → Nat → Nat
  | 0 => W
  | g + 1 => stW n (rdW n W g) g
def rsW (n : Nat) (W : Nat → Nat) : Nat → Nat → Nat
  | 0 => W
  | r + 1 => rdW n (rsW n W r) n
theorem rdW_ok {op : Nat → Nat} {n : Nat} {W : Nat → Nat} (h : OKW op n W) : ∀ g, OKW op n (rdW n W g)
  | 0 => h
  | g + 1 => stW_ok (rdW_ok h g) g
theorem rdW_lay {op : Nat → Nat} {n k : Nat} {W : Nat → Nat} (h : OKW op n W) (hl : ∀ a, a < n → Sb (By op n a k) (W a)) : ∀ g, g ≤ n → ∀ a, a < n → Sb (By op n a (if a < g then k + 1 else k)) (rdW n W g a)
  | 0, _, a, ha => by rw [if_neg (by omega)]; exact hl a ha
  | g + 1, hg, a, ha => by
    have ih := rdW_lay h hl g (by omega)
    have ok := rdW_ok h g
    by_cases q : a = g
    · subst q
      rw [if_pos (by omega)]
      have i0 := ih a ha
      rw [if_neg (by omega)] at i0
      intro i hi
      rcases bit_or.mp hi with z | z
      · exact stW_ge ok a ha i (i0 i z)
      · obtain ⟨b, hb, hx, hi⟩ := (bU_bit n).mp z
        show (stW n (rdW n W a) a a).testBit i = true
        unfold stW
        rw [if_pos rfl]
        exact (bU_bit n).mpr ⟨b, hb, i0 b hx, (ok b hb).2.2.1 i hi⟩
    · have i0 := ih a ha
      rw [show (if a < g + 1 then k + 1 else k) = (if a < g then k + 1 else k) from by
        by_cases w : a < g
        · rw [if_pos w, if_pos (by omega)]
        · rw [if_neg w, if_neg (by omega)]]
      exact i0.tr (stW_ge ok g ha)
theorem rsW_all {op : Nat → Nat} {n : Nat} {W : Nat → Nat} (h : OKW op n W) : ∀ r, OKW op n (rsW n W r) ∧ ∀ a, a < n → Sb (By op n a r) (rsW n W r a)
  | 0 => ⟨h, fun a ha i hi => by
    have := bit_pw.mp hi
    subst this
    exact (h a ha).2.1⟩
  | r + 1 => by
    obtain ⟨h1, h2⟩ := rsW_all h r
    refine ⟨rdW_ok h1 n, fun a ha => ?_⟩
    have := rdW_lay h1 h2 n (Nat.le_refl n) a ha
    rw [if_pos ha] at this
    exact this
theorem rsW_cl {op : Nat → Nat} {n : Nat} {W : Nat → Nat} (hn : n ≤ 6) (hop : OPK op n) (h : OKW op n W) {g : Nat} (hg : g < n) : IsCl op n (2 ^ g) (rsW n W n g) := by
  obtain ⟨h1, h2⟩ := rsW_all h n
  obtain ⟨-, a2, -, a4⟩ := h1 g hg
  have e : rsW n W n g = By op n g n := Sb.anti (a4 _ (By_self op n g n) (By_end hn hop hg)) (h2 g hg)
  refine ⟨fun i hi => ?_, ?_, fun C hC hz => a4 C (hC g (bit_pw.mpr rfl)) hz⟩
  · have := bit_pw.mp hi
    subst this
    exact a2
  · rw [e]; exact By_end hn hop hg
theorem bU_cl {op : Nat → Nat} {n x : Nat} {W : Nat → Nat} (hx : x < 2 ^ n) (h : ∀ g, g < n → IsCl op n (2 ^ g) (W g)) : IsCl op n x (bU W x n) := by
  refine ⟨fun i hi => ?_, fun g hg hb => ?_, fun C hC hz i hi => ?_⟩
  · have := bit_lt hx hi
    exact (bU_bit n).mpr ⟨i, this, hi, (h i this).1 i (bit_pw.mpr rfl)⟩
  · obtain ⟨a, ha, hxa, hb⟩ := (bU_bit n).mp hb
    intro i hi
    exact (bU_bit n).mpr ⟨a, ha, hxa, (h a ha).2.1 g hg hb i hi⟩
  · obtain ⟨a, ha, hxa, hb⟩ := (bU_bit n).mp hi
    exact (h a ha).2.2 C (fun j hj => by rw [← bit_pw.mp hj]; exact hC a hxa) hz i hb
