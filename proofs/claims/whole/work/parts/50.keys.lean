/-! ===== keys ===== -/
def mf (W : Nat → Nat) : Nat → Nat
  | 0 => 0
  | g + 1 => if mf W g < pc (W g) then pc (W g) else mf W g
def kf (W : Nat → Nat) : Nat → Int32
  | 0 => -1
  | g + 1 => if mf W g < pc (W g) then nI g else kf W g
theorem mf_le {W : Nat → Nat} {n : Nat} (hn : n ≤ 6) (hW : ∀ g, g < n → W g < 2 ^ n) : ∀ g, g ≤ n → mf W g ≤ n
  | 0, _ => Nat.zero_le n
  | g + 1, h => by
    have ih := mf_le hn hW g (by omega)
    have := pc_le n (by omega) (W g) (p64 hn (hW g (by omega))) (hW g (by omega))
    rw [mf]
    split <;> omega
/-- what the class has behind 'open' -/
def OPA (n : Nat) (W : Nat → Nat) (m : Mem) : Prop := n ≤ 6 ∧ rd m 23 0 0 = nI n ∧ ∀ g, g < n → W g < 2 ^ n ∧ rd m 26 0 g = nI (W g)
theorem OPA.pc {n : Nat} {W : Nat → Nat} {m : Mem} (h : OPA n W m) {g : Nat} (hg : g < n) : J_bitCount (rd m 26 0 g) = nI (pc (W g)) ∧ pc (W g) ≤ 6 := by
  obtain ⟨hn, -, h3⟩ := h
  have := h3 g hg
  rw [this.2, bitsJ _ (p64 hn this.1)]
  exact ⟨rfl, pc_le 6 (by omega) _ (p64 hn this.1) (p64 hn this.1)⟩
theorem Po_key_sp {n : Nat} {W : Nat → Nat} {m : Mem} (h : OPA n W m) : Po_key m = some (kf W n) := by
  obtain ⟨hn, h23, h3⟩ := id h
  have key : ∀ (k g F : Nat), g + k = n → k < F → Po_key_6L F (kf W g) (nI (mf W g)) (nI g) m = some (kf W n) := by
    intro k
    induction k with
    | zero =>
      intro g F hg hF
      obtain ⟨F, rfl⟩ : ∃ F', F = F' + 1 := ⟨F - 1, by omega⟩
      have : g = n := by omega
      subst this
      show Po_key_6 _ _ _ _ _ = _
      unfold Po_key_6
      rw [h23, if_neg (nI_nlt (by omega) (by omega))]
    | succ k ih =>
      intro g F hg hF
      obtain ⟨F, rfl⟩ : ∃ F', F = F' + 1 := ⟨F - 1, by omega⟩
      have hgn : g < n := by omega
      have hm := mf_le hn (fun a ha => (h3 a ha).1) g (by omega)
      obtain ⟨p1, p2⟩ := h.pc hgn
      have nx := ih (g + 1) F (by omega) (by omega)
      rw [kf, mf] at nx
      show Po_key_6 _ _ _ _ _ = _
      unfold Po_key_6 Po_key_36
      rw [h23, if_pos (nI_lt hgn (by omega)), chk_eq _ (inb_nI (by omega) (by omega)), ix_nI (by omega), p1]
      simp only [nm_eq]
      rw [nI_1]
      by_cases q : mf W g < pc (W g)
      · rw [if_pos q, if_pos q] at nx
        rw [if_pos (nI_lt q (by omega))]
        exact nx
      · rw [if_neg q, if_neg q] at nx
        rw [if_neg (nI_nlt (by omega) (by omega))]
        exact nx
  exact key n 0 1000 (by omega) (by omega)
theorem Po_most_sp {n : Nat} {W : Nat → Nat} {m : Mem} (h : OPA n W m) : Po_mostOpened m = some (nI (mf W n)) := by
  obtain ⟨hn, h23, h3⟩ := id h
  have key : ∀ (k g F : Nat), g + k = n → k < F → Po_mostOpened_4L F (nI (mf W g)) (nI g) m = some (nI (mf W n)) := by
    intro k
    induction k with
    | zero =>
      intro g F hg hF
      obtain ⟨F, rfl⟩ : ∃ F', F = F' + 1 := ⟨F - 1, by omega⟩
      have : g = n := by omega
      subst this
      show Po_mostOpened_4 _ _ _ _ = _
      unfold Po_mostOpened_4
      rw [h23, if_neg (nI_nlt (by omega) (by omega))]
    | succ k ih =>
      intro g F hg hF
      obtain ⟨F, rfl⟩ : ∃ F', F = F' + 1 := ⟨F - 1, by omega⟩
      have hgn : g < n := by omega
      have hm := mf_le hn (fun a ha => (h3 a ha).1) g (by omega)
      obtain ⟨p1, p2⟩ := h.pc hgn
      have nx := ih (g + 1) F (by omega) (by omega)
      rw [mf] at nx
      show Po_mostOpened_4 _ _ _ _ = _
      unfold Po_mostOpened_4
      rw [h23, if_pos (nI_lt hgn (by omega)), chk_eq _ (inb_nI (by omega) (by omega)), ix_nI (by omega), p1]
      simp only [nm_eq]
      rw [nI_1]
      unfold imx
      by_cases q : mf W g < pc (W g)
      · rw [if_pos q] at nx
        rw [if_pos (nI_lt q (by omega))]
        exact nx
      · rw [if_neg q] at nx
        rw [if_neg (nI_nlt (by omega) (by omega))]
        exact nx
  exact key n 0 1000 (by omega) (by omega)
/-- the reference reads the same -/
def OPM (n : Nat) (W : Nat → Nat) (ν : Mem) : Prop := rd ν 0 0 12 = nI n ∧ (∀ x, x < 2 ^ n → M_fromOf (nI x) ν = some (nI (bU W x n)) ∧ bU W x n < 2 ^ n) ∧ ∀ g, g < n → W g < 2 ^ n ∧ bU W (2 ^ g) n = W g
theorem M_keys_sp {n : Nat} {W : Nat → Nat} {ν : Mem} (hn : n ≤ 6) (h : OPM n W ν) (x1 a : Int32) : M_keys_32L 1000 x1 a (-1) 0 0 ν = if x1 < 2 then (if x1 = 0 then some (kf W n) else some (nI (mf W n))) else M_keys_96L 1000 x1 a a a ν := by
  obtain ⟨h12, h2, h3⟩ := h
  have key : ∀ (k g F : Nat), g + k = n → k < F → M_keys_32L F x1 a (kf W g) (nI (mf W g)) (nI g) ν = if x1 < 2 then (if x1 = 0 then some (kf W n) else some (nI (mf W n))) else M_keys_96L 1000 x1 a a a ν := by
    intro k
    induction k with
    | zero =>
      intro g F hg hF
      obtain ⟨F, rfl⟩ : ∃ F', F = F' + 1 := ⟨F - 1, by omega⟩
      have : g = n := by omega
      subst this
      show M_keys_32 _ _ _ _ _ _ _ = _
      unfold M_keys_32
      rw [h12, if_neg (nI_nlt (by omega) (by omega))]
    | succ k ih =>
      intro g F hg hF
      obtain ⟨F, rfl⟩ : ∃ F', F = F' + 1 := ⟨F - 1, by omega⟩
      have hgn : g < n := by omega
      have hm := mf_le hn (fun a ha => (h3 a ha).1) g (by omega)
      obtain ⟨w1, w2⟩ := h3 g hgn
      have p2 := pc_le 6 (by omega) _ (p64 hn w1) (p64 hn w1)
      have f1 := (h2 (2 ^ g) (Nat.pow_lt_pow_right (by decide) hgn)).1
      rw [w2] at f1
      have nx := ih (g + 1) F (by omega) (by omega)
      rw [kf, mf] at nx
      show M_keys_32 _ _ _ _ _ _ _ = _
      unfold M_keys_32 M_keys_68
      rw [h12, if_pos (nI_lt hgn (by omega)), shl_pw _ (by omega), bnd_of f1, bnd_of (bitsM _ (p64 hn w1))]
      simp only [nm_eq]
      rw [nI_1]
      by_cases q : mf W g < pc (W g)
      · rw [if_pos q, if_pos q] at nx
        rw [if_pos (nI_lt q (by omega))]
        exact nx
      · rw [if_neg q, if_neg q] at nx
        rw [if_neg (nI_nlt (by omega) (by omega))]
        exact nx
  exact key n 0 1000 (by omega) (by omega)
/-! the fewest -/
def btr (f t : Nat) : Prop := pc f < pc t ∨ (pc f = pc t ∧ f ≤ t)
def BST (W : Nat → Nat) (n f : Nat) : Prop := (f = 2 ^ n - 1 ∨ bU W f n = 2 ^ n - 1) ∧ f ≤ 2 ^ n - 1 ∧ ∀ t, t ≤ 2 ^ n - 1 → (t = 2 ^ n - 1 ∨ bU W t n = 2 ^ n - 1) → btr f t
theorem BST.uniq {W : Nat → Nat} {n f f' : Nat} (h : BST W n f) (h' : BST W n f') : f = f' := by
  have a := h.2.2 f' h'.2.1 h'.1
  have b := h'.2.2 f h.2.1 h.1
  unfold btr at a b
  omega
theorem pc_all : ∀ n : Nat, n < 7 → ∀ s : Nat, s < 64 → s < 2 ^ n - 1 → pc s < pc (2 ^ n - 1) := by decide +kernel
theorem a64 {n : Nat} (hn : n ≤ 6) : 2 ^ n - 1 < 64 := p64 hn (by have := Nat.two_pow_pos n; omega)
theorem Po_fewest_sp {n : Nat} {W : Nat → Nat} {m : Mem} (h : OPA n W m) : ∃ f, Po_fewest m = some (nI f) ∧ BST W n f := by
  obtain ⟨hn, h23, h3⟩ := h
  have ha := a64 hn
  have hp := Nat.two_pow_pos n
  have key : ∀ (k s f F : Nat), s + k = 2 ^ n - 1 → k < F → (f = 2 ^ n - 1 ∨ (f < s ∧ bU W f n = 2 ^ n - 1)) → btr f (2 ^ n - 1) → (∀ t, t < s → bU W t n = 2 ^ n - 1 → btr f t) → ∃ f', Po_fewest_13L F (nI (2 ^ n - 1)) (nI f) (nI s) m = some (nI f') ∧ BST W n f' := by
    intro k
    induction k with
    | zero =>
      intro s f F hs hF h1 h2 h4
      obtain ⟨F, rfl⟩ : ∃ F', F = F' + 1 := ⟨F - 1, by omega⟩
      have : s = 2 ^ n - 1 := by omega
      refine ⟨f, ?_, ?_, by omega, fun t t1 t2 => ?_⟩
      · show Po_fewest_13 _ _ _ _ _ = _
        unfold Po_fewest_13
        rw [if_neg (nI_nlt (by omega) (by omega))]
      · rcases h1 with q | q
        · exact Or.inl q
        · exact Or.inr q.2
      · by_cases q : t = 2 ^ n - 1
        · rw [q]; exact h2
        · exact h4 t (by omega) (t2.resolve_left q)
    | succ k ih =>
      intro s f F hs hF h1 h2 h4
      obtain ⟨F, rfl⟩ : ∃ F', F = F' + 1 := ⟨F - 1, by omega⟩
      have hs6 : s < 64 := by omega
      have hf6 : f < 64 := by omega
      have ps := pc_le 6 (by omega) s hs6 hs6
      have pf := pc_le 6 (by omega) f hf6 hf6
      have pa := pc_all n (by omega) s hs6 (by omega)
      have e1 := Po_openedFrom_sp (x := s) (W := W) (μ := m) hn hs6 h23 h3
      have hb := bU_lt (x := s) (fun g hg => (h3 g hg).1) n (Nat.le_refl n)
      have hb6 := p64 hn hb
      have e : Po_fewest_13L (F + 1) (nI (2 ^ n - 1)) (nI f) (nI s) m = if pc s < pc f ∧ bU W s n = 2 ^ n - 1 then Po_fewest_13L F (nI (2 ^ n - 1)) (nI s) (nI (s + 1)) m else Po_fewest_13L F (nI (2 ^ n - 1)) (nI f) (nI (s + 1)) m := by
        show Po_fewest_13 _ _ _ _ _ = _
        unfold Po_fewest_13 Po_fewest_40
        rw [if_pos (nI_lt (by omega) (by omega)), bitsJ _ hs6, bitsJ _ hf6]
        simp only [nm_eq]
        rw [nI_1, bnd_of e1]
        by_cases q : pc s < pc f
        · rw [if_pos (nI_lt q (by omega))]
          by_cases q2 : bU W s n = 2 ^ n - 1
          · rw [if_pos (by rw [q2]), if_pos ⟨q, q2⟩]
          · rw [if_neg (fun z => q2 ((nI_eq (by omega) (by omega)).mp z)), if_neg (fun z => q2 z.2)]
        · rw [if_neg (nI_nlt (by omega) (by omega)), if_neg (fun z => q z.1)]
      rw [e]
      by_cases q : pc s < pc f ∧ bU W s n = 2 ^ n - 1
      · rw [if_pos q]
        refine ih (s + 1) s F (by omega) (by omega) (Or.inr ⟨by omega, q.2⟩) (Or.inl pa) (fun t t1 t2 => ?_)
        by_cases w : t = s
        · subst w; exact Or.inr ⟨rfl, Nat.le_refl _⟩
        · have := h4 t (by omega) t2
          unfold btr at this ⊢
          omega
      · rw [if_neg q]
        refine ih (s + 1) f F (by omega) (by omega) (by omega) h2 (fun t t1 t2 => ?_)
        by_cases w : t = s
        · subst w
          have q1 : ¬ pc t < pc f := fun z => q ⟨z, t2⟩
          unfold btr
          rcases h1 with z | z
          · rw [z] at q1; exact absurd pa q1
          · omega
        · exact h4 t (by omega) t2
  unfold Po_fewest
  rw [nm_eq, h23, all_pw n (by omega)]
  exact key (2 ^ n - 1) 0 (2 ^ n - 1) 1000 (by omega) (by omega) (Or.inl rfl) (Or.inr ⟨rfl, Nat.le_refl _⟩) (fun t h => absurd h (by omega))
theorem M_fewest_sp {n : Nat} {W : Nat → Nat} {ν : Mem} (hn : n ≤ 6) (h : OPM n W ν) (x1 : Int32) : ∃ f, M_keys_96L 1000 x1 (nI (2 ^ n - 1)) (nI (2 ^ n - 1)) (nI (2 ^ n - 1)) ν = (if x1 = 2 then some (nI f) else some (nI (pc f))) ∧ BST W n f := by
  obtain ⟨h12, h2, h3⟩ := h
  have ha := a64 hn
  have hp := Nat.two_pow_pos n
  have key : ∀ (k f F : Nat), k ≤ 2 ^ n - 1 → k < F → (f = 2 ^ n - 1 ∨ (k ≤ f ∧ f ≤ 2 ^ n - 1 ∧ bU W f n = 2 ^ n - 1)) → (∀ t, k ≤ t → t ≤ 2 ^ n - 1 → (t = 2 ^ n - 1 ∨ bU W t n = 2 ^ n - 1) → btr f t) → ∃ f', M_keys_96L F x1 (nI (2 ^ n - 1)) (nI f) (nI k - 1) ν = (if x1 = 2 then some (nI f') else some (nI (pc f'))) ∧ BST W n f' := by
    intro k
    induction k with
    | zero =>
      intro f F hk hF h1 h4
      obtain ⟨F, rfl⟩ : ∃ F', F = F' + 1 := ⟨F - 1, by omega⟩
      refine ⟨f, ?_, ?_, by omega, fun t t1 t2 => h4 t (by omega) t1 t2⟩
      · show M_keys_96 _ _ _ _ _ _ = _
        unfold M_keys_96
        rw [if_pos (show nI 0 - 1 < 0 by decide), bnd_of (bitsM f (by omega))]
      · rcases h1 with q | q
        · exact Or.inl q
        · exact Or.inr q.2.2
    | succ s ih =>
      intro f F hk hF h1 h4
      obtain ⟨F, rfl⟩ : ∃ F', F = F' + 1 := ⟨F - 1, by omega⟩
      have hs6 : s < 64 := by omega
      have hf6 : f < 64 := by omega
      have ps := pc_le 6 (by omega) s hs6 hs6
      have pf := pc_le 6 (by omega) f hf6 hf6
      have hb := (h2 s (by omega)).2
      have hb6 := p64 hn hb
      have e : M_keys_96L (F + 1) x1 (nI (2 ^ n - 1)) (nI f) (nI (s + 1) - 1) ν = if bU W s n = 2 ^ n - 1 ∧ ¬ pc f < pc s then M_keys_96L F x1 (nI (2 ^ n - 1)) (nI s) (nI s - 1) ν else M_keys_96L F x1 (nI (2 ^ n - 1)) (nI f) (nI s - 1) ν := by
        show M_keys_96 _ _ _ _ _ _ = _
        unfold M_keys_96 M_keys_128
        rw [nI_pred, if_neg (nI_nlt0 (by omega)), bnd_of (h2 s (by omega)).1, bnd_of (bitsM _ hs6), bnd_of (bitsM _ hf6)]
        simp only [nm_eq]
        rw [show nI s + (-1) = nI s - 1 from (Int32.sub_eq_add_neg _ _).symm]
        by_cases q2 : bU W s n = 2 ^ n - 1
        · rw [if_pos (by rw [q2])]
          by_cases q : pc f < pc s
          · rw [if_pos (nI_lt q (by omega)), if_neg (fun z => z.2 q)]
          · rw [if_neg (nI_nlt (by omega) (by omega)), if_pos ⟨q2, q⟩]
        · rw [if_neg (fun z => q2 ((nI_eq (by omega) (by omega)).mp z)), if_neg (fun z => q2 z.1)]
      rw [e]
      by_cases q : bU W s n = 2 ^ n - 1 ∧ ¬ pc f < pc s
      · rw [if_pos q]
        refine ih s F (by omega) (by omega) (Or.inr ⟨Nat.le_refl s, by omega, q.1⟩) (fun t t1 t2 t3 => ?_)
        by_cases w : t = s
        · subst w; exact Or.inr ⟨rfl, Nat.le_refl _⟩
        · have := h4 t (by omega) t2 t3
          unfold btr at this ⊢
          omega
      · rw [if_neg q]
        refine ih f F (by omega) (by omega) (by omega) (fun t t1 t2 t3 => ?_)
        by_cases w : t = s
        · subst w
          have : bU W t n = 2 ^ n - 1 := t3.resolve_left (by omega)
          have q1 : pc f < pc t := Decidable.byContradiction (fun z => q ⟨this, z⟩)
          exact Or.inl q1
        · exact h4 t (by omega) t2 t3
  -- the first: everybody himself
  have hb := (h2 (2 ^ n - 1) (by omega)).2
  have e : ∀ F : Nat, M_keys_96L (F + 1) x1 (nI (2 ^ n - 1)) (nI (2 ^ n - 1)) (nI (2 ^ n - 1)) ν = M_keys_96L F x1 (nI (2 ^ n - 1)) (nI (2 ^ n - 1)) (nI (2 ^ n - 1) - 1) ν := by
    intro F
    show M_keys_96 _ _ _ _ _ _ = _
    unfold M_keys_96 M_keys_128
    have pf := pc_le 6 (by omega) (2 ^ n - 1) ha ha
    rw [if_neg (nI_nlt0 (by omega)), bnd_of (h2 (2 ^ n - 1) (by omega)).1, bnd_of (bitsM _ ha), bnd_of (bitsM _ ha)]
    simp only [nm_eq]
    rw [show nI (2 ^ n - 1) + (-1) = nI (2 ^ n - 1) - 1 from (Int32.sub_eq_add_neg _ _).symm, if_neg (nI_nlt (Nat.le_refl _) (by omega)), ite_self]
  have big : ∀ F : Nat, 2 ^ n - 1 < F → ∃ f, M_keys_96L (F + 1) x1 (nI (2 ^ n - 1)) (nI (2 ^ n - 1)) (nI (2 ^ n - 1)) ν = (if x1 = 2 then some (nI f) else some (nI (pc f))) ∧ BST W n f := by
    intro F hF
    rw [e F]
    exact key (2 ^ n - 1) (2 ^ n - 1) F (Nat.le_refl _) hF (Or.inl rfl) (fun t t1 t2 _ => by
      have : t = 2 ^ n - 1 := by omega
      rw [this]; exact Or.inr ⟨rfl, Nat.le_refl _⟩)
  exact big 999 (by omega)
theorem keys_agree (x1 : Int32) {μ ν : Mem} (I : Inv μ ν) : ∃ r μ', S_keys x1 μ = some (r, μ') ∧ M_keys x1 ν = some r ∧ Inv μ' ν := by
  have I0 := I
  obtain ⟨hs, gr, tc, X, B, z, sk, sm', sv, ⟨h, ht, hA, hM⟩, -, -, -, -⟩ := I
  have hn := h.2.2.2.1
  obtain ⟨m1, m2, W, a1, a2, a3, a4, a5, a6⟩ := opened_both h hA hM
  have oA : OPA (hs 3) W m2 := ⟨hn, a4, a5⟩
  have oM : OPM (hs 3) W ν := ⟨hM.2.2.2.1, fun x hx => ⟨(a6 x hx).2.1, (a6 x hx).2.2.1⟩, fun g hg => ⟨(a5 g hg).1, (a6 (2 ^ g) (Nat.pow_lt_pow_right (by decide) hg)).2.2.2 g hg⟩⟩
  have I2 : Inv m2 ν := I0.same a3 RM.rf
  rcases M_in_or (x := x1) (b := 3) (by omega) with ⟨q, e⟩ | ⟨j, hj, rfl, e⟩
  · refine ⟨-2, m2, ?_, ?_, I2⟩
    · unfold S_keys
      rw [bnd_of a1, bnd_of a2]
      rcases q with q | q
      · rw [if_neg (show ¬ x1 = 0 from neg_ne q (j := 0) (by omega)), if_neg (show ¬ x1 = 1 from neg_ne q (j := 1) (by omega)), if_neg (show ¬ x1 = 2 from neg_ne q (j := 2) (by omega)), if_neg (show ¬ x1 = 3 from neg_ne q (j := 3) (by omega))]
      · rw [if_neg (show ¬ x1 = 0 from big_ne q (j := 0) (by omega) (by omega)), if_neg (show ¬ x1 = 1 from big_ne q (j := 1) (by omega) (by omega)), if_neg (show ¬ x1 = 2 from big_ne q (j := 2) (by omega) (by omega)), if_neg (show ¬ x1 = 3 from big_ne q (j := 3) (by omega) (by omega))]
    · unfold M_keys
      rw [show M_in x1.toInt64 0 3 = 0 from e, nm_eq, if_pos rfl]
  have e : M_in (nI j).toInt64 0 3 = 1 := e
  obtain ⟨f, f1, f2⟩ := Po_fewest_sp oA
  obtain ⟨f', g1, g2⟩ := M_fewest_sp hn oM (nI j)
  have := f2.uniq g2
  subst this
  have f64 : f < 64 := Nat.lt_of_le_of_lt f2.2.1 (a64 hn)
  have eM : M_keys (nI j) ν = if nI j < 2 then (if nI j = 0 then some (kf W (hs 3)) else some (nI (mf W (hs 3)))) else (if nI j = 2 then some (nI f) else some (nI (pc f))) := by
    unfold M_keys
    rw [e, nm_eq, if_neg (by decide), nm_eq, hM.2.2.2.1, all_pw _ (by omega), M_keys_sp hn oM, g1]
  rw [eM]
  have eS : S_keys (nI j) μ = if nI j = 0 then some (kf W (hs 3), m2) else if nI j = 1 then some (nI (mf W (hs 3)), m2) else if nI j = 2 then some (nI f, m2) else if nI j = 3 then some (nI (pc f), m2) else some (-2, m2) := by
    unfold S_keys
    rw [bnd_of a1, bnd_of a2, bnd_of (Po_key_sp oA), bnd_of (Po_most_sp oA), bnd_of f1, bnd_of f1, nm_eq, bitsJ _ f64]
  rw [eS]
  obtain rfl | rfl | rfl | rfl : j = 0 ∨ j = 1 ∨ j = 2 ∨ j = 3 := by omega
  · exact ⟨_, m2, rfl, rfl, I2⟩
  · exact ⟨_, m2, rfl, rfl, I2⟩
  · exact ⟨_, m2, rfl, rfl, I2⟩
  · exact ⟨_, m2, rfl, rfl, I2⟩
