/-! ===== from, keys ===== -/
def opm (N : Nat → Nat) (t : Nat) : Nat → Nat
  | 0 => 0
  | o + 1 => if 8 ≤ t ∧ t % 8 = N o % 8 then opm N t o ||| 2 ^ o else opm N t o
theorem opm_bit {N : Nat → Nat} {t i : Nat} : ∀ k, (opm N t k).testBit i = true ↔ i < k ∧ 8 ≤ t ∧ t % 8 = N i % 8
  | 0 => by
    rw [opm, Nat.zero_testBit]
    exact ⟨fun h => (by cases h), fun h => absurd h.1 (by omega)⟩
  | k + 1 => by
    rw [opm]
    have ih := opm_bit (N := N) (t := t) (i := i) k
    by_cases q : 8 ≤ t ∧ t % 8 = N k % 8
    · rw [if_pos q, bit_orp, ih]
      constructor
      · rintro (⟨a, b, c⟩ | h)
        · exact ⟨by omega, b, c⟩
        · subst h; exact ⟨by omega, q.1, q.2⟩
      · rintro ⟨a, b, c⟩
        by_cases e : k = i
        · exact Or.inr e
        · exact Or.inl ⟨by omega, b, c⟩
    · rw [if_neg q, ih]
      constructor
      · rintro ⟨a, b, c⟩; exact ⟨by omega, b, c⟩
      · rintro ⟨a, b, c⟩
        by_cases e : k = i
        · subst e; exact absurd ⟨b, c⟩ q
        · exact ⟨by omega, b, c⟩
theorem opm_lt (N : Nat → Nat) (t : Nat) : ∀ k, opm N t k < 2 ^ k
  | 0 => Nat.two_pow_pos 0
  | k + 1 => by
    have ih : opm N t k < 2 ^ (k + 1) := Nat.lt_of_lt_of_le (opm_lt N t k) (Nat.pow_le_pow_right (by decide) (by omega))
    rw [opm]
    split
    · exact Nat.or_lt_two_pow ih (Nat.pow_lt_pow_right (by decide) (by omega))
    · exact ih
/-- what is opened from each coat -/
abbrev opT (N T : Nat → Nat) (n : Nat) : Nat → Nat := fun a => opm N (T a) n
theorem opT_ok (N T : Nat → Nat) (n : Nat) : OPK (opT N T n) n := fun g _ => opm_lt N (T g) n
theorem rem8 {t : Nat} (h : t < 2 ^ 31) : irm (nI t) 8 = nI (t % 8) := irm_nI (d := 8) h (by omega) (by omega)
theorem or_z : ∀ s : Nat, s < 64 → nI s ||| 0 = nI s := by decide +kernel
theorem Po_openedBy_sp {n t : Nat} {N : Nat → Nat} {μ : Mem} (hn : n ≤ 6) (ht : t ≤ 15) (h23 : rd μ 23 0 0 = nI n) (h24 : ∀ g, g < n → rd μ 24 0 g = nI (N g) ∧ N g ≤ 9) : Po_openedBy (nI t) μ = some (nI (opm N t n)) := by
  have key : ∀ (k g F : Nat), g + k = n → k < F → Po_openedBy_4L F (nI t) (nI (opm N t g)) (nI g) μ = some (nI (opm N t n)) := by
    intro k
    induction k with
    | zero =>
      intro g F hg hF
      obtain ⟨F, rfl⟩ : ∃ F', F = F' + 1 := ⟨F - 1, by omega⟩
      have : g = n := by omega
      subst this
      show Po_openedBy_4 _ _ _ _ _ = _
      unfold Po_openedBy_4
      rw [h23, if_neg (nI_nlt (by omega) (by omega))]
    | succ k ih =>
      intro g F hg hF
      obtain ⟨F, rfl⟩ : ∃ F', F = F' + 1 := ⟨F - 1, by omega⟩
      have hgn : g < n := by omega
      have hm : opm N t g < 64 := p64 (n := g) (by omega) (opm_lt N t g)
      have := h24 g hgn
      have nx := ih (g + 1) F (by omega) (by omega)
      rw [opm] at nx
      show Po_openedBy_4 _ _ _ _ _ = _
      unfold Po_openedBy_4 Po_openedBy_40
      rw [h23, if_pos (nI_lt hgn (by omega))]
      simp only [nm_eq]
      rw [nI_1]
      by_cases q : t < 8
      · rw [if_pos (show nI t < 8 from nI_lt (b := 8) q (by omega))]
        rw [if_neg (by omega)] at nx
        exact nx
      · rw [if_neg (show ¬ nI t < 8 from nI_nlt (b := 8) (by omega) (by omega)), chk_eq _ (inb_nI (by omega) (by omega)), ix_nI (by omega), this.1, rem8 (by omega), rem8 (by omega), or_bit _ hm _ (by omega)]
        by_cases q2 : t % 8 = N g % 8
        · rw [if_pos (by rw [q2])]
          rw [if_pos ⟨by omega, q2⟩] at nx
          exact nx
        · rw [if_neg (fun z => q2 ((nI_eq (by omega) (by omega)).mp z))]
          rw [if_neg (fun z => q2 z.2)] at nx
          exact nx
  exact key n 0 1000 (by omega) (by omega)
theorem Po_openedFrom_sp {n x : Nat} {W : Nat → Nat} {μ : Mem} (hn : n ≤ 6) (hx : x < 64) (h23 : rd μ 23 0 0 = nI n) (hW : ∀ g, g < n → W g < 2 ^ n ∧ rd μ 26 0 g = nI (W g)) : Po_openedFrom (nI x) μ = some (nI (bU W x n)) := by
  have key : ∀ (k g F : Nat), g + k = n → k < F → Po_openedFrom_4L F (nI x) (nI (bU W x g)) (nI g) μ = some (nI (bU W x n)) := by
    intro k
    induction k with
    | zero =>
      intro g F hg hF
      obtain ⟨F, rfl⟩ : ∃ F', F = F' + 1 := ⟨F - 1, by omega⟩
      have : g = n := by omega
      subst this
      show Po_openedFrom_4 _ _ _ _ _ = _
      unfold Po_openedFrom_4
      rw [h23, if_neg (nI_nlt (by omega) (by omega))]
    | succ k ih =>
      intro g F hg hF
      obtain ⟨F, rfl⟩ : ∃ F', F = F' + 1 := ⟨F - 1, by omega⟩
      have hgn : g < n := by omega
      have hm : bU W x g < 64 := p64 hn (bU_lt (fun a ha => (hW a ha).1) g (by omega))
      have hw := hW g hgn
      have nx := ih (g + 1) F (by omega) (by omega)
      rw [bU] at nx
      show Po_openedFrom_4 _ _ _ _ _ = _
      unfold Po_openedFrom_4 Po_openedFrom_30
      rw [h23, if_pos (nI_lt hgn (by omega))]
      simp only [nm_eq]
      have e0 : rd μ 26 0 (ix (nI g)) = nI (W g) := by rw [ix_nI (by omega)]; exact hw.2
      rw [nI_1, bit_at _ hx _ (by omega), e0, or_nn _ hm _ (p64 hn hw.1)]
      cases hb : x.testBit g
      · rw [hb, if_neg (by decide)] at nx
        rw [if_neg (by decide)]
        exact nx
      · rw [hb, if_pos rfl] at nx
        rw [if_pos (by decide), chk_eq _ (inb_nI (by omega) (by omega))]
        exact nx
  exact key n 0 1000 (by omega) (by omega)
def H26 (n : Nat) (W : Nat → Nat) (m : Mem) : Prop := ∀ g, g < n → rd m 26 0 g = nI (W g)
theorem Po_open_sp {n : Nat} {N T : Nat → Nat} {μ : Mem} (hn : n ≤ 6) (h23 : rd μ 23 0 0 = nI n) (h24 : ∀ g, g < n → rd μ 24 0 g = nI (N g) ∧ N g ≤ 9) (h25 : ∀ g, g < n → rd μ 25 0 g = nI (T g) ∧ T g ≤ 15) : ∃ (m' : Mem) (W : Nat → Nat), Po_open μ = some m' ∧ Off [26] μ m' ∧ ∀ g, g < n → W g < 2 ^ n ∧ rd m' 26 0 g = nI (W g) ∧ IsCl (opT N T n) n (2 ^ g) (W g) := by
  have hop := opT_ok N T n
  obtain ⟨W0, eW0⟩ : ∃ W0 : Nat → Nat, W0 = fun g => 2 ^ g ||| opT N T n g := ⟨_, rfl⟩
  have ok0 : OKW (opT N T n) n W0 := by
    subst eW0
    intro g hg
    refine ⟨or_lt2 (Nat.pow_lt_pow_right (by decide) hg) (hop g hg), bit_or.mpr (Or.inl (bit_pw.mpr rfl)), fun i hi => bit_or.mpr (Or.inr hi), fun C hC hz i hi => ?_⟩
    rcases bit_or.mp hi with q | q
    · rw [← bit_pw.mp q]; exact hC
    · exact hz g hg hC i q
  have rnd : ∀ (K : Int32 → Mem → Option Mem) (x : Int32) (V : Nat → Nat), OKW (opT N T n) n V → ∀ (k g F : Nat) (m : Mem), g + k = n → k < F → Off [26] μ m → H26 n (rdW n V g) m → ∃ m', Po_open_48L K F x (nI g) m = K (x + 1) m' ∧ Off [26] μ m' ∧ H26 n (rdW n V n) m' := by
    intro K x V ok k
    induction k with
    | zero =>
      intro g F m hg hF ho hm
      obtain ⟨F, rfl⟩ : ∃ F', F = F' + 1 := ⟨F - 1, by omega⟩
      have : g = n := by omega
      subst this
      refine ⟨m, ?_, ho, hm⟩
      show Po_open_48 _ _ _ _ _ = _
      unfold Po_open_48
      rw [ho.rd (by decide), h23, if_neg (nI_nlt (by omega) (by omega)), nm_eq]
    | succ k ih =>
      intro g F m hg hF ho hm
      obtain ⟨F, rfl⟩ : ∃ F', F = F' + 1 := ⟨F - 1, by omega⟩
      have hgn : g < n := by omega
      have okg := rdW_ok ok g
      have hW : ∀ a, a < n → rdW n V g a < 2 ^ n ∧ rd m 26 0 a = nI (rdW n V g a) := fun a ha => ⟨(okg a ha).1, hm a ha⟩
      have e1 := Po_openedFrom_sp (x := rdW n V g g) (W := rdW n V g) (μ := m) hn (p64 hn (okg g hgn).1) (by rw [ho.rd (by decide), h23]) hW
      obtain ⟨m', w1, w2⟩ := ih (g + 1) F (up m 26 0 g (nI (bU (rdW n V g) (rdW n V g g) n))) (by omega) (by omega) (ho.wr' (by decide)) (fun a ha => by
        show _ = nI (stW n (rdW n V g) g a)
        unfold stW
        by_cases q : a = g
        · subst q; rw [if_pos rfl, rd_up_s]
        · rw [if_neg q, rd_up_j q]; exact hm a ha)
      refine ⟨m', ?_, w2⟩
      show Po_open_48 _ _ _ _ _ = _
      unfold Po_open_48
      rw [ho.rd (by decide), h23, if_pos (nI_lt hgn (by omega)), chk_eq _ (inb_nI (by omega) (by omega)), show rd m 26 0 (ix (nI g)) = nI (rdW n V g g) from by rw [ix_nI (by omega)]; exact hm g hgn, bnd_of e1, chk_eq _ (inb_nI (by omega) (by omega)), nm_eq, nm_eq, nI_1, ix_nI (by omega)]
      exact w1
  have rounds : ∀ (k r F : Nat) (m : Mem), r + k = n → k < F → Off [26] μ m → H26 n (rsW n W0 r) m → ∃ m', Po_open_38L F (nI r) m = some m' ∧ Off [26] μ m' ∧ H26 n (rsW n W0 n) m' := by
    intro k
    induction k with
    | zero =>
      intro r F m hr hF ho hm
      obtain ⟨F, rfl⟩ : ∃ F', F = F' + 1 := ⟨F - 1, by omega⟩
      have : r = n := by omega
      subst this
      refine ⟨m, ?_, ho, hm⟩
      show Po_open_38 _ _ _ = _
      unfold Po_open_38
      rw [ho.rd (by decide), h23, if_neg (nI_nlt (by omega) (by omega))]
    | succ k ih =>
      intro r F m hr hF ho hm
      obtain ⟨F, rfl⟩ : ∃ F', F = F' + 1 := ⟨F - 1, by omega⟩
      obtain ⟨m1, a1, a2, a3⟩ := rnd (Po_open_38L F) (nI r) (rsW n W0 r) (rsW_all ok0 r).1 n 0 1000 m (by omega) (by omega) ho hm
      obtain ⟨m', b1, b2⟩ := ih (r + 1) F m1 (by omega) (by omega) a2 a3
      refine ⟨m', ?_, b2⟩
      show Po_open_38 _ _ _ = _
      unfold Po_open_38
      rw [ho.rd (by decide), h23, if_pos (nI_lt (by omega) (by omega))]
      rw [nI_1] at a1
      exact a1.trans b1
  have first : ∀ (k g F : Nat) (m : Mem), g + k = n → k < F → Off [26] μ m → (∀ a, a < g → rd m 26 0 a = nI (W0 a)) → ∃ m', Po_open_2L F (nI g) m = some m' ∧ Off [26] μ m' ∧ H26 n (rsW n W0 n) m' := by
    intro k
    induction k with
    | zero =>
      intro g F m hg hF ho hm
      obtain ⟨F, rfl⟩ : ∃ F', F = F' + 1 := ⟨F - 1, by omega⟩
      have : g = n := by omega
      subst this
      obtain ⟨m', a1, a2⟩ := rounds g 0 1000 m (by omega) (by omega) ho hm
      refine ⟨m', ?_, a2⟩
      show Po_open_2 _ _ _ = _
      unfold Po_open_2
      rw [ho.rd (by decide), h23, if_neg (nI_nlt (by omega) (by omega))]
      exact a1
    | succ k ih =>
      intro g F m hg hF ho hm
      obtain ⟨F, rfl⟩ : ∃ F', F = F' + 1 := ⟨F - 1, by omega⟩
      have hgn : g < n := by omega
      have e1 := Po_openedBy_sp (t := T g) (N := N) (μ := m) hn (h25 g hgn).2 (by rw [ho.rd (by decide), h23]) (fun a ha => by rw [ho.rd (by decide)]; exact h24 a ha)
      have lw : 2 ^ g < 64 := p64 hn (Nat.pow_lt_pow_right (a := 2) (by decide) hgn)
      have lo : opm N (T g) n < 64 := p64 hn (opm_lt N (T g) n)
      obtain ⟨m', w1, w2⟩ := ih (g + 1) F (up m 26 0 g (nI (W0 g))) (by omega) (by omega) (ho.wr' (by decide)) (fun a ha => by
        by_cases q : a = g
        · subst q; exact rd_up_s _ _ _ _ _
        · rw [rd_up_j q]; exact hm a (by omega))
      refine ⟨m', ?_, w2⟩
      show Po_open_2 _ _ _ = _
      unfold Po_open_2
      rw [ho.rd (by decide), h23, if_pos (nI_lt hgn (by omega)), chk_eq _ (inb_nI (by omega) (by omega)), show rd m 25 0 (ix (nI g)) = nI (T g) from by rw [ix_nI (by omega), ho.rd (by decide)]; exact (h25 g hgn).1, bnd_of e1, chk_eq _ (inb_nI (by omega) (by omega)), nm_eq, nm_eq, nI_1, shl_pw _ (by omega), or_nn _ lw _ lo, ix_nI (by omega)]
      rw [eW0] at w1
      exact w1
  obtain ⟨m', a1, a2, a3⟩ := first n 0 1000 μ (by omega) (by omega) Off.rf (fun a ha => by omega)
  exact ⟨m', rsW n W0 n, a1, a2, fun g hg => ⟨((rsW_all ok0 n).1 g hg).1, a3 g hg, rsW_cl hn hop ok0 hg⟩⟩
/-- the reference's own -/
def NT (n : Nat) (N T : Nat → Nat) (ν : Mem) : Prop := rd ν 0 0 12 = nI n ∧ ∀ g, g < n → (rd ν 5 0 (3 * g) = nI (N g) ∧ N g ≤ 9) ∧ rd ν 5 0 (3 * g + 1) = nI (T g) ∧ T g ≤ 15
theorem M_opens1_sp {n t o : Nat} {N T : Nat → Nat} {ν : Mem} (hn : n ≤ 6) (h : NT n N T ν) (ht : t ≤ 15) (ho : o < n) : M_opens1 (nI t) (nI o) ν = some (if 8 ≤ t ∧ t % 8 = N o % 8 then 1 else 0) := by
  have := (h.2 o ho).1
  unfold M_opens1
  by_cases q : 8 ≤ t
  · rw [if_pos (show (7 : Int32) < nI t from nI_lt (a := 7) (by omega) (by omega)), litI 3, pk_mul, chk_eq _ (inb_nI (by omega) (by omega)), ix_nI (by omega), this.1, rem8 (by omega), rem8 (by omega)]
    by_cases q2 : t % 8 = N o % 8
    · rw [if_pos (by rw [q2]), if_pos ⟨q, q2⟩]
    · rw [if_neg (fun z => q2 ((nI_eq (by omega) (by omega)).mp z)), if_neg (fun z => q2 z.2)]
  · rw [if_neg (show ¬ (7 : Int32) < nI t from nI_nlt (a := 7) (by omega) (by omega)), if_neg (fun z => q z.1)]
theorem M_fromOf_sp {n x : Nat} {N T : Nat → Nat} {ν : Mem} (hn : n ≤ 6) (h : NT n N T ν) (hx : x < 2 ^ n) : ∃ y, M_fromOf (nI x) ν = some (nI y) ∧ y < 2 ^ n ∧ IsCl (opT N T n) n x y := by
  have hop := opT_ok N T n
  have inner : ∀ (K4 : Int32 → Int32 → Mem → Option Int32) (K14 : Int32 → Int32 → Int32 → Mem → Option Int32) (b : Int32) (s g : Nat), s < 2 ^ n → g < n → ∀ (k o F : Nat), o + k = n → k < F → M_fromOf_26L K4 K14 F (nI (inn (opT N T n) g s o)) b (nI g) (nI o) ν = K14 (nI (inn (opT N T n) g s n)) b (nI (g + 1)) ν := by
    intro K4 K14 b s g hs hg k
    induction k with
    | zero =>
      intro o F ho hF
      obtain ⟨F, rfl⟩ : ∃ F', F = F' + 1 := ⟨F - 1, by omega⟩
      have : o = n := by omega
      subst this
      show M_fromOf_26 _ _ _ _ _ _ _ _ = _
      unfold M_fromOf_26
      rw [h.1, if_neg (nI_nlt (by omega) (by omega)), nm_eq, nI_1]
    | succ k ih =>
      intro o F ho hF
      obtain ⟨F, rfl⟩ : ∃ F', F = F' + 1 := ⟨F - 1, by omega⟩
      have hm : inn (opT N T n) g s o < 64 := p64 hn (inn_lt hn hs o (by omega))
      have nx := ih (o + 1) F (by omega) (by omega)
      rw [inn] at nx
      have hb : (opT N T n g).testBit o = true ↔ 8 ≤ T g ∧ T g % 8 = N o % 8 := by
        rw [opm_bit n]
        exact ⟨fun z => z.2, fun z => ⟨by omega, z⟩⟩
      obtain ⟨-, t1, t2⟩ := h.2 g hg
      show M_fromOf_26 _ _ _ _ _ _ _ _ = _
      unfold M_fromOf_26 M_fromOf_69
      rw [h.1, if_pos (nI_lt (by omega) (by omega)), bit_at _ hm _ (by omega)]
      simp only [nm_eq]
      rw [nI_1, or_z _ hm, or_bit _ hm _ (by omega)]
      cases hg2 : (inn (opT N T n) g s o).testBit g
      · rw [hg2, if_neg (fun z => by cases z.1)] at nx
        rw [if_neg (by decide)]
        exact nx
      · rw [hg2] at nx
        rw [if_pos (by decide), bnd_of (M_thingOf_sp (by omega) t1), bnd_of (M_opens1_sp hn h t2 (by omega))]
        by_cases q : 8 ≤ T g ∧ T g % 8 = N o % 8
        · rw [if_pos ⟨rfl, hb.mpr q⟩] at nx
          rw [if_pos q, if_neg (by decide)]
          exact nx
        · rw [if_neg (fun z => q (hb.mp z.2))] at nx
          rw [if_neg q, if_pos rfl]
          exact nx
  have pass : ∀ (K4 : Int32 → Int32 → Mem → Option Int32) (b : Int32) (s : Nat), s < 2 ^ n → ∀ (k g F : Nat), g + k = n → k < F → M_fromOf_14L K4 F (nI (pas (opT N T n) n s g)) b (nI g) ν = K4 (nI (pas (opT N T n) n s n)) b ν := by
    intro K4 b s hs k
    induction k with
    | zero =>
      intro g F hg hF
      obtain ⟨F, rfl⟩ : ∃ F', F = F' + 1 := ⟨F - 1, by omega⟩
      have : g = n := by omega
      subst this
      show M_fromOf_14 _ _ _ _ _ _ = _
      unfold M_fromOf_14
      rw [h.1, if_neg (nI_nlt (by omega) (by omega))]
    | succ k ih =>
      intro g F hg hF
      obtain ⟨F, rfl⟩ : ∃ F', F = F' + 1 := ⟨F - 1, by omega⟩
      show M_fromOf_14 _ _ _ _ _ _ = _
      unfold M_fromOf_14
      rw [h.1, if_pos (nI_lt (by omega) (by omega))]
      exact (inner K4 (M_fromOf_14L K4 F) b (pas (opT N T n) n s g) g (pas_lt hn hs g) (by omega) n 0 1000 (by omega) (by omega)).trans (ih (g + 1) F (by omega) (by omega))
  have key : ∀ (k s b F : Nat), 7 ≤ pc s + k → k + 1 < F → s < 2 ^ n → b < 2 ^ n → Sb x s → (∀ C, Sb x C → Cz (opT N T n) n C → Sb s C) → (s = b → Cz (opT N T n) n s) → ∃ y, M_fromOf_4L F (nI s) (nI b) ν = some (nI y) ∧ y < 2 ^ n ∧ IsCl (opT N T n) n x y := by
    intro k
    induction k with
    | zero =>
      intro s b F hk hF hs hb h1 h2 h3
      have := pc_le 6 (by omega) s (p64 hn hs) (p64 hn hs)
      omega
    | succ k ih =>
      intro s b F hk hF hs hb h1 h2 h3
      obtain ⟨F, rfl⟩ : ∃ F', F = F' + 1 := ⟨F - 1, by omega⟩
      have hs6 := p64 hn hs
      have hb6 := p64 hn hb
      by_cases q : s = b
      · refine ⟨s, ?_, hs, h1, h3 q, h2⟩
        show M_fromOf_4 _ _ _ _ = _
        unfold M_fromOf_4
        rw [if_pos (by rw [q])]
      · have e : M_fromOf_4L (F + 1) (nI s) (nI b) ν = M_fromOf_4L F (nI (pas (opT N T n) n s n)) (nI s) ν := by
          show M_fromOf_4 _ _ _ _ = _
          unfold M_fromOf_4
          rw [if_neg (fun z => q ((nI_eq (by omega) (by omega)).mp z))]
          exact pass (M_fromOf_4L F) (nI s) s hs n 0 1000 (by omega) (by omega)
        rw [e]
        have hp := pas_lt (op := opT N T n) hn hs n
        have hge := pas_ge (opT N T n) n s n
        have hle : ∀ C, Sb x C → Cz (opT N T n) n C → Sb (pas (opT N T n) n s n) C := fun C c1 c2 => pas_le (h2 C c1 c2) c2 n (Nat.le_refl n)
        by_cases w : pas (opT N T n) n s n = s
        · obtain ⟨F, rfl⟩ : ∃ F', F = F' + 1 := ⟨F - 1, by omega⟩
          refine ⟨s, ?_, hs, h1, pas_fix hop w, h2⟩
          rw [w]
          show M_fromOf_4 _ _ _ _ = _
          unfold M_fromOf_4
          rw [if_pos rfl]
        · rcases pc_gt hn hs hp hge with z | z
          · exact absurd z.symm w
          · exact ih _ s F (by omega) (by omega) hp hs (h1.tr hge) hle (fun z => absurd z w)
  exact key 7 x 0 1000 (by omega) (by omega) hx (Nat.two_pow_pos n) Sb.rf (fun C c _ => c) (fun z => by
    subst z
    intro g _ hb
    rw [Nat.zero_testBit] at hb; cases hb)
theorem NT_of {hs : Nat → Nat} {gr : Nat → Nat → Nat} {tc : Nat} {ν : Mem} (h : HOK hs gr tc) (hM : HM hs gr ν) : NT (hs 3) (fun g => gr g 1) (fun g => gr g 2) ν := ⟨hM.2.2.2.1, fun g hg => ⟨⟨(hM.2.2.2.2 g hg).2.1, (h.2.2.2.2.1 g hg).2.1⟩, (hM.2.2.2.2 g hg).2.2.1, (h.2.2.2.2.1 g hg).2.2.1⟩⟩
/-- both sides see who is open from whom -/
theorem opened_both {hs : Nat → Nat} {gr : Nat → Nat → Nat} {tc : Nat} {μ ν : Mem} (h : HOK hs gr tc) (hA : HA 0 hs gr μ) (hM : HM hs gr ν) : ∃ (m1 m2 : Mem) (W : Nat → Nat), S_fillPockets μ = some m1 ∧ Po_open m1 = some m2 ∧ SameA μ m2 ∧ rd m2 23 0 0 = nI (hs 3) ∧ (∀ g, g < hs 3 → W g < 2 ^ hs 3 ∧ rd m2 26 0 g = nI (W g)) ∧ ∀ x, x < 2 ^ hs 3 → Po_openedFrom (nI x) m2 = some (nI (bU W x (hs 3))) ∧ M_fromOf (nI x) ν = some (nI (bU W x (hs 3))) ∧ bU W x (hs 3) < 2 ^ hs 3 ∧ ∀ g, g < hs 3 → bU W (2 ^ g) (hs 3) = W g := by
  have hn := h.2.2.2.1
  obtain ⟨m1, a1, a2, a3, a4⟩ := S_fillPockets_sp h hA
  obtain ⟨m2, W, b1, b2, b3⟩ := Po_open_sp (N := fun g => gr g 1) (T := fun g => gr g 2) (μ := m1) hn a3 (fun g hg => ⟨(a4 g hg).1, (h.2.2.2.2.1 g hg).2.1⟩) (fun g hg => ⟨(a4 g hg).2, (h.2.2.2.2.1 g hg).2.2.1⟩)
  have hW : ∀ g, g < hs 3 → W g < 2 ^ hs 3 ∧ rd m2 26 0 g = nI (W g) := fun g hg => ⟨(b3 g hg).1, (b3 g hg).2.1⟩
  have e23 : rd m2 23 0 0 = nI (hs 3) := by rw [b2.rd (by decide), a3]
  refine ⟨m1, m2, W, a1, b1, (a2.same (by decide)).tr (b2.same (by decide)), e23, hW, fun x hx => ?_⟩
  obtain ⟨y, c1, c2, c3⟩ := M_fromOf_sp hn (NT_of h hM) hx
  have c4 := bU_cl (W := W) hx (fun g hg => (b3 g hg).2.2)
  have := c3.uniq c4
  subst this
  refine ⟨Po_openedFrom_sp hn (p64 hn hx) e23 hW, c1, c2, fun g hg => ?_⟩
  exact (bU_cl (W := W) (Nat.pow_lt_pow_right (a := 2) (by decide) hg) (fun g hg => (b3 g hg).2.2)).uniq (b3 g hg).2.2
theorem from_agree (x1 : Int32) {μ ν : Mem} (I : Inv μ ν) : ∃ r μ', S_from x1 μ = some (r, μ') ∧ M_from x1 ν = some r ∧ Inv μ' ν := by
  have I0 := I
  obtain ⟨hs, gr, tc, X, B, z, sk, sm', sv, ⟨h, ht, hA, hM⟩, -, -, -, -⟩ := I
  have hn := h.2.2.2.1
  rcases S_isGroom_sp (x := x1) (hA.1 3 (by decide)) with ⟨p, e⟩ | ⟨p, e⟩
  · obtain ⟨g, hg, rfl⟩ := gOK_nI p (by omega)
    obtain ⟨m1, m2, W, a1, a2, a3, a4, a5, a6⟩ := opened_both h hA hM
    obtain ⟨b1, b2, b3, b4⟩ := a6 (2 ^ g) (Nat.pow_lt_pow_right (by decide) hg)
    refine ⟨nI (W g), m2, ?_, ?_, I0.same a3 (RM.rf)⟩
    · unfold S_from
      rw [e, nm_eq, if_neg (by decide), bnd_of a1, bnd_of a2, chk_eq _ (inb_nI (by omega) (by omega)), ix_nI (by omega), (a5 g hg).2]
    · unfold M_from
      rw [bnd_of (M_isOne_sp hM.2.2.2.1 (by omega)), if_pos p, if_neg (by decide), shl_pw _ (by omega), bnd_of b2, b4 g hg]
  · refine ⟨-2, μ, ?_, ?_, I0⟩
    · unfold S_from
      rw [e, nm_eq, if_pos rfl]
    · unfold M_from
      rw [bnd_of (M_isOne_sp hM.2.2.2.1 (by omega)), if_neg p, if_pos rfl]
