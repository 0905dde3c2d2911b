/-! ===== chance ===== -/
def exW (W : Nat → Nat) (a : Nat) : Nat → Nat
  | 0 => 0
  | g + 1 => if exW W a g = 0 then (if W g = a then 1 else 0) else 1
theorem exW_le (W : Nat → Nat) (a : Nat) : ∀ g, exW W a g ≤ 1
  | 0 => Nat.zero_le 1
  | g + 1 => by rw [exW]; split; split <;> omega; omega
theorem pc_pw1 : ∀ n : Nat, n < 7 → pc (2 ^ n - 1) = n := by decide +kernel
theorem exW_mf {W : Nat → Nat} {n : Nat} (hn : n ≤ 6) (hW : ∀ g, g < n → W g < 2 ^ n) : ∀ g, g ≤ n → (exW W (2 ^ n - 1) g = 1 ∧ mf W g = n) ∨ (exW W (2 ^ n - 1) g = 0 ∧ (mf W g < n ∨ n = 0))
  | 0, _ => Or.inr ⟨rfl, by show 0 < n ∨ n = 0; omega⟩
  | g + 1, h => by
    have hw := hW g (by omega)
    have p1 := pc_le n (by omega) _ (p64 hn hw) hw
    have hp := Nat.two_pow_pos n
    rw [exW, mf]
    have small : ¬ W g = 2 ^ n - 1 → pc (W g) < n := fun q => by
      have := pc_all n (by omega) (W g) (p64 hn hw) (by omega)
      rw [pc_pw1 n (by omega)] at this
      exact this
    rcases exW_mf hn hW g (by omega) with ⟨a1, a2⟩ | ⟨a1, a2⟩
    · left
      rw [a1, if_neg (by decide), if_neg (by omega)]
      exact ⟨rfl, a2⟩
    · rw [a1, if_pos rfl]
      by_cases q : W g = 2 ^ n - 1
      · left
        rw [if_pos q, q, pc_pw1 n (by omega), if_pos (by omega)]
        exact ⟨rfl, rfl⟩
      · right
        have := small q
        rw [if_neg q]
        refine ⟨rfl, ?_⟩
        split <;> omega
theorem Po_all_sp {n : Nat} {W : Nat → Nat} {m : Mem} (h : OPA n W m) : Po_areAllFromOne m = some (nI (exW W (2 ^ n - 1) n)) := by
  obtain ⟨hn, h23, h3⟩ := id h
  have hm := mf_le hn (fun a ha => (h3 a ha).1) n (Nat.le_refl n)
  unfold Po_areAllFromOne
  rw [h23, bnd_of (Po_most_sp h)]
  rcases exW_mf hn (fun a ha => (h3 a ha).1) n (Nat.le_refl n) with ⟨a1, a2⟩ | ⟨a1, a2⟩
  · by_cases q : n = 0
    · subst q
      have : exW W (2 ^ 0 - 1) 0 = 0 := rfl
      rw [this] at a1; cases a1
    · rw [if_pos (show (0 : Int32) < nI n from nI_lt (a := 0) (by omega) (by omega)), a2, if_pos rfl, a1]
      rfl
  · rw [a1]
    by_cases q : n = 0
    · rw [if_neg (show ¬ (0 : Int32) < nI n by rw [q]; decide)]
      rfl
    · rw [if_pos (show (0 : Int32) < nI n from nI_lt (a := 0) (by omega) (by omega)), if_neg (fun z => absurd ((nI_eq (by omega) (by omega)).mp z) (by omega))]
      rfl
theorem nI_toInt64 {n : Nat} (h : n < 2 ^ 31) : (nI n).toInt64 = lN n := Int64.toInt_inj.mp (by rw [Int32.toInt_toInt64, nI_toInt h, lN_toInt h])
/-! in lowest terms -/
def g131 : Nat → Int32 → Int32 → Int64 → Int64 → Int64 → Option Int64
  | 0, _, _, _, _, _ => none
  | n + 1, x2, x3, w4, w6, w8 => if (lg_cmp w8 0) = 0 then (if x3 = 0 then (chk (¬ w6 = 0) <| some (w4 / w6)) else (chk (¬ w6 = 0) <| some ((Int32.toInt64 x2) / w6))) else (chk (¬ w8 = 0) <| g131 n x2 x3 w4 w8 (lrm w6 w8))
theorem g131_M : ∀ (F : Nat) (x2 x3 : Int32) (w4 w6 w8 : Int64) (μ : Mem) (v : Int64), g131 F x2 x3 w4 w6 w8 = some v → M_chance_131L F x2 x3 w4 w6 w8 μ = some (v, μ) := by
  intro F
  induction F with
  | zero => intro x2 x3 w4 w6 w8 μ v h; cases h
  | succ F ih =>
    intro x2 x3 w4 w6 w8 μ v h
    rw [g131] at h
    show M_chance_131 _ _ _ _ _ _ _ = _
    unfold M_chance_131
    by_cases q : lg_cmp w8 0 = 0
    · rw [if_pos q] at h ⊢
      by_cases q2 : x3 = 0
      · rw [if_pos q2] at h ⊢
        obtain ⟨h1, h2⟩ := chk_out h
        cases h2
        rw [chk_eq _ h1]
      · rw [if_neg q2] at h ⊢
        obtain ⟨h1, h2⟩ := chk_out h
        cases h2
        rw [chk_eq _ h1]
    · rw [if_neg q] at h ⊢
      obtain ⟨h1, h2⟩ := chk_out h
      rw [chk_eq _ h1, nm_eq]
      exact ih _ _ _ _ _ _ _ h2
def sEnd (x4 x2 x3 : Int32) : Option Int64 := bnd (S_commonOf x4 x2) fun r3 => if x3 = 0 then (chk (¬ r3 = 0) <| some (Int32.toInt64 (x4 / r3))) else (chk (¬ r3 = 0) <| some (Int32.toInt64 (x2 / r3)))
theorem low_terms : ∀ b : Nat, b < 21 → 1 ≤ b → ∀ a : Nat, a < b + 1 → ∀ j : Nat, j < 2 → (sEnd (nI a) (nI b) (nI j)).isSome = true ∧ g131 100 (nI b) (nI j) (lN a) (lN a) (lN b) = sEnd (nI a) (nI b) (nI j) := by decide +kernel
theorem g131_up : ∀ (F k : Nat) (x2 x3 : Int32) (w4 w6 w8 : Int64) (v : Int64), g131 F x2 x3 w4 w6 w8 = some v → g131 (F + k) x2 x3 w4 w6 w8 = some v := by
  intro F
  induction F with
  | zero => intro k x2 x3 w4 w6 w8 v h; cases h
  | succ F ih =>
    intro k x2 x3 w4 w6 w8 v h
    rw [show F + 1 + k = (F + k) + 1 by omega]
    rw [g131] at h ⊢
    by_cases q : lg_cmp w8 0 = 0
    · rw [if_pos q] at h ⊢; exact h
    · rw [if_neg q] at h ⊢
      obtain ⟨h1, h2⟩ := chk_out h
      rw [chk_eq _ h1]
      exact ih k _ _ _ _ _ _ h2
theorem M_one_sp {n : Nat} {W : Nat → Nat} {ν : Mem} (hn : n ≤ 6) (h12 : rd ν 0 0 12 = nI n) (hW : ∀ g, g < n → W g < 2 ^ n ∧ M_fromOf (nI (2 ^ g)) ν = some (nI (W g))) (K : Int32 → Int32 → Int32 → Int64 → Int32 → Mem → Option (Int64 × Mem)) (x1 x2 x3 x6 : Int32) (w4 : Int64) : M_chance_52L K 1000 x1 x2 x3 w4 x6 0 0 ν = M_chance_110 K x1 x2 x3 x6 w4 (lN (exW W (2 ^ n - 1) n)) ν := by
  have hp := a64 hn
  have key : ∀ (k g F : Nat), g + k = n → k < F → M_chance_52L K F x1 x2 x3 w4 x6 (nI (exW W (2 ^ n - 1) g)) (nI g) ν = M_chance_110 K x1 x2 x3 x6 w4 (lN (exW W (2 ^ n - 1) n)) ν := by
    intro k
    induction k with
    | zero =>
      intro g F hg hF
      obtain ⟨F, rfl⟩ : ∃ F', F = F' + 1 := ⟨F - 1, by omega⟩
      have : g = n := by omega
      subst this
      show M_chance_52 _ _ _ _ _ _ _ _ _ _ = _
      unfold M_chance_52
      rw [h12, if_neg (nI_nlt (by omega) (by omega))]
      have := exW_le W (2 ^ g - 1) g
      obtain q | q : exW W (2 ^ g - 1) g = 0 ∨ exW W (2 ^ g - 1) g = 1 := by omega
      · rw [q, if_pos (by decide)]; rfl
      · rw [q, if_neg (by decide)]; rfl
    | succ k ih =>
      intro g F hg hF
      obtain ⟨F, rfl⟩ : ∃ F', F = F' + 1 := ⟨F - 1, by omega⟩
      have hgn : g < n := by omega
      obtain ⟨w1, w2⟩ := hW g hgn
      have w6 := p64 hn w1
      have nx := ih (g + 1) F (by omega) (by omega)
      rw [exW] at nx
      have := exW_le W (2 ^ n - 1) g
      show M_chance_52 _ _ _ _ _ _ _ _ _ _ = _
      unfold M_chance_52 M_chance_90
      rw [h12, if_pos (nI_lt hgn (by omega)), shl_pw _ (by omega), bnd_of w2, all_pw n (by omega)]
      simp only [nm_eq]
      rw [nI_1]
      obtain q | q : exW W (2 ^ n - 1) g = 0 ∨ exW W (2 ^ n - 1) g = 1 := by omega
      · rw [q, if_pos rfl] at nx
        rw [q, if_pos (by decide)]
        by_cases q2 : W g = 2 ^ n - 1
        · rw [if_pos q2] at nx
          rw [if_pos (by rw [q2])]
          exact nx
        · rw [if_neg q2] at nx
          rw [if_neg (fun z => q2 ((nI_eq (by omega) (by omega)).mp z))]
          exact nx
      · rw [q, if_neg (by decide)] at nx
        rw [q, if_neg (by decide)]
        exact nx
  exact key n 0 1000 (by omega) (by omega)
theorem chance_agree (x1 x2 x3 : Int32) {μ ν : Mem} (I : Inv μ ν) : ∃ r μ' ν', S_chance x1 x2 x3 μ = some (r, μ') ∧ M_chance x1 x2 x3 ν = some (r, ν') ∧ Inv μ' ν' := by
  have I0 := I
  obtain ⟨hs, gr, tc, X, B, z, sk, sm', sv, IC⟩ := I
  have h : HOK hs gr tc := IC.1.1
  have hA := IC.1.2.2.1
  have hM := IC.1.2.2.2
  have hn := h.2.2.2.1
  have out : (x2 < 1 ∨ 20 < x2) → ∃ r μ' ν', S_chance x1 x2 x3 μ = some (r, μ') ∧ M_chance x1 x2 x3 ν = some (r, ν') ∧ Inv μ' ν' := by
    intro q
    have e : M_in x2.toInt64 1 20 = 0 := by
      rw [M_in_iff, show (1 : Int64).toInt = 1 from by decide, show (20 : Int64).toInt = 20 from by decide, if_neg]
      rintro ⟨a, b⟩
      rcases q with q | q
      · have := Int32.lt_iff_toInt_lt.mp q
        rw [show (1 : Int32).toInt = 1 from by decide] at this
        omega
      · have := Int32.lt_iff_toInt_lt.mp q
        rw [show (20 : Int32).toInt = 20 from by decide] at this
        omega
    refine ⟨(-4611686018427387904), μ, ν, ?_, ?_, I0⟩
    · unfold S_chance
      rcases q with q | q
      · rw [if_pos q]
      · rw [if_pos q, ite_self]
    · unfold M_chance
      rw [e, nm_eq, if_pos rfl]
  by_cases q1 : x2 < 1
  · exact out (Or.inl q1)
  by_cases q2 : 20 < x2
  · exact out (Or.inr q2)
  obtain ⟨b, hb1, hb2, rfl⟩ : ∃ b : Nat, 1 ≤ b ∧ b ≤ 20 ∧ x2 = nI b := by
    rcases i32_rng x2 (b := 20) (by omega) with q | q | ⟨j, hj, rfl⟩
    · exact absurd (Int32.lt_trans q (by decide)) q1
    · exact absurd q q2
    · refine ⟨j, ?_, hj, rfl⟩
      apply Nat.lt_of_not_le
      intro z
      apply q1
      rw [show j = 0 by omega]
      decide
  have eb : M_in (nI b).toInt64 1 20 = 1 := by
    rw [M_in_iff, show (1 : Int64).toInt = 1 from by decide, show (20 : Int64).toInt = 20 from by decide, nI_toInt (by omega), if_pos (by omega)]
  rcases M_in_or (x := x3) (b := 1) (by omega) with ⟨q, e⟩ | ⟨i, hi, rfl, e⟩
  · have n0 : ¬ x3 = 0 ∧ ¬ x3 = 1 := by
      rcases q with q | q
      · exact ⟨neg_ne q (j := 0) (by omega), neg_ne q (j := 1) (by omega)⟩
      · exact ⟨big_ne q (j := 0) (by omega) (by omega), big_ne q (j := 1) (by omega) (by omega)⟩
    refine ⟨(-4611686018427387904), μ, ν, ?_, ?_, I0⟩
    · unfold S_chance
      rw [if_neg q1, if_neg q2, if_neg n0.1, if_neg n0.2]
    · unfold M_chance
      rw [eb, nm_eq, if_neg (by decide), show M_in x3.toInt64 0 1 = 0 from e, nm_eq, if_pos rfl]
  have e : M_in (nI i).toInt64 0 1 = 1 := e
  obtain ⟨m1, a1, a2, a3, a4⟩ := S_fillPockets_sp h hA
  have key : ∀ (j k F a : Nat) (m w : Mem), k + j = b → j < F → a ≤ k → Off [25, 26] m1 m → HM hs gr w → RM [4, 5, 6, 7, 8, 9, 10] ([4, 7, 8, 12] ++ SCM) ν w → ∃ r m' w', S_chance_34L F x1 (nI b) (nI i) (nI a) (nI k) m = some (r, m') ∧ M_chance_32L F x1 (nI b) (nI i) (lN a) (nI k) w = some (r, w') ∧ Off [25, 26] m1 m' ∧ HM hs gr w' ∧ RM [4, 5, 6, 7, 8, 9, 10] ([4, 7, 8, 12] ++ SCM) ν w' := by
    intro j
    induction j with
    | zero =>
      intro k F a m w hk hF ha ho hM' hr
      obtain ⟨F, rfl⟩ : ∃ F', F = F' + 1 := ⟨F - 1, by omega⟩
      have : k = b := by omega
      subst this
      obtain ⟨l1, l2⟩ := low_terms k (by omega) hb1 a (by omega) i (by omega)
      obtain ⟨v, hv⟩ := Option.isSome_iff_exists.mp l1
      rw [hv] at l2
      refine ⟨v, m, w, ?_, ?_, ho, hM', hr⟩
      · show S_chance_34 _ _ _ _ _ _ _ = _
        unfold S_chance_34
        rw [if_neg (nI_nlt (by omega) (by omega))]
        unfold sEnd at hv
        obtain ⟨r3, c1, c2⟩ := bnd_out hv
        rw [bnd_of c1]
        by_cases q : nI i = 0
        · rw [if_pos q] at c2 ⊢
          obtain ⟨d1, d2⟩ := chk_out c2
          cases d2
          rw [chk_eq _ d1]
        · rw [if_neg q] at c2 ⊢
          obtain ⟨d1, d2⟩ := chk_out c2
          cases d2
          rw [chk_eq _ d1]
      · show M_chance_32 _ _ _ _ _ _ _ = _
        unfold M_chance_32
        rw [if_neg (nI_nlt (by omega) (by omega)), nm_eq, nI_toInt64 (by omega)]
        exact g131_M 1000 _ _ _ _ _ w v (g131_up 100 900 _ _ _ _ _ v l2)
    | succ j ih =>
      intro k F a m w hk hF ha ho hM' hr
      obtain ⟨F, rfl⟩ : ∃ F', F = F' + 1 := ⟨F - 1, by omega⟩
      obtain ⟨s, es⟩ : ∃ s : Int32, s = x1 + nI k := ⟨_, rfl⟩
      -- the class
      obtain ⟨m2, c1, c2, c3⟩ := Po_draw_sp (μ := m) s hn (by rw [ho.rd (by decide)]; exact a3)
      have o2 : Off [25, 26] m1 m2 := ho.tr (c2.mono (by decide))
      have e23 : rd m2 23 0 0 = nI (hs 3) := by rw [o2.rd (by decide)]; exact a3
      obtain ⟨m3, W, d1, d2, d3⟩ := Po_open_sp (N := fun g => gr g 1) (T := thg s) (μ := m2) hn e23 (fun g hg => by rw [o2.rd (by decide)]; exact ⟨(a4 g hg).1, (h.2.2.2.2.1 g hg).2.1⟩) (fun g hg => ⟨c3 g hg, (thg_sp s g).2⟩)
      have o3 : Off [25, 26] m1 m3 := o2.tr (d2.mono (by decide))
      have oA : OPA (hs 3) W m3 := ⟨hn, by rw [o3.rd (by decide)]; exact a3, fun g hg => ⟨(d3 g hg).1, (d3 g hg).2.1⟩⟩
      have eA := Po_all_sp oA
      -- the reference
      obtain ⟨w1, b1, b2, b3, b4⟩ := M_draws_sp h hM' s
      have nt : NT (hs 3) (fun g => gr g 1) (thg s) w1 := by
        refine ⟨b3.2.2.2.1, fun g hg => ?_⟩
        obtain ⟨-, f2, f3, -, -⟩ := b3.2.2.2.2 g hg
        rw [wth_n _ _ (by omega)] at f2
        rw [show wth gr (thg s) (hs 3) g 2 = thg s g from if_pos ⟨rfl, hg⟩] at f3
        exact ⟨⟨f2, (h.2.2.2.2.1 g hg).2.1⟩, f3, (thg_sp s g).2⟩
      have hW : ∀ g, g < hs 3 → W g < 2 ^ hs 3 ∧ M_fromOf (nI (2 ^ g)) w1 = some (nI (W g)) := by
        intro g hg
        obtain ⟨y, y1, y2, y3⟩ := M_fromOf_sp hn nt (Nat.pow_lt_pow_right (a := 2) (by decide) hg)
        have := y3.uniq (d3 g hg).2.2
        subst this
        exact ⟨y2, y1⟩
      obtain ⟨w2, f1, f2, f3⟩ := M_laysBack_sp (gr := gr) h b3 (fun g hg => b4 g hg) (fun g b hb => wth_n _ _ (fun z => hb z.1))
      have hex := exW_le W (2 ^ hs 3 - 1) (hs 3)
      obtain ⟨r, m', w', t1, t2, t3⟩ := ih (k + 1) F (a + exW W (2 ^ hs 3 - 1) (hs 3)) m3 w2 (by omega) (by omega) (by omega) o3 f3 ((hr.tr (b2.mono (by decide) (by decide))).tr (f2.mono (by decide) (by decide)))
      refine ⟨r, m', w', ?_, ?_, t3⟩
      · show S_chance_34 _ _ _ _ _ _ _ = _
        unfold S_chance_34 S_chance_71
        rw [if_pos (nI_lt (by omega) (by omega)), ← es, bnd_of c1, bnd_of d1, bnd_of eA]
        simp only [nm_eq]
        rw [nI_1, nI_1]
        obtain q | q : exW W (2 ^ hs 3 - 1) (hs 3) = 0 ∨ exW W (2 ^ hs 3 - 1) (hs 3) = 1 := by omega
        · rw [q] at t1 ⊢
          rw [if_pos (by decide)]; exact t1
        · rw [q] at t1 ⊢
          rw [if_neg (by decide)]; exact t1
      · show M_chance_32 _ _ _ _ _ _ _ = _
        unfold M_chance_32
        rw [if_pos (nI_lt (by omega) (by omega)), ← es, bnd_of b1, M_one_sp hn b3.2.2.2.1 hW]
        unfold M_chance_110
        rw [nm_eq, bnd_of f1, nm_eq, nI_1, lN_add]
        exact t2
  obtain ⟨r, m', w', t1, t2, t3, t4, t5⟩ := key b 0 1000 0 m1 ν (by omega) (by omega) (Nat.le_refl 0) Off.rf hM RM.rf
  have oo : Off [23, 24, 25, 26] μ m' := (a2.mono (by decide)).tr (t3.mono (by decide))
  have hi01 : nI i = 0 ∨ nI i = 1 := by
    obtain rfl | rfl : i = 0 ∨ i = 1 := by omega
    · exact Or.inl rfl
    · exact Or.inr rfl
  refine ⟨r, m', w', ?_, ?_, Inv.house (hs' := hs) (gr' := gr) IC h (hA.off oo (by decide) (by decide)) t4 (Nat.le_refl _) (fun _ _ => rfl) ((oo.same (by decide)).mono (by decide)) (fun j => oo.rd (by decide) _ _) (fun g j => oo.rd (by decide) _ _) t5⟩
  · have e24 : S_chance_24 x1 (nI b) (nI i) μ = some (r, m') := by
      unfold S_chance_24
      rw [bnd_of a1]
      exact t1
    unfold S_chance
    rw [if_neg q1, if_neg q2, e24]
    rcases hi01 with q | q
    · rw [if_pos q]
    · rw [if_neg (show ¬ nI i = 0 by rw [q]; decide), if_pos q]
  · unfold M_chance
    rw [eb, nm_eq, if_neg (by decide), e, nm_eq, if_neg (by decide)]
    exact t2
