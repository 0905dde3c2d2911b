/-! ===== tells: of which kind, which number, what in whose pocket ===== -/
def mkw (w : Nat → Nat) : Nat → Nat
  | 0 => 0
  | k + 1 => mkw w k ||| 2 ^ w k
theorem mkw_bit {w : Nat → Nat} {i : Nat} : ∀ k, (mkw w k).testBit i = true ↔ ∃ a, a < k ∧ w a = i
  | 0 => by
    rw [mkw, Nat.zero_testBit]
    exact ⟨fun h => (by cases h), fun ⟨a, h, _⟩ => absurd h (by omega)⟩
  | k + 1 => by
    rw [mkw, bit_orp, mkw_bit k]
    constructor
    · rintro (⟨a, h, e⟩ | e)
      · exact ⟨a, by omega, e⟩
      · exact ⟨k, by omega, e⟩
    · rintro ⟨a, h, e⟩
      by_cases q : a = k
      · subst q; exact Or.inr e
      · exact Or.inl ⟨a, by omega, e⟩
theorem mkw_pc {w : Nat → Nat} {n : Nat} (hn : n ≤ 6) (hw : ∀ g, g < n → w g < n) (hi : ∀ a b, a < n → b < n → w a = w b → a = b) : ∀ k, k ≤ n → mkw w k < 2 ^ n ∧ pc (mkw w k) = k
  | 0, _ => ⟨Nat.two_pow_pos n, by show pc 0 = 0; decide⟩
  | k + 1, h => by
    obtain ⟨a, b⟩ := mkw_pc hn hw hi k (by omega)
    have hk := hw k (by omega)
    have nb : (mkw w k).testBit (w k) = false := by
      cases q : (mkw w k).testBit (w k)
      · rfl
      · obtain ⟨c, hc, e⟩ := (mkw_bit k).mp q
        have := hi c k (by omega) (by omega) e
        omega
    refine ⟨or_lt n hn _ a _ hk, ?_⟩
    show pc (mkw w k ||| 2 ^ w k) = k + 1
    rw [pc_or _ (p64 hn a) _ (by omega) nb, b]
theorem surj6 {w : Nat → Nat} {n : Nat} (hn : n ≤ 6) (hw : ∀ g, g < n → w g < n) (hi : ∀ a b, a < n → b < n → w a = w b → a = b) {c : Nat} (hc : c < n) : ∃ y, y < n ∧ w y = c := by
  obtain ⟨a, b⟩ := mkw_pc hn hw hi n (Nat.le_refl n)
  have e : mkw w n = 2 ^ n - 1 := by
    refine Decidable.byContradiction (fun q => ?_)
    have := pc_all n (by omega) (mkw w n) (p64 hn a) (by omega)
    rw [pc_pw1 n (by omega), b] at this
    omega
  have : (mkw w n).testBit c = true := by rw [e, Nat.testBit_two_pow_sub_one, decide_eq_true hc]
  exact (mkw_bit n).mp this
theorem S_wearerOf_sp {hs : Nat → Nat} {gr : Nat → Nat → Nat} {tc g : Nat} {μ : Mem} (h : HOK hs gr tc) (hA : HA 0 hs gr μ) (hg : g < hs 3) : ∃ y, y < hs 3 ∧ gr y 4 = g ∧ S_wearerOf (nI g) μ = some (nI y) := by
  have hn := h.2.2.2.1
  obtain ⟨y, hy, ey⟩ := surj6 (w := fun a => gr a 4) hn (fun a ha => (h.2.2.2.2.1 a ha).2.2.2.2) (fun a b ha hb e => h.2.2.2.2.2 a b ha hb e) hg
  refine ⟨y, hy, ey, ?_⟩
  have key : ∀ (k i F : Nat), i + k = hs 3 → k < F → i ≤ y → S_wearerOf_2L F (nI g) (nI i) μ = some (nI y) := by
    intro k
    induction k with
    | zero => intro i F hi hF hy'; omega
    | succ k ih =>
      intro i F hi hF hy'
      obtain ⟨F, rfl⟩ : ∃ F', F = F' + 1 := ⟨F - 1, by omega⟩
      have hin : i < hs 3 := by omega
      have c5 := (h.2.2.2.2.1 i hin).2.2.2.2
      show S_wearerOf_2 _ _ _ _ = _
      unfold S_wearerOf_2
      rw [hA.1 3 (by decide), if_pos (nI_lt hin (by omega)), chk_eq _ (inb_nI (by omega) (by omega)), ix_nI (by omega), show rd μ 2 i 4 = nI (gr i 4) from hA.2 i 4 hin (by decide), nm_eq, nI_1]
      by_cases q : gr i 4 = g
      · rw [if_pos (by rw [q])]
        have := h.2.2.2.2.2 i y hin hy (q.trans ey.symm)
        rw [this]
      · rw [if_neg (fun z => q ((nI_eq (by omega) (by omega)).mp z))]
        refine ih (i + 1) F (by omega) (by omega) ?_
        have : i ≠ y := fun z => q (by rw [z]; exact ey)
        omega
  exact key (hs 3) 0 1000 (by omega) (by omega) (by omega)
theorem HM_k0 {hs : Nat → Nat} {gr : Nat → Nat → Nat} {ν : Mem} (H : HM hs gr ν) {g v : Nat} : HM hs (u2 gr g 0 v) (up ν 4 0 g (nI v)) := by
  obtain ⟨a, b, c, d, e⟩ := H
  refine ⟨a, b, c, d, fun a' ha => ?_⟩
  obtain ⟨e0, e1, e2, e3, e4⟩ := e a' ha
  refine ⟨?_, e1.trans (by rw [u2_n _ (by omega)]), e2.trans (by rw [u2_n _ (by omega)]), e3.trans (by rw [u2_n _ (by omega)]), e4.trans (by rw [u2_n _ (by omega)])⟩
  by_cases q : a' = g
  · subst q; rw [rd_up_s, u2_s]
  · rw [rd_up_j q, u2_n _ (by omega)]; exact e0
theorem u2_u2 (gr : Nat → Nat → Nat) (g k p v : Nat) : u2 (u2 gr g k p) g k v = u2 gr g k v := by
  funext a b
  unfold u2
  by_cases q : a = g ∧ b = k
  · rw [if_pos q, if_pos q]
  · rw [if_neg q, if_neg q, if_neg q]
theorem u2_id (gr : Nat → Nat → Nat) (g k : Nat) : u2 gr g k (gr g k) = gr := by
  funext a b
  unfold u2
  by_cases q : a = g ∧ b = k
  · rw [if_pos q, q.1, q.2]
  · rw [if_neg q]
theorem HOK.u2r {hs : Nat → Nat} {gr : Nat → Nat → Nat} {tc g col v : Nat} (h : HOK hs gr tc) (hc : col < 3) (hv : v ≤ (if col = 0 then 5 else if col = 1 then 9 else 15)) : HOK hs (u2 gr g col v) tc := by
  refine ⟨h.1, h.2.1, h.2.2.1, h.2.2.2.1, fun a ha => ?_, fun a b ha hb e => ?_⟩
  · obtain ⟨b0, b1, b2, b3, b4⟩ := h.2.2.2.2.1 a ha
    rw [u2_n gr (show ¬ (a = g ∧ 3 = col) by omega), u2_n gr (show ¬ (a = g ∧ 4 = col) by omega)]
    have row : ∀ i M, gr a i ≤ M → (i = col → v ≤ M) → u2 gr g col v a i ≤ M := by
      intro i M h1 h2
      unfold u2
      split
      · rename_i q; exact h2 q.2
      · exact h1
    refine ⟨Nat.lt_succ_of_le (row 0 5 (by omega) (fun z => by rw [← z] at hv; simpa using hv)), row 1 9 b1 (fun z => by rw [← z] at hv; simpa using hv), row 2 15 b2 (fun z => by rw [← z] at hv; simpa using hv), b3, b4⟩
  · rw [u2_n gr (show ¬ (a = g ∧ 4 = col) by omega), u2_n gr (show ¬ (b = g ∧ 4 = col) by omega)] at e
    exact h.2.2.2.2.2 a b ha hb e
/-- what is felt of the dancer, were one of his numbers another -/
def flY (X : Nat → List Int32 × List Int32 × List Int32) (t : Nat) (gr : Nat → Nat → Nat) (y col v : Nat) : Nat := feelV (X t) (u1 (eG gr y (gr y 4) (gr (gr y 4) 2)) col v)
theorem feelV_le' (x : List Int32 × List Int32 × List Int32) (e : Nat → Nat) : feelV x e ≤ 99 := feelV_le x e
theorem eG_u1 {gr : Nat → Nat → Nat} {y g c col v : Nat} (hc : col < 3) (hy : (col < 2 ∧ y = g) ∨ (col = 2 ∧ c = g)) : eG (u2 gr g col v) y c (u2 gr g col v c 2) = u1 (eG gr y c (gr c 2)) col v := by
  funext i
  unfold u1
  by_cases q : i = col
  · rw [if_pos q]
    subst q
    obtain rfl | rfl | rfl : i = 0 ∨ i = 1 ∨ i = 2 := by omega
    · show u2 gr g 0 v y 0 = v
      rw [show y = g by omega, u2_s]
    · show u2 gr g 1 v y 1 = v
      rw [show y = g by omega, u2_s]
    · show u2 gr g 2 v c 2 = v
      rw [show c = g by omega, u2_s]
  · rw [if_neg q]
    match i with
    | 0 => exact u2_n gr (by omega)
    | 1 => exact u2_n gr (by omega)
    | 2 => exact u2_n gr (by omega)
    | 3 => rfl
    | 4 => rfl
    | 5 => rfl
    | 6 => rfl
    | _ + 7 => rfl
theorem eG_u0 {gr : Nat → Nat → Nat} {a g c col v : Nat} (hy : (col < 2 ∧ a ≠ g) ∨ (col = 2 ∧ c ≠ g)) : eG (u2 gr g col v) a c (u2 gr g col v c 2) = eG gr a c (gr c 2) := by
  rw [u2_n gr (show ¬ (c = g ∧ 2 = col) by omega)]
  exact eG_cong (u2_n gr (by omega)) (u2_n gr (by omega))
/-- nobody is otherwise just if the others aren't, and the dancer isn't -/
theorem unl_u2 {X : Nat → List Int32 × List Int32 × List Int32} {hs : Nat → Nat} {gr : Nat → Nat → Nat} {tc t g y col v : Nat} {vv : Nat → Int32} (h : HOK hs gr tc) (hc : col < 3) (hyn : y < hs 3) (hy : (col < 2 ∧ y = g) ∨ (col = 2 ∧ gr y 4 = g)) : unl (fun a => fl X t (u2 gr g col v) a (u2 gr g col v a 4)) vv (hs 3) = 0 ↔ (∀ a, a < hs 3 → a ≠ y → nI (fl X t gr a (gr a 4)) = vv a) ∧ nI (flY X t gr y col v) = vv y := by
  have e4 : ∀ a, u2 gr g col v a 4 = gr a 4 := fun a => u2_n gr (by omega)
  have eo : ∀ a, a < hs 3 → a ≠ y → fl X t (u2 gr g col v) a (u2 gr g col v a 4) = fl X t gr a (gr a 4) := by
    intro a ha hay
    unfold fl
    rw [e4, eG_u0]
    rcases hy with ⟨q1, q2⟩ | ⟨q1, q2⟩
    · exact Or.inl ⟨q1, by omega⟩
    · exact Or.inr ⟨q1, fun z => hay (h.2.2.2.2.2 a y ha hyn (by omega))⟩
  have ey : fl X t (u2 gr g col v) y (u2 gr g col v y 4) = flY X t gr y col v := by
    unfold fl flY
    rw [e4, eG_u1 hc]
    omega
  rw [unl_0]
  constructor
  · intro H
    refine ⟨fun a ha hay => ?_, ?_⟩
    · have := H a ha
      rw [eo a ha hay] at this
      exact this
    · have := H y hyn
      rw [ey] at this
      exact this
  · rintro ⟨H1, H2⟩ a ha
    by_cases q : a = y
    · subst q; rw [ey]; exact H2
    · rw [eo a ha q]; exact H1 a ha q
theorem and_not : ∀ m : Nat, m < 64 → ∀ y : Nat, y < 6 → decide (nI m &&& ((shl 1 (nI y)) ^^^ (-1)) = 0) = (decide (m = 0) || decide (m = 2 ^ y)) := by decide +kernel
theorem others_0 {d : Nat → Nat} {v : Nat → Int32} {n y : Nat} (hn : n ≤ 6) (hy : y < n) : (nI (unl d v n) &&& ((shl 1 (nI y)) ^^^ (-1)) = 0) ↔ ∀ a, a < n → a ≠ y → nI (d a) = v a := by
  have hm : unl d v n < 64 := p64 hn (unl_lt d v n)
  have e := and_not _ hm y (by omega)
  have e2 : (nI (unl d v n) &&& ((shl 1 (nI y)) ^^^ (-1)) = 0) ↔ (unl d v n = 0 ∨ unl d v n = 2 ^ y) := by
    constructor
    · intro z
      rw [decide_eq_true z] at e
      have := e.symm
      rw [Bool.or_eq_true, decide_eq_true_iff, decide_eq_true_iff] at this
      exact this
    · intro z
      have : (decide (unl d v n = 0) || decide (unl d v n = 2 ^ y)) = true := by
        rw [Bool.or_eq_true, decide_eq_true_iff, decide_eq_true_iff]; exact z
      rw [this] at e
      exact of_decide_eq_true e
  rw [e2]
  constructor
  · intro z a ha hay
    refine Decidable.byContradiction (fun q => ?_)
    have hb := (unl_bit (d := d) (v := v) n).mpr ⟨ha, q⟩
    rcases z with z | z
    · rw [z, Nat.zero_testBit] at hb; cases hb
    · rw [z] at hb
      exact hay (bit_pw.mp hb).symm
  · intro H
    by_cases q : nI (d y) = v y
    · left
      exact unl_0.mpr (fun i hi => by
        by_cases w : i = y
        · rw [w]; exact q
        · exact H i hi w)
    · right
      refine Sb.anti (fun i hi => ?_) (fun i hi => ?_)
      · obtain ⟨a, b⟩ := (unl_bit n).mp hi
        refine bit_pw.mpr (Decidable.byContradiction (fun w => b (H i a (fun z => w z.symm))))
      · have := bit_pw.mp hi
        subst this
        exact (unl_bit n).mpr ⟨hy, q⟩
theorem S_would_sp {X : Nat → List Int32 × List Int32 × List Int32} {hs : Nat → Nat} {gr : Nat → Nat → Nat} {tc : Nat} {μ : Mem} {s y col L : Nat} {vv : Nat → Int32} (h : HOK hs gr tc) (ht : tc ≤ 6) (hA : HA 0 hs gr μ) (hX : XA tc X μ) (hv : ∀ g, g < hs 3 → rd μ 17 s g = vv g) (hy : y < hs 3) (hc : col < 3) (hL : L ≤ 15) : ∃ m', S_wouldBeSo_65 s (nI (col + 1)) (nI y) 0 (nI L) μ = some (acb (fun v => decide (nI (flY X (hs 2) gr y col v) = vv y)) (L + 1) 0 0, m') ∧ Off [8, 18, 19] μ m' := by
  have hn := h.2.2.2.1
  obtain ⟨m0, t1, t2, t3⟩ := S_seeAsIs_sp h hA hy
  have key : ∀ (j v F : Nat) (acc : Int32) (m : Mem), v + j = L + 1 → j < F → (∀ i, i < 3 → i ≠ col → rd m 18 0 i = nI (eG gr y (gr y 4) (gr (gr y 4) 2) i)) → Off [8, 18, 19] μ m → ∃ m', S_wouldBeSo_76L F s (nI (col + 1)) (nI y) acc (nI L) (nI v) m = some (acb (fun v => decide (nI (flY X (hs 2) gr y col v) = vv y)) j acc v, m') ∧ Off [8, 18, 19] μ m' := by
    intro j
    induction j with
    | zero =>
      intro v F acc m hj hF hm ho
      obtain ⟨F, rfl⟩ : ∃ F', F = F' + 1 := ⟨F - 1, by omega⟩
      refine ⟨m, ?_, ho⟩
      show S_wouldBeSo_76 _ _ _ _ _ _ _ _ = _
      unfold S_wouldBeSo_76
      rw [if_pos (nI_lt (by omega) (by omega))]
      rfl
    | succ j ih =>
      intro v F acc m hj hF hm ho
      obtain ⟨F, rfl⟩ : ∃ F', F = F' + 1 := ⟨F - 1, by omega⟩
      obtain ⟨m1, em1⟩ : ∃ m1, m1 = up m 18 0 col (nI v) := ⟨_, rfl⟩
      have o1 : Off [8, 18, 19] μ m1 := by rw [em1]; exact ho.wr' (by decide)
      have hA1 := hA.off o1 (by decide) (by decide)
      have hX1 : XA tc X m1 := hX.cg (o1.rd (by decide) _ _) (fun f i j hf _ => o1.rd (by revert f; decide) _ _)
      have r1 : ∀ i, i < 3 → rd m1 18 0 i = nI (u1 (eG gr y (gr y 4) (gr (gr y 4) 2)) col v i) := by
        intro i hi
        rw [em1]
        by_cases q : i = col
        · subst q; rw [rd_up_s, u1_s]
        · rw [rd_up_j q, u1_n _ q]; exact hm i hi q
      have b0 : u1 (eG gr y (gr y 4) (gr (gr y 4) 2)) col v 0 < 2 ^ 31 := by
        have := (h.2.2.2.2.1 y hy).1
        unfold u1
        split
        · omega
        · show gr y 0 < _
          omega
      obtain ⟨m2, f1, f2⟩ := Ma_feels_sp (hX1.2 (hs 2) h.2.2.1) (r1 0 (by decide)) (r1 1 (by decide)) (r1 2 (by decide)) b0
      obtain ⟨m', c1, c2⟩ := ih (v + 1) F (if nI (flY X (hs 2) gr y col v) = vv y then acc ||| shl 1 (nI v) else acc) m2 (by omega) (by omega) (fun i hi hic => by rw [f2.rd (by decide), r1 i hi, u1_n _ hic]) (o1.tr (f2.mono (by decide)))
      refine ⟨m', ?_, c2⟩
      have e76 : S_wouldBeSo_76L (F + 1) s (nI (col + 1)) (nI y) acc (nI L) (nI v) m = S_wouldBeSo_145 (S_wouldBeSo_76L F) s (nI (col + 1)) (nI y) acc (nI L) (nI v) m1 := by
        show S_wouldBeSo_76 _ _ _ _ _ _ _ _ = _
        unfold S_wouldBeSo_76
        simp only [nm_eq]
        rw [em1, if_neg (nI_nlt (by omega) (by omega))]
        obtain rfl | rfl | rfl : col = 0 ∨ col = 1 ∨ col = 2 := by omega
        · rw [if_pos (by decide)]
        · rw [if_neg (by decide), if_pos (by decide)]
        · rw [if_neg (by decide), if_neg (by decide)]
      have e17 : rd m2 17 s y = vv y := by rw [(o1.tr (f2.mono (by decide))).rd (by decide)]; exact hv y hy
      rw [e76]
      unfold S_wouldBeSo_145 S_wouldBeSo_175
      rw [bnd_of (S_rule_sp h ht hA1), chk_eq _ (show hs 2 < 6 by have := h.2.2.1; omega), bnd2_of f1, chk_eq _ (inb_nI (by omega) (by omega)), ix_nI (by omega), e17]
      simp only [nm_eq]
      rw [nI_1, acb]
      by_cases q : nI (flY X (hs 2) gr y col v) = vv y
      · rw [if_pos q] at c1
        rw [if_pos (show nI (feelV (X (hs 2)) (u1 (eG gr y (gr y 4) (gr (gr y 4) 2)) col v)) = vv y from q), c1, decide_eq_true q, if_pos rfl]
      · rw [if_neg q] at c1
        rw [if_neg (show ¬ nI (feelV (X (hs 2)) (u1 (eG gr y (gr y 4) (gr (gr y 4) 2)) col v)) = vv y from q), c1, decide_eq_false q, if_neg (by decide)]
  obtain ⟨m', c1, c2⟩ := key (L + 1) 0 1000 0 m0 (by omega) (by omega) (fun i hi _ => by
    obtain rfl | rfl | rfl : i = 0 ∨ i = 1 ∨ i = 2 := by omega
    · exact t2.1
    · exact t2.2.1
    · exact t2.2.2.1) (t3.mono (by decide))
  refine ⟨m', ?_, c2⟩
  unfold S_wouldBeSo_65
  rw [bnd_of t1]
  exact c1
