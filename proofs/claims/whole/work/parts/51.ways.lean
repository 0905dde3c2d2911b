/-! ===== all ways to wear the coats ===== -/
def loW (l : List Nat) : Nat → Nat
  | 0 => 0
  | k + 1 => if l.getD (k + 1) 0 < l.getD k 0 then loW l k else k + 1
def hiW (l : List Nat) (low : Nat) : Nat → Nat
  | 0 => 0
  | h + 1 => if low < h + 1 ∧ l.getD (h + 1) 0 < l.getD low 0 then hiW l low h else h + 1
def swL (l : List Nat) (i j : Nat) : List Nat := (l.set i (l.getD j 0)).set j (l.getD i 0)
def rvL : Nat → List Nat → Nat → Nat → List Nat
  | 0, l, _, _ => l
  | F + 1, l, i, j => if i < j then rvL F (swL l i j) (i + 1) (j - 1) else l
def stpL (n : Nat) (l : List Nat) : List Nat := if loW l (n - 1) = 0 then l else rvL n (swL l (loW l (n - 1) - 1) (hiW l (loW l (n - 1) - 1) (n - 1))) (loW l (n - 1)) (n - 1)
def sqL (n : Nat) : Nat → List Nat → List (List Nat)
  | 0, _ => []
  | k + 1, l => l :: sqL n k (stpL n l)
def fac : Nat → Nat
  | 0 => 1
  | n + 1 => fac n * (n + 1)
def rgL : Nat → Nat → List Nat
  | 0, _ => []
  | j + 1, c => c :: rgL j (c + 1)
def trL (n : Nat) : Nat → Nat → List Nat → List (List Nat)
  | 0, _, pre => [pre]
  | k + 1, used, pre => (rgL n 0).flatMap (fun c => if used.testBit c = true then [] else trL n k (used ||| 2 ^ c) (pre ++ [c]))
theorem ways_all : ∀ n : Nat, n < 7 → sqL n (fac n) (rgL n 0) = trL n n 0 [] := by decide +kernel
def okL (n : Nat) (l : List Nat) : Prop := l.length = n ∧ ∀ g, g < n → l.getD g 0 < n
theorem ways_ok0 : ∀ n : Nat, n < 7 → ∀ l ∈ trL n n 0 [], l.length = n ∧ ∀ g : Nat, g < n → l.getD g 0 < n := by decide +kernel
theorem ways_ne : ∀ n : Nat, n < 7 → (trL n n 0 []).length = fac n ∧ fac n ≤ 720 ∧ 1 ≤ fac n := by decide +kernel
theorem getD_set {l : List Nat} {i j v : Nat} (hi : i < l.length) : (l.set i v).getD j 0 = if j = i then v else l.getD j 0 := by
  rw [List.getD_eq_getElem?_getD, List.getD_eq_getElem?_getD, List.getElem?_set]
  by_cases q : j = i
  · subst q; rw [if_pos rfl, if_pos hi, if_pos rfl]; rfl
  · rw [if_neg (Ne.symm q), if_neg q]
theorem getD_sw {n : Nat} {l : List Nat} {i j a : Nat} (hl : l.length = n) (hi : i < n) (hj : j < n) : (swL l i j).getD a 0 = if a = j then l.getD i 0 else if a = i then l.getD j 0 else l.getD a 0 := by
  unfold swL
  rw [getD_set (by rw [List.length_set]; omega), getD_set (by omega)]
theorem okL.sw {n : Nat} {l : List Nat} (h : okL n l) {i j : Nat} (hi : i < n) (hj : j < n) : okL n (swL l i j) := by
  refine ⟨by unfold swL; rw [List.length_set, List.length_set]; exact h.1, fun a ha => ?_⟩
  rw [getD_sw h.1 hi hj]
  split
  · exact h.2 i hi
  · split
    · exact h.2 j hj
    · exact h.2 a ha
/-- the class's rows of a way -/
def HL (n : Nat) (l : List Nat) (m : Mem) : Prop := rd m 20 0 0 = nI n ∧ okL n l ∧ ∀ g, g < n → rd m 21 0 g = nI (l.getD g 0)
theorem HL.off {n : Nat} {l : List Nat} {S : List Nat} {m m' : Mem} (h : HL n l m) (o : Off S m m') (h1 : 20 ∉ S) (h2 : 21 ∉ S) : HL n l m' := ⟨by rw [o.rd h1]; exact h.1, h.2.1, fun g hg => by rw [o.rd h2]; exact h.2.2 g hg⟩
theorem Wa_swap_sp {n : Nat} {l : List Nat} {m : Mem} (hn : n ≤ 6) (h : HL n l m) {i j : Nat} (hi : i < n) (hj : j < n) : ∃ m', Wa_swap (nI i) (nI j) m = some m' ∧ HL n (swL l i j) m' ∧ Off [21] m m' := by
  refine ⟨up (up m 21 0 i (nI (l.getD j 0))) 21 0 j (nI (l.getD i 0)), ?_, ⟨h.1, h.2.1.sw hi hj, fun a ha => ?_⟩, (Off.rf.wr' (by decide)).wr' (by decide)⟩
  · unfold Wa_swap
    rw [chk_eq _ (inb_nI (by omega) (by omega)), nm_eq, chk_eq _ (inb_nI (by omega) (by omega)), chk_eq _ (inb_nI (by omega) (by omega)), nm_eq, chk_eq _ (inb_nI (by omega) (by omega)), nm_eq, ix_nI (by omega), ix_nI (by omega), h.2.2 i hi, h.2.2 j hj]
  · rw [getD_sw h.2.1.1 hi hj]
    by_cases q : a = j
    · subst q; rw [if_pos rfl, rd_up_s]
    · rw [if_neg q, rd_up_j q]
      by_cases q2 : a = i
      · subst q2; rw [if_pos rfl, rd_up_s]
      · rw [if_neg q2, rd_up_j q2]; exact h.2.2 a ha
theorem nI_m1 {j : Nat} (h : 0 < j) : nI j + (-1) = nI (j - 1) := by
  rw [← Int32.sub_eq_add_neg]
  obtain ⟨j, rfl⟩ : ∃ k, j = k + 1 := ⟨j - 1, by omega⟩
  exact nI_pred j
theorem Wa_rev_sp {n : Nat} (hn : n ≤ 6) : ∀ (k : Nat) (l : List Nat) (i j F : Nat) (m : Mem), HL n l m → j < n → i ≤ n → j < i + k → k < F → ∃ m', Wa_step_90L F (nI i) (nI j) m = some m' ∧ HL n (rvL k l i j) m' ∧ Off [21] m m' := by
  intro k
  induction k with
  | zero =>
    intro l i j F m h hj hi hk hF
    obtain ⟨F, rfl⟩ : ∃ F', F = F' + 1 := ⟨F - 1, by omega⟩
    refine ⟨m, ?_, h, Off.rf⟩
    show Wa_step_90 _ _ _ _ = _
    unfold Wa_step_90
    rw [if_neg (nI_nlt (by omega) (by omega))]
  | succ k ih =>
    intro l i j F m h hj hi hk hF
    obtain ⟨F, rfl⟩ : ∃ F', F = F' + 1 := ⟨F - 1, by omega⟩
    rw [rvL]
    by_cases q : i < j
    · obtain ⟨m1, a1, a2, a3⟩ := Wa_swap_sp hn h (i := i) (j := j) (by omega) hj
      obtain ⟨m', b1, b2, b3⟩ := ih (swL l i j) (i + 1) (j - 1) F m1 a2 (by omega) (by omega) (by omega) (by omega)
      rw [if_pos q]
      refine ⟨m', ?_, b2, a3.tr b3⟩
      show Wa_step_90 _ _ _ _ = _
      unfold Wa_step_90
      rw [if_pos (nI_lt q (by omega)), bnd_of a1, nm_eq, nm_eq, nI_1, nI_m1 (by omega)]
      exact b1
    · rw [if_neg q]
      refine ⟨m, ?_, h, Off.rf⟩
      show Wa_step_90 _ _ _ _ = _
      unfold Wa_step_90
      rw [if_neg (nI_nlt (by omega) (by omega))]
theorem loW_le (l : List Nat) : ∀ k, loW l k ≤ k
  | 0 => Nat.le_refl 0
  | k + 1 => by
    rw [loW]
    split
    · exact Nat.le_succ_of_le (loW_le l k)
    · exact Nat.le_refl _
theorem hiW_le (l : List Nat) (low : Nat) : ∀ k, hiW l low k ≤ k
  | 0 => Nat.le_refl 0
  | k + 1 => by
    rw [hiW]
    split
    · exact Nat.le_succ_of_le (hiW_le l low k)
    · exact Nat.le_refl _
theorem Wa_step_sp {n : Nat} {l : List Nat} {m : Mem} (hn : n ≤ 6) (h : HL n l m) : ∃ m', Wa_step m = some m' ∧ HL n (stpL n l) m' ∧ Off [21] m m' := by
  have e72 : ∀ low high, low < n → high < n → ∃ m', Wa_step_72 (nI low) (nI high) m = some m' ∧ HL n (rvL n (swL l low high) (low + 1) (n - 1)) m' ∧ Off [21] m m' := by
    intro low high hlo hhi
    obtain ⟨m1, a1, a2, a3⟩ := Wa_swap_sp hn h hlo hhi
    obtain ⟨m', b1, b2, b3⟩ := Wa_rev_sp hn n (swL l low high) (low + 1) (n - 1) 1000 m1 a2 (by omega) (by omega) (by omega) (by omega)
    refine ⟨m', ?_, b2, a3.tr b3⟩
    unfold Wa_step_72
    rw [bnd_of a1, nm_eq, nm_eq, nI_1, a2.1, show nI n - 1 = nI (n - 1) from by
      obtain ⟨j, rfl⟩ : ∃ k, n = k + 1 := ⟨n - 1, by omega⟩
      exact nI_pred j]
    exact b1
  have e46 : ∀ low, low < n → ∀ (k F : Nat), k < n → k < F → ∃ m', Wa_step_46L F (nI low) (nI k) m = some m' ∧ HL n (rvL n (swL l low (hiW l low k)) (low + 1) (n - 1)) m' ∧ Off [21] m m' := by
    intro low hlo k
    induction k with
    | zero =>
      intro F hk hF
      obtain ⟨F, rfl⟩ : ∃ F', F = F' + 1 := ⟨F - 1, by omega⟩
      obtain ⟨m', a1, a2⟩ := e72 low 0 hlo (by omega)
      refine ⟨m', ?_, a2⟩
      show Wa_step_46 _ _ _ _ = _
      unfold Wa_step_46
      rw [if_neg (nI_nlt (by omega) (by omega))]
      exact a1
    | succ k ih =>
      intro F hk hF
      obtain ⟨F, rfl⟩ : ∃ F', F = F' + 1 := ⟨F - 1, by omega⟩
      have v1 := h.2.1.2 (k + 1) hk
      have v2 := h.2.1.2 low hlo
      rw [hiW]
      by_cases q : low < k + 1 ∧ l.getD (k + 1) 0 < l.getD low 0
      · obtain ⟨m', a1, a2⟩ := ih F (by omega) (by omega)
        rw [if_pos q]
        refine ⟨m', ?_, a2⟩
        show Wa_step_46 _ _ _ _ = _
        unfold Wa_step_46
        rw [if_pos (nI_lt q.1 (by omega)), chk_eq _ (inb_nI (by omega) (by omega)), chk_eq _ (inb_nI (by omega) (by omega)), ix_nI (by omega), ix_nI (by omega), h.2.2 _ hk, h.2.2 _ hlo, if_pos (nI_lt q.2 (by omega)), nm_eq, nI_m1 (by omega)]
        exact a1
      · obtain ⟨m', a1, a2⟩ := e72 low (k + 1) hlo hk
        rw [if_neg q]
        refine ⟨m', ?_, a2⟩
        show Wa_step_46 _ _ _ _ = _
        unfold Wa_step_46
        by_cases w : low < k + 1
        · rw [if_pos (nI_lt w (by omega)), chk_eq _ (inb_nI (by omega) (by omega)), chk_eq _ (inb_nI (by omega) (by omega)), ix_nI (by omega), ix_nI (by omega), h.2.2 _ hk, h.2.2 _ hlo, if_neg (nI_nlt (by omega) (by omega))]
          exact a1
        · rw [if_neg (nI_nlt (by omega) (by omega))]
          exact a1
  have e7 : ∀ (k F : Nat), k ≤ n - 1 → k < F → ∃ m', Wa_step_7L F (nI k - 1) m = some m' ∧ HL n (if loW l k = 0 then l else rvL n (swL l (loW l k - 1) (hiW l (loW l k - 1) (n - 1))) (loW l k) (n - 1)) m' ∧ Off [21] m m' := by
    intro k
    induction k with
    | zero =>
      intro F hk hF
      obtain ⟨F, rfl⟩ : ∃ F', F = F' + 1 := ⟨F - 1, by omega⟩
      refine ⟨m, ?_, by rw [loW, if_pos rfl]; exact h, Off.rf⟩
      show Wa_step_7 _ _ _ = _
      unfold Wa_step_7 Wa_step_34
      rw [if_pos (show nI 0 - 1 < 0 by decide), if_pos (show nI 0 - 1 < 0 by decide)]
    | succ k ih =>
      intro F hk hF
      obtain ⟨F, rfl⟩ : ∃ F', F = F' + 1 := ⟨F - 1, by omega⟩
      have v1 := h.2.1.2 (k + 1) (by omega)
      have v2 := h.2.1.2 k (by omega)
      rw [loW]
      by_cases q : l.getD (k + 1) 0 < l.getD k 0
      · obtain ⟨m', a1, a2⟩ := ih F (by omega) (by omega)
        rw [if_pos q]
        refine ⟨m', ?_, a2⟩
        show Wa_step_7 _ _ _ = _
        unfold Wa_step_7
        rw [nI_pred, if_neg (nI_nlt0 (by omega)), chk_eq _ (inb_nI (by omega) (by omega)), nI_1, chk_eq _ (inb_nI (by omega) (by omega)), ix_nI (by omega), ix_nI (by omega), h.2.2 _ (by omega), h.2.2 _ (by omega), if_pos (nI_lt q (by omega)), nm_eq, show nI k + (-1) = nI k - 1 from (Int32.sub_eq_add_neg _ _).symm]
        exact a1
      · obtain ⟨m', a1, a2⟩ := e46 k (by omega) (n - 1) 1000 (by omega) (by omega)
        rw [if_neg q, if_neg (by omega), Nat.add_sub_cancel]
        refine ⟨m', ?_, a2⟩
        show Wa_step_7 _ _ _ = _
        unfold Wa_step_7 Wa_step_34
        rw [nI_pred, if_neg (nI_nlt0 (by omega)), chk_eq _ (inb_nI (by omega) (by omega)), nI_1, chk_eq _ (inb_nI (by omega) (by omega)), ix_nI (by omega), ix_nI (by omega), h.2.2 _ (by omega), h.2.2 _ (by omega), if_neg (nI_nlt (by omega) (by omega)), if_neg (nI_nlt0 (by omega)), nm_eq, h.1, show nI n - 1 = nI (n - 1) from by
          obtain ⟨j, rfl⟩ : ∃ k, n = k + 1 := ⟨n - 1, by omega⟩
          exact nI_pred j]
        exact a1
  unfold Wa_step
  rw [nm_eq, h.1]
  by_cases q : n = 0
  · subst q
    refine ⟨m, ?_, ?_, Off.rf⟩
    · show Wa_step_7 _ _ _ = _
      unfold Wa_step_7 Wa_step_34
      rw [if_pos (show nI 0 - 2 < 0 by decide), if_pos (show nI 0 - 2 < 0 by decide)]
    · show HL 0 (stpL 0 l) m
      unfold stpL
      rw [loW, if_pos rfl]; exact h
  · obtain ⟨m', a1, a2⟩ := e7 (n - 1) 1000 (Nat.le_refl _) (by omega)
    refine ⟨m', ?_, a2⟩
    rw [show nI n - 2 = nI (n - 1) - 1 from by
      obtain ⟨j, rfl⟩ : ∃ k, n = k + 1 := ⟨n - 1, by omega⟩
      rw [Nat.add_sub_cancel, ← nI_pred j, i32_sub_sub]
      rfl]
    exact a1
theorem rgL_len : ∀ n c, (rgL n c).length = n
  | 0, _ => rfl
  | n + 1, c => by rw [rgL, List.length_cons, rgL_len n]
theorem rgL_get : ∀ n c i, i < n → (rgL n c).getD i 0 = c + i
  | 0, _, _, h => absurd h (by omega)
  | n + 1, c, 0, _ => rfl
  | n + 1, c, i + 1, h => by
    have := rgL_get n (c + 1) i (by omega)
    rw [rgL, List.getD_cons_succ, this]
    omega
theorem Wa_begin_sp {n : Nat} {m : Mem} (hn : n ≤ 6) : ∃ m', Wa_begin (nI n) m = some m' ∧ HL n (rgL n 0) m' ∧ rd m' 20 0 1 = nI (fac n) ∧ Off [20, 21] m m' := by
  have key : ∀ (k g F : Nat) (w : Mem), g + k = n → k < F → Off [20, 21] m w → rd w 20 0 0 = nI n → rd w 20 0 1 = nI (fac g) → (∀ a, a < g → rd w 21 0 a = nI a) → ∃ m', Wa_begin_12L F (nI g) w = some m' ∧ HL n (rgL n 0) m' ∧ rd m' 20 0 1 = nI (fac n) ∧ Off [20, 21] m m' := by
    intro k
    induction k with
    | zero =>
      intro g F w hg hF ho h0 h1 h2
      obtain ⟨F, rfl⟩ : ∃ F', F = F' + 1 := ⟨F - 1, by omega⟩
      have : g = n := by omega
      subst this
      refine ⟨w, ?_, ⟨h0, ⟨rgL_len g 0, fun a ha => by rw [rgL_get g 0 a ha]; omega⟩, fun a ha => by rw [rgL_get g 0 a ha, Nat.zero_add]; exact h2 a ha⟩, h1, ho⟩
      show Wa_begin_12 _ _ _ = _
      unfold Wa_begin_12
      rw [h0, if_neg (nI_nlt (by omega) (by omega))]
    | succ k ih =>
      intro g F w hg hF ho h0 h1 h2
      obtain ⟨F, rfl⟩ : ∃ F', F = F' + 1 := ⟨F - 1, by omega⟩
      obtain ⟨m', b1, b2⟩ := ih (g + 1) F (up (up w 21 0 g (nI g)) 20 0 1 (nI (fac (g + 1)))) (by omega) (by omega) ((ho.wr' (by decide)).wr' (by decide)) h0 rfl (fun a ha => by
        rw [rd_up_f (by decide)]
        by_cases q : a = g
        · subst q; exact rd_up_s _ _ _ _ _
        · rw [rd_up_j q]; exact h2 a (by omega))
      refine ⟨m', ?_, b2⟩
      show Wa_begin_12 _ _ _ = _
      unfold Wa_begin_12
      rw [h0, if_pos (nI_lt (by omega) (by omega)), chk_eq _ (inb_nI (by omega) (by omega)), ix_nI (by omega), nm_eq, nm_eq, nm_eq, rd_up_f (by decide), h1, nI_1, pk_mul]
      exact b1
  unfold Wa_begin
  rw [nm_eq, nm_eq]
  exact key n 0 1000 _ (by omega) (by omega) ((Off.rf.wr' (by decide)).wr' (by decide)) rfl rfl (fun a ha => by omega)
def dgN (f : Nat → Nat) : Nat → Nat
  | 0 => 0
  | k + 1 => 10 * dgN f k + f k + 1
theorem dgN_cong {f g : Nat → Nat} : ∀ n, (∀ i, i < n → f i = g i) → dgN f n = dgN g n
  | 0, _ => rfl
  | n + 1, h => by rw [dgN, dgN, dgN_cong n (fun i hi => h i (by omega)), h n (by omega)]
theorem Wa_digits_sp {n : Nat} {l : List Nat} {m : Mem} (hn : n ≤ 6) (h : HL n l m) : Wa_digits m = some (nI (dgN (fun g => l.getD g 0) n)) := by
  have key : ∀ (k g F : Nat), g + k = n → k < F → Wa_digits_4L F (nI (dgN (fun g => l.getD g 0) g)) (nI g) m = some (nI (dgN (fun g => l.getD g 0) n)) := by
    intro k
    induction k with
    | zero =>
      intro g F hg hF
      obtain ⟨F, rfl⟩ : ∃ F', F = F' + 1 := ⟨F - 1, by omega⟩
      have : g = n := by omega
      subst this
      show Wa_digits_4 _ _ _ _ = _
      unfold Wa_digits_4
      rw [h.1, if_neg (nI_nlt (by omega) (by omega))]
    | succ k ih =>
      intro g F hg hF
      obtain ⟨F, rfl⟩ : ∃ F', F = F' + 1 := ⟨F - 1, by omega⟩
      show Wa_digits_4 _ _ _ _ = _
      unfold Wa_digits_4
      rw [h.1, if_pos (nI_lt (by omega) (by omega)), chk_eq _ (inb_nI (by omega) (by omega)), ix_nI (by omega), h.2.2 g (by omega), nm_eq, nm_eq, nI_1, litI 10, pk_mul, nI_add, nI_1]
      exact ih (g + 1) F (by omega) (by omega)
  exact key n 0 1000 (by omega) (by omega)
