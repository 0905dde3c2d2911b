/-! ===== plain rows for the pure part ===== -/
theorem litI (n : Nat) : (@OfNat.ofNat Int32 n Int32.instOfNat) = nI n := rfl
theorem rd_up (μ : Mem) (f i j : Nat) (v : Int32) (f' i' j' : Nat) : rd (up μ f i j v) f' i' j' = if f' = f ∧ i' = i ∧ j' = j then v else rd μ f' i' j' := rfl
theorem rd_up_s (μ : Mem) (f i j : Nat) (v : Int32) : rd (up μ f i j v) f i j = v := by simp [rd_up]
theorem rd_up_f {μ : Mem} {f i j : Nat} {v : Int32} {f' i' j' : Nat} (h : f' ≠ f) : rd (up μ f i j v) f' i' j' = rd μ f' i' j' := by simp [rd_up, h]
theorem rd_up_i {μ : Mem} {f i j : Nat} {v : Int32} {f' i' j' : Nat} (h : i' ≠ i) : rd (up μ f i j v) f' i' j' = rd μ f' i' j' := by simp [rd_up, h]
theorem rd_up_j {μ : Mem} {f i j : Nat} {v : Int32} {f' i' j' : Nat} (h : j' ≠ j) : rd (up μ f i j v) f' i' j' = rd μ f' i' j' := by simp [rd_up, h]
theorem rd_upL (μ : Mem) (w : Int64) (f i j : Nat) : rd (upL μ w) f i j = rd μ f i j := rfl
theorem rdL_up (μ : Mem) (f i j : Nat) (v : Int32) : rdL (up μ f i j v) = rdL μ := rfl
theorem rdL_upL (μ : Mem) (w : Int64) : rdL (upL μ w) = w := rfl
theorem nm_eq {α β : Type} (e : α) (k : α → β) : nm e k = k e := rfl
theorem nm2_eq {α β γ : Type} (a : α) (b : β) (k : α → β → γ) : nm2 (a, b) k = k a b := rfl
theorem bnd_eq {α β : Type} (x : α) (k : α → Option β) : bnd (some x) k = k x := rfl
theorem bnd2_eq {α β γ : Type} (x : α) (y : β) (k : α → β → Option γ) : bnd2 (some (x, y)) k = k x y := rfl
theorem chk_eq {α : Type} {c : Prop} [Decidable c] (k : Option α) (h : c) : chk c k = k := if_pos h
theorem bnd_of {α β : Type} {e : Option α} {x : α} {k : α → Option β} (h : e = some x) : bnd e k = k x := by rw [h]; rfl
theorem bnd2_of {α β γ : Type} {e : Option (α × β)} {x : α} {y : β} {k : α → β → Option γ} (h : e = some (x, y)) : bnd2 e k = k x y := by rw [h]; rfl
theorem inb_nI {a n : Nat} (h : a < n) (hn : n < 2 ^ 31) : inb (nI a) n := vp_in_nI h hn
theorem ix_nI {n : Nat} (h : n < 2 ^ 31) : ix (nI n) = n := nI_clamp h
theorem nI_lt' {a b : Nat} (ha : a < 2 ^ 31) (hb : b < 2 ^ 31) : (nI a < nI b) = (a < b) := propext (nI_ltI ha hb)
theorem nI_eq' {a b : Nat} (ha : a < 2 ^ 31) (hb : b < 2 ^ 31) : (nI a = nI b) = (a = b) := propext (nI_eq ha hb)
theorem nI_neg1 {n : Nat} (h : n < 2 ^ 31) : ¬ nI n = -1 := by
  intro e
  have := congrArg Int32.toInt e
  rw [nI_toInt h] at this
  have h2 : (-1 : Int32).toInt = -1 := by decide
  rw [h2] at this
  omega
theorem neg1_lt0 : (-1 : Int32) < 0 := by decide
theorem nI_nlt0 {n : Nat} (h : n < 2 ^ 31) : ¬ nI n < 0 := nI_pos h
theorem nI_sub' {a b : Nat} (h : b ≤ a) : nI a - nI b = nI (a - b) := pk_sub h
theorem lN_lit (n : Nat) : (@OfNat.ofNat Int64 n Int64.instOfNat) = lN n := rfl
/-- an int is negative, or one of the numbers below 2^31 -/
theorem i32_cases (x : Int32) : x < 0 ∨ ∃ j : Nat, j < 2 ^ 31 ∧ x = nI j := by
  by_cases h : x < 0
  · exact Or.inl h
  · exact Or.inr (nI_of h)
theorem toI_neg {x : Int32} (h : x < 0) : x.toInt < 0 := by
  have := Int32.lt_iff_toInt_lt.mp h
  simpa using this
/-- 'in' of the reference over ints -/
theorem M_in_iff (x : Int32) (a b : Int64) : M_in x.toInt64 a b = if a.toInt ≤ x.toInt ∧ x.toInt ≤ b.toInt then 1 else 0 := by
  have hx : x.toInt64.toInt = x.toInt := Int32.toInt_toInt64 x
  unfold M_in lg_cmp
  by_cases h1 : x.toInt64 > a
  · have h1' := Int64.lt_iff_toInt_lt.mp h1
    rw [hx] at h1'
    rw [if_pos h1, if_neg (by decide)]
    by_cases h2 : x.toInt64 > b
    · have h2' := Int64.lt_iff_toInt_lt.mp h2
      rw [hx] at h2'
      rw [if_pos h2, if_pos (by decide), if_neg (by omega)]
    · have h2' : ¬ b.toInt < x.toInt64.toInt := fun q => h2 (Int64.lt_iff_toInt_lt.mpr q)
      rw [hx] at h2'
      rw [if_neg h2]
      by_cases h3 : x.toInt64 = b
      · rw [if_pos h3, if_neg (by decide), if_pos (by omega)]
      · rw [if_neg h3, if_neg (by decide), if_pos (by omega)]
  · have h1' : ¬ a.toInt < x.toInt64.toInt := fun q => h1 (Int64.lt_iff_toInt_lt.mpr q)
    rw [hx] at h1'
    rw [if_neg h1]
    by_cases h3 : x.toInt64 = a
    · have h3' : x.toInt = a.toInt := by rw [← hx, h3]
      rw [if_pos h3, if_neg (by decide)]
      by_cases h2 : x.toInt64 > b
      · have h2' := Int64.lt_iff_toInt_lt.mp h2
        rw [hx] at h2'
        rw [if_pos h2, if_pos (by decide), if_neg (by omega)]
      · have h2' : ¬ b.toInt < x.toInt64.toInt := fun q => h2 (Int64.lt_iff_toInt_lt.mpr q)
        rw [hx] at h2'
        rw [if_neg h2]
        by_cases h4 : x.toInt64 = b
        · rw [if_pos h4, if_neg (by decide), if_pos (by omega)]
        · rw [if_neg h4, if_neg (by decide), if_pos (by omega)]
    · have h4 : x.toInt ≠ a.toInt := fun q => h3 (Int64.toInt_inj.mp (by rw [hx]; exact q))
      rw [if_neg h3, if_pos (by decide), if_neg (by omega)]
theorem M_in_nI {j : Nat} (h : j < 2 ^ 31) (b : Nat) (hb : b < 2 ^ 31) : M_in (nI j).toInt64 0 (lN b) = if j ≤ b then 1 else 0 := by
  rw [M_in_iff, nI_toInt h, lN_toInt hb]
  have : (0 : Int64).toInt = 0 := by decide
  rw [this]
  by_cases hj : j ≤ b
  · rw [if_pos (by omega), if_pos hj]
  · rw [if_neg (by omega), if_neg hj]
theorem M_in_neg {x : Int32} (h : x < 0) (b : Int64) : M_in x.toInt64 0 b = 0 := by
  rw [M_in_iff]
  have h1 := toI_neg h
  have : (0 : Int64).toInt = 0 := by decide
  rw [this, if_neg (by omega)]
/-! which families stay -/
def Off (S : List Nat) (μ μ' : Mem) : Prop := μ'.2 = μ.2 ∧ ∀ f i : Nat, f ∉ S → μ'.1 f i = μ.1 f i
theorem Off.rf {S : List Nat} {μ : Mem} : Off S μ μ := ⟨rfl, fun _ _ _ => rfl⟩
theorem Off.tr {S : List Nat} {a b c : Mem} (h : Off S a b) (h2 : Off S b c) : Off S a c := ⟨h2.1.trans h.1, fun f i q => (h2.2 f i q).trans (h.2 f i q)⟩
theorem Off.mono {S S' : List Nat} {a b : Mem} (h : Off S a b) (hs : ∀ x ∈ S, x ∈ S') : Off S' a b := ⟨h.1, fun f i q => h.2 f i (fun z => q (hs f z))⟩
theorem Off.rd {S : List Nat} {a b : Mem} (h : Off S a b) {f : Nat} (hf : f ∉ S) (i j : Nat) : rd b f i j = rd a f i j := by
  show b.1 f i j = a.1 f i j
  rw [h.2 f i hf]
theorem Off.wr {S : List Nat} {μ : Mem} {f i j : Nat} {v : Int32} (hf : f ∈ S) : Off S μ (up μ f i j v) := ⟨rfl, fun f' i' q => up_off μ v (fun z => q (by rw [z.1]; exact hf))⟩
theorem Off.wr' {S : List Nat} {a μ : Mem} {f i j : Nat} {v : Int32} (h : Off S a μ) (hf : f ∈ S) : Off S a (up μ f i j v) := h.tr (Off.wr hf)
/-- sums -/
def sm (f : Nat → Nat) : Nat → Nat
  | 0 => 0
  | n + 1 => sm f n + f n
theorem sm_le {f : Nat → Nat} {b : Nat} : ∀ n, (∀ i, i < n → f i ≤ b) → sm f n ≤ n * b
  | 0, _ => by simp [sm]
  | n + 1, h => by
    have h1 := sm_le n (fun i hi => h i (by omega))
    have h2 := h n (by omega)
    rw [sm, Nat.succ_mul]
    omega
theorem sm_cong {f g : Nat → Nat} : ∀ n, (∀ i, i < n → f i = g i) → sm f n = sm g n
  | 0, _ => rfl
  | n + 1, h => by rw [sm, sm, sm_cong n (fun i hi => h i (by omega)), h n (by omega)]
theorem sm_tail (f : Nat → Nat) : ∀ n g, g < n → sm f (g + 1) ≤ sm f n := by
  intro n
  induction n with
  | zero => intro g h; omega
  | succ n ih =>
    intro g h
    by_cases e : g = n
    · subst e; exact Nat.le_refl _
    · have := ih g (by omega)
      rw [sm.eq_2 f n]
      omega
theorem Ho_warm_sp {h n : Nat} {P : Nat → Nat} {μ : Mem} (hn : n ≤ 6) (hs : rd μ 1 h 3 = nI n) (hP : ∀ g, g < n → rd μ 2 (g + 6 * h) 3 = nI (P g)) : Ho_warm h μ = some (nI (sm P n)) := by
  have key : ∀ k g F : Nat, g + k = n → k < F → Ho_warm_4L F h (nI (sm P g)) (nI g) μ = some (nI (sm P n)) := by
    intro k
    induction k with
    | zero =>
      intro g F hg hF
      obtain ⟨F, rfl⟩ : ∃ F', F = F' + 1 := ⟨F - 1, by omega⟩
      show Ho_warm_4 _ _ _ _ _ = _
      have hg' : g = n := by omega
      subst hg'
      rw [Ho_warm_4, hs, if_neg (nI_nlt (Nat.le_refl _) (by omega))]
    | succ k ih =>
      intro g F hg hF
      obtain ⟨F, rfl⟩ : ∃ F', F = F' + 1 := ⟨F - 1, by omega⟩
      show Ho_warm_4 _ _ _ _ _ = _
      rw [Ho_warm_4, hs, if_pos (nI_lt (by omega) (by omega)), chk_eq _ (inb_nI (by omega) (by omega)), ix_nI (by omega), hP g (by omega)]
      simp only [nm_eq]
      rw [nI_add, nI_1]
      exact ih (g + 1) F (by omega) (by omega)
  exact key n 0 1000 (by omega) (by omega)
