/-! ===== the tables of tempers, better ===== -/
theorem S_foresee_sp {hs : Nat → Nat} {gr : Nat → Nat → Nat} {tc : Nat} {X : Nat → List Int32 × List Int32 × List Int32} {μ : Mem} (h : HOK hs gr tc) (ht : tc ≤ 6) (hA : HA 0 hs gr μ) (hX : XA tc X μ) {d : Nat} (hd : d ≤ 40) : ∃ m', S_foreseeTempers (nI d) μ = some m' ∧ Off [8, 18, 19, 28] μ m' ∧ ∀ g c, g < hs 3 → c < hs 3 → rd m' 28 g c = nI (lvP X hs gr g c (gr c 2) d) := by
  have hn := h.2.2.2.1
  obtain ⟨t, et⟩ : ∃ t, t = fun g c => lvP X hs gr g c (gr c 2) d := ⟨_, rfl⟩
  have et' : ∀ g c, lvP X hs gr g c (gr c 2) d = t g c := fun g c => by rw [et]
  simp only [et']
  have inner : ∀ (F1 g : Nat), g < hs 3 → (∀ m, Off [8, 18, 19, 28] μ m → (∀ a c, a < g + 1 → c < hs 3 → rd m 28 a c = nI (t a c)) → ∃ m', S_foreseeTempers_2L F1 (nI d) (nI (g + 1)) m = some m' ∧ Off [8, 18, 19, 28] μ m' ∧ ∀ g c, g < hs 3 → c < hs 3 → rd m' 28 g c = nI (t g c)) → ∀ (k b F : Nat) (m : Mem), b + k = hs 3 → k < F → Off [8, 18, 19, 28] μ m → (∀ a c, c < hs 3 → (a < g ∨ (a = g ∧ c < b)) → rd m 28 a c = nI (t a c)) → ∃ m', S_foreseeTempers_15L (S_foreseeTempers_2L F1) F (nI d) (nI g) (nI b) m = some m' ∧ Off [8, 18, 19, 28] μ m' ∧ ∀ g c, g < hs 3 → c < hs 3 → rd m' 28 g c = nI (t g c) := by
    intro F1 g hg ho k
    induction k with
    | zero =>
      intro b F m hb hF o hm
      obtain ⟨F, rfl⟩ : ∃ F', F = F' + 1 := ⟨F - 1, by omega⟩
      obtain ⟨m', w1, w2⟩ := ho m o (fun a c ha hc => hm a c hc (by omega))
      refine ⟨m', ?_, w2⟩
      show S_foreseeTempers_15 _ _ _ _ _ _ = _
      unfold S_foreseeTempers_15
      rw [o.rd (by decide), hA.1 3 (by decide), if_neg (nI_nlt (by omega) (by omega)), nm_eq, nI_1]
      exact w1
    | succ k ih =>
      intro b F m hb hF o hm
      obtain ⟨F, rfl⟩ : ∃ F', F = F' + 1 := ⟨F - 1, by omega⟩
      have hbn : b < hs 3 := by omega
      have hA' := hA.off o (by decide) (by decide)
      have hX' : XA tc X m := hX.cg (o.rd (by decide) _ _) (fun f i j hf _ => o.rd (by revert f; decide) _ _)
      obtain ⟨m1, t1, t2, t3⟩ := S_seeIn_sp h hA' hg hbn
      obtain ⟨u1, m2, u2, u3, u4, -, -⟩ := lives_class h ht hA' hX' hg (by omega) (h.2.2.2.2.1 _ hbn).2.2.1 hd t2 t3
      rw [et'] at u4
      have o2 : Off [8, 18, 19, 28] μ m2 := o.tr (u3.mono (by decide))
      obtain ⟨m', w1, w2⟩ := ih (b + 1) F (up m2 28 g b (nI (t g b))) (by omega) (by omega) (o2.wr' (by decide)) (fun a c hc hac => by
        by_cases q : a = g ∧ c = b
        · obtain ⟨rfl, rfl⟩ := q
          exact rd_up_s _ _ _ _ _
        · rw [rd_up, if_neg (fun z => q ⟨z.2.1, z.2.2⟩), u3.rd (by decide)]
          exact hm a c hc (by omega))
      refine ⟨m', ?_, w2⟩
      show S_foreseeTempers_15 _ _ _ _ _ _ = _
      unfold S_foreseeTempers_15
      rw [hA'.1 3 (by decide), if_pos (nI_lt hbn (by omega)), bnd_of t1, bnd_of u1, chk_eq _ (show hs 2 < 6 by have := h.2.2.1; omega), bnd_of u2, chk_eq _ (inb_nI (by omega) (by omega)), chk_eq _ (inb_nI (by omega) (by omega)), nm_eq, nm_eq, ix_nI (by omega), ix_nI (by omega), u4, nI_1]
      exact w1
  have key : ∀ (k g F : Nat) (m : Mem), g + k = hs 3 → k < F → Off [8, 18, 19, 28] μ m → (∀ a c, a < g → c < hs 3 → rd m 28 a c = nI (t a c)) → ∃ m', S_foreseeTempers_2L F (nI d) (nI g) m = some m' ∧ Off [8, 18, 19, 28] μ m' ∧ ∀ g c, g < hs 3 → c < hs 3 → rd m' 28 g c = nI (t g c) := by
    intro k
    induction k with
    | zero =>
      intro g F m hg hF o hm
      obtain ⟨F, rfl⟩ : ∃ F', F = F' + 1 := ⟨F - 1, by omega⟩
      refine ⟨m, ?_, o, fun a c ha hc => hm a c (by omega) hc⟩
      show S_foreseeTempers_2 _ _ _ _ = _
      unfold S_foreseeTempers_2
      rw [o.rd (by decide), hA.1 3 (by decide), if_neg (nI_nlt (by omega) (by omega))]
    | succ k ih =>
      intro g F m hg hF o hm
      obtain ⟨F, rfl⟩ : ∃ F', F = F' + 1 := ⟨F - 1, by omega⟩
      obtain ⟨m', w1, w2⟩ := inner F g (by omega) (fun m' o' hm' => ih (g + 1) F m' (by omega) (by omega) o' hm') (hs 3) 0 1000 m (by omega) (by omega) o (fun a c hc hac => hm a c (by omega) hc)
      refine ⟨m', ?_, w2⟩
      show S_foreseeTempers_2 _ _ _ _ = _
      unfold S_foreseeTempers_2
      rw [o.rd (by decide), hA.1 3 (by decide), if_pos (nI_lt (by omega) (by omega))]
      exact w1
  exact key (hs 3) 0 1000 μ (by omega) (by omega) Off.rf (fun a c ha => by omega)
theorem M_tables_sp {hs : Nat → Nat} {gr : Nat → Nat → Nat} {tc : Nat} {X : Nat → List Int32 × List Int32 × List Int32} {ν : Mem} (h : HOK hs gr tc) (ht : tc ≤ 6) (hM : HM hs gr ν) (hX : XM tc X ν) {d : Nat} (hd : d ≤ 40) : ∃ m', M_tables (nI d) ν = some m' ∧ RM [7] SCM ν m' ∧ ∀ g c, g < hs 3 → c < hs 3 → rd m' 7 0 (6 * g + c) = nI (lvP X hs gr g c (gr c 2) d) := by
  have hn := h.2.2.2.1
  obtain ⟨t, et⟩ : ∃ t, t = fun g c => lvP X hs gr g c (gr c 2) d := ⟨_, rfl⟩
  have et' : ∀ g c, lvP X hs gr g c (gr c 2) d = t g c := fun g c => by rw [et]
  simp only [et']
  have HM' : ∀ m, RM [7] SCM ν m → HM hs gr m ∧ XM tc X m := fun m o => ⟨hM.cg (fun j hj => o 0 j (by decide) (fun _ => by revert j; decide)) (fun f j hf => o f j (by revert f; decide) (fun q => by subst q; exact absurd hf (by decide))), hX.cg (o 0 3 (by decide) (fun _ => by decide)) (fun f j hf => o f j (by revert f; decide) (fun q => by subst q; exact absurd hf (by decide)))⟩
  have inner : ∀ (F1 g : Nat), g < hs 3 → (∀ m, RM [7] SCM ν m → (∀ a c, a < g + 1 → c < hs 3 → rd m 7 0 (6 * a + c) = nI (t a c)) → ∃ m', M_tables_2L F1 (nI d) (nI (g + 1)) m = some m' ∧ RM [7] SCM ν m' ∧ ∀ g c, g < hs 3 → c < hs 3 → rd m' 7 0 (6 * g + c) = nI (t g c)) → ∀ (k b F : Nat) (m : Mem), b + k = hs 3 → k < F → RM [7] SCM ν m → (∀ a c, c < hs 3 → (a < g ∨ (a = g ∧ c < b)) → rd m 7 0 (6 * a + c) = nI (t a c)) → ∃ m', M_tables_12L (M_tables_2L F1) F (nI d) (nI g) (nI b) m = some m' ∧ RM [7] SCM ν m' ∧ ∀ g c, g < hs 3 → c < hs 3 → rd m' 7 0 (6 * g + c) = nI (t g c) := by
    intro F1 g hg ho k
    induction k with
    | zero =>
      intro b F m hb hF o hm
      obtain ⟨F, rfl⟩ : ∃ F', F = F' + 1 := ⟨F - 1, by omega⟩
      obtain ⟨m', w1, w2⟩ := ho m o (fun a c ha hc => hm a c hc (by omega))
      refine ⟨m', ?_, w2⟩
      show M_tables_12 _ _ _ _ _ _ = _
      unfold M_tables_12
      rw [(HM' m o).1.2.2.2.1, if_neg (nI_nlt (by omega) (by omega)), nm_eq, nI_1]
      exact w1
    | succ k ih =>
      intro b F m hb hF o hm
      obtain ⟨F, rfl⟩ : ∃ F', F = F' + 1 := ⟨F - 1, by omega⟩
      have hbn : b < hs 3 := by omega
      obtain ⟨m1, t1, t2, t3, -, -⟩ := lives_ref h ht (HM' m o).1 (HM' m o).2 hg hbn hd
      rw [et'] at t3
      obtain ⟨m', w1, w2⟩ := ih (b + 1) F (up m1 7 0 (6 * g + b) (nI (t g b))) (by omega) (by omega) ((o.tr ((t2.rm _).mono (fun _ q => q) (by decide))).wr' (by decide)) (fun a c hc hac => by
        by_cases q : a = g ∧ c = b
        · obtain ⟨rfl, rfl⟩ := q
          exact rd_up_s _ _ _ _ _
        · rw [rd_up_j (by omega), t2.rd (by decide)]
          exact hm a c hc (by omega))
      refine ⟨m', ?_, w2⟩
      show M_tables_12 _ _ _ _ _ _ = _
      unfold M_tables_12
      rw [(HM' m o).1.2.2.2.1, if_pos (nI_lt hbn (by omega)), bnd_of t1, litI 6, pk_mul, nI_add, chk_eq _ (inb_nI (by omega) (by omega)), nm_eq, nm_eq, ix_nI (by omega), t3, nI_1]
      exact w1
  have key : ∀ (k g F : Nat) (m : Mem), g + k = hs 3 → k < F → RM [7] SCM ν m → (∀ a c, a < g → c < hs 3 → rd m 7 0 (6 * a + c) = nI (t a c)) → ∃ m', M_tables_2L F (nI d) (nI g) m = some m' ∧ RM [7] SCM ν m' ∧ ∀ g c, g < hs 3 → c < hs 3 → rd m' 7 0 (6 * g + c) = nI (t g c) := by
    intro k
    induction k with
    | zero =>
      intro g F m hg hF o hm
      obtain ⟨F, rfl⟩ : ∃ F', F = F' + 1 := ⟨F - 1, by omega⟩
      refine ⟨m, ?_, o, fun a c ha hc => hm a c (by omega) hc⟩
      show M_tables_2 _ _ _ _ = _
      unfold M_tables_2
      rw [(HM' m o).1.2.2.2.1, if_neg (nI_nlt (by omega) (by omega))]
    | succ k ih =>
      intro g F m hg hF o hm
      obtain ⟨F, rfl⟩ : ∃ F', F = F' + 1 := ⟨F - 1, by omega⟩
      obtain ⟨m', w1, w2⟩ := inner F g (by omega) (fun m' o' hm' => ih (g + 1) F m' (by omega) (by omega) o' hm') (hs 3) 0 1000 m (by omega) (by omega) o (fun a c hc hac => hm a c (by omega) hc)
      refine ⟨m', ?_, w2⟩
      show M_tables_2 _ _ _ _ = _
      unfold M_tables_2
      rw [(HM' m o).1.2.2.2.1, if_pos (nI_lt (by omega) (by omega))]
      exact w1
  exact key (hs 3) 0 1000 ν (by omega) (by omega) RM.rf (fun a c ha => by omega)
/-! sums when two are swapped -/
def swp (w : Nat → Nat) (a b : Nat) : Nat → Nat := fun g => if g = b then w a else if g = a then w b else w g
theorem sm_take {f : Nat → Nat} {a : Nat} : ∀ n, a < n → sm f n = sm (fun g => if g = a then 0 else f g) n + f a
  | n + 1, h => by
    show sm f n + f n = sm (fun g => if g = a then 0 else f g) n + (if n = a then 0 else f n) + f a
    by_cases q : a = n
    · subst q
      rw [if_pos rfl, sm_cong a (f := f) (g := fun g => if g = a then 0 else f g) (fun i hi => (if_neg (by omega)).symm)]
      omega
    · rw [sm_take (f := f) (a := a) n (by omega), if_neg (show ¬ n = a by omega)]
      omega
theorem sm_two {f f' : Nat → Nat} {a b n : Nat} (ha : a < n) (hb : b < n) (hab : a ≠ b) (he : ∀ g, g ≠ a → g ≠ b → f' g = f g) : sm f' n + f a + f b = sm f n + f' a + f' b := by
  rw [sm_take n ha, sm_take n hb, sm_take (f := f) n ha, sm_take (f := fun g => if g = a then 0 else f g) n hb]
  have e : sm (fun g => if g = b then 0 else if g = a then 0 else f' g) n = sm (fun g => if g = b then 0 else if g = a then 0 else f g) n := sm_cong n (fun i _ => by
    by_cases q : i = b
    · rw [if_pos q, if_pos q]
    · by_cases q2 : i = a
      · rw [if_neg q, if_pos q2, if_neg q, if_pos q2]
      · rw [if_neg q, if_neg q2, if_neg q, if_neg q2, he i q2 q])
  rw [e, if_neg (Ne.symm hab), if_neg (Ne.symm hab)]
  omega
theorem M_warmNow_sp {n : Nat} {w : Nat → Nat} {t : Nat → Nat → Nat} {ν : Mem} (hn : n ≤ 6) (h12 : rd ν 0 0 12 = nI n) (hw : ∀ g, g < n → w g < n ∧ rd ν 6 0 g = nI (w g)) (hT : ∀ g c, g < n → c < n → rd ν 7 0 (6 * g + c) = nI (t g c)) : M_warmNow ν = some (nI (sm (fun g => t g (w g)) n)) := by
  have key : ∀ (k g F : Nat), g + k = n → k < F → M_warmNow_4L F (nI (sm (fun g => t g (w g)) g)) (nI g) ν = some (nI (sm (fun g => t g (w g)) n)) := by
    intro k
    induction k with
    | zero =>
      intro g F hg hF
      obtain ⟨F, rfl⟩ : ∃ F', F = F' + 1 := ⟨F - 1, by omega⟩
      have : g = n := by omega
      subst this
      show M_warmNow_4 _ _ _ _ = _
      unfold M_warmNow_4
      rw [h12, if_neg (nI_nlt (by omega) (by omega))]
    | succ k ih =>
      intro g F hg hF
      obtain ⟨F, rfl⟩ : ∃ F', F = F' + 1 := ⟨F - 1, by omega⟩
      obtain ⟨a1, a2⟩ := hw g (by omega)
      show M_warmNow_4 _ _ _ _ = _
      unfold M_warmNow_4
      rw [h12, if_pos (nI_lt (by omega) (by omega)), chk_eq _ (inb_nI (by omega) (by omega)), ix_nI (by omega), a2, litI 6, pk_mul, nI_add, chk_eq _ (inb_nI (by omega) (by omega)), ix_nI (by omega), hT g _ (by omega) a1, nm_eq, nm_eq, nI_add, nI_1]
      exact ih (g + 1) F (by omega) (by omega)
  exact key n 0 1000 (by omega) (by omega)
theorem M_swaps_sp {n a b : Nat} {w : Nat → Nat} {ν : Mem} (hn : n ≤ 6) (ha : a < n) (hb : b < n) (hab : a ≠ b) (hw : ∀ g, g < n → rd ν 6 0 g = nI (w g)) : ∃ ν', M_swaps (nI a) (nI b) ν = some ν' ∧ RM [6] [] ν ν' ∧ ∀ g, g < n → rd ν' 6 0 g = nI (swp w a b g) := by
  refine ⟨up (up ν 6 0 a (nI (w b))) 6 0 b (nI (w a)), ?_, (RM.rf.wr' (by decide)).wr' (by decide), fun g hg => ?_⟩
  · unfold M_swaps
    rw [chk_eq _ (inb_nI (by omega) (by omega)), nm_eq, chk_eq _ (inb_nI (by omega) (by omega)), chk_eq _ (inb_nI (by omega) (by omega)), nm_eq, chk_eq _ (inb_nI (by omega) (by omega)), nm_eq, ix_nI (by omega), ix_nI (by omega), hw a ha, hw b hb]
  · unfold swp
    by_cases q : g = b
    · subst q; rw [rd_up_s, if_pos rfl]
    · rw [rd_up_j q, if_neg q]
      by_cases q2 : g = a
      · subst q2; rw [rd_up_s, if_pos rfl]
      · rw [rd_up_j q2, if_neg q2, hw g hg]
theorem warm_eq (bs p q u v s : Nat) (h : s + u + v = bs + p + q) : nI bs + (((nI p + nI q) - nI u) - nI v) = nI s := by
  rw [i32_sub_sub, nI_add, nI_add, Int32.sub_eq_add_neg, ← Int32.add_assoc, ← Int32.sub_eq_add_neg, nI_add, nI_sub' (by omega)]
  congr 1
  omega
theorem better_agree (x1 x2 : Int32) : Agree (S_better x1 x2) (M_better x1 x2) := by
  intro μ ν I
  have I0 := I
  obtain ⟨hs, gr, tc, X, B, z, sk, sm', sv, IC⟩ := I
  have h : HOK hs gr tc := IC.1.1
  have ht : tc ≤ 6 := IC.1.2.1
  have hA := IC.1.2.2.1
  have hM := IC.1.2.2.2
  have hn := h.2.2.2.1
  rcases S_isDays_sp x1 (b := 40) (by omega) with ⟨-, e1, e2⟩ | ⟨d, hd, rfl, e1, e2⟩
  · refine ⟨-2, μ, ν, ?_, ?_, I0⟩
    · unfold S_better
      rw [show S_isDays x1 40 = 0 from e1, nm_eq, if_pos rfl]
    · unfold M_better
      rw [show M_in x1.toInt64 0 40 = 0 from e2, nm_eq, if_pos rfl]
  have e1 : S_isDays (nI d) 40 = 1 := e1
  have e2 : M_in (nI d).toInt64 0 40 = 1 := e2
  have h01 : M_in x2.toInt64 0 1 = if ¬ x2 < 0 ∧ ¬ nI 1 < x2 then 1 else 0 := M_in_rng (b := 1) (by omega)
  by_cases qw : x2 = 0 ∨ x2 = 1
  rotate_left
  · refine ⟨-2, μ, ν, ?_, ?_, I0⟩
    · unfold S_better
      rw [e1, nm_eq, if_neg (by decide), if_neg (fun q => qw (Or.inl q)), if_neg (fun q => qw (Or.inr q))]
    · unfold M_better
      rw [e2, nm_eq, if_neg (by decide), h01, if_neg, nm_eq, if_pos rfl]
      rintro ⟨w1, w2⟩
      obtain ⟨k, hk, rfl⟩ := nI_of w1
      have : ¬ 1 < k := fun z => w2 (nI_lt z hk)
      obtain rfl | rfl : k = 0 ∨ k = 1 := by omega
      · exact qw (Or.inl rfl)
      · exact qw (Or.inr rfl)
  have i01 : M_in x2.toInt64 0 1 = 1 := by
    rcases qw with q | q
    · rw [q, M_in_iff]; decide
    · rw [q, M_in_iff]; decide
  obtain ⟨m1, a1, a2, a3⟩ := S_foresee_sp h ht hA IC.2.1.1 hd
  obtain ⟨w1, b1, b2, b3⟩ := M_tables_sp h ht hM IC.2.1.2 hd
  obtain ⟨t, et⟩ : ∃ t, t = fun g c => lvP X hs gr g c (gr c 2) d := ⟨_, rfl⟩
  have et' : ∀ g c, lvP X hs gr g c (gr c 2) d = t g c := fun g c => by rw [et]
  simp only [et'] at a3 b3
  have hA1 := hA.off a2 (by decide) (by decide)
  have W4 : ∀ g, g < hs 3 → gr g 4 < hs 3 := fun g hg => (h.2.2.2.2.1 g hg).2.2.2.2
  have A4 : ∀ g, g < hs 3 → rd m1 2 g 4 = nI (gr g 4) := fun g hg => hA1.2 g 4 hg (by decide)
  obtain ⟨base, ebase⟩ : ∃ s, s = sm (fun g => t g (gr g 4)) (hs 3) := ⟨_, rfl⟩
  -- the class's base
  have baseS : ∀ (k g F : Nat), g + k = hs 3 → k < F → S_better_31L F x2 (nI (sm (fun g => t g (gr g 4)) g)) (nI g) m1 = S_better_82L 1000 x2 (nI base) (nI base) (-1) 0 m1 := by
    intro k
    induction k with
    | zero =>
      intro g F hg hF
      obtain ⟨F, rfl⟩ : ∃ F', F = F' + 1 := ⟨F - 1, by omega⟩
      have : g = hs 3 := by omega
      subst this
      show S_better_31 _ _ _ _ _ = _
      unfold S_better_31
      rw [hA1.1 3 (by decide), if_neg (nI_nlt (by omega) (by omega)), ebase]
    | succ k ih =>
      intro g F hg hF
      obtain ⟨F, rfl⟩ : ∃ F', F = F' + 1 := ⟨F - 1, by omega⟩
      have hgn : g < hs 3 := by omega
      have := W4 g hgn
      show S_better_31 _ _ _ _ _ = _
      unfold S_better_31
      rw [hA1.1 3 (by decide), if_pos (nI_lt hgn (by omega)), chk_eq _ (inb_nI (by omega) (by omega)), chk_eq _ (inb_nI (by omega) (by omega)), ix_nI (by omega), A4 g hgn, chk_eq _ (inb_nI (by omega) (by omega)), ix_nI (by omega), a3 g _ hgn this, nm_eq, nm_eq, nI_add, nI_1]
      exact ih (g + 1) F (by omega) (by omega)
  have OKB : ∀ w, (HM hs gr w ∧ (∀ g c, g < hs 3 → c < hs 3 → rd w 7 0 (6 * g + c) = nI (t g c)) ∧ RM [4, 5, 6, 7, 8, 9, 10] ([4, 7, 8, 12] ++ SCM) ν w) → Inv m1 w := fun w ok => Inv.house (hs' := hs) (gr' := gr) IC h hA1 ok.1 (Nat.le_refl _) (fun _ _ => rfl) ((a2.same (by decide)).mono (by decide)) (fun j => a2.rd (by decide) _ _) (fun g j => a2.rd (by decide) _ _) ok.2.2
  have inner : ∀ (F1 F2 a : Nat), a < hs 3 → (∀ best pair w, (HM hs gr w ∧ (∀ g c, g < hs 3 → c < hs 3 → rd w 7 0 (6 * g + c) = nI (t g c)) ∧ RM [4, 5, 6, 7, 8, 9, 10] ([4, 7, 8, 12] ++ SCM) ν w) → ∃ r w', S_better_82L F1 x2 (nI base) best pair (nI (a + 1)) m1 = some (r, m1) ∧ M_better_41L F2 x2 pair best (nI (a + 1)) w = some (r, w') ∧ Inv m1 w') → ∀ (k b F : Nat) (best pair : Int32) (w : Mem), a < b → b + k = hs 3 → k < F → (HM hs gr w ∧ (∀ g c, g < hs 3 → c < hs 3 → rd w 7 0 (6 * g + c) = nI (t g c)) ∧ RM [4, 5, 6, 7, 8, 9, 10] ([4, 7, 8, 12] ++ SCM) ν w) → ∃ r w', S_better_100L (S_better_82L F1) F x2 (nI base) best pair (nI a) (nI b) m1 = some (r, m1) ∧ M_better_56L (M_better_41L F2) F x2 pair best (nI a) (nI b) w = some (r, w') ∧ Inv m1 w' := by
    intro F1 F2 a ha ho k
    induction k with
    | zero =>
      intro b F best pair w hab hb hF ok
      obtain ⟨F, rfl⟩ : ∃ F', F = F' + 1 := ⟨F - 1, by omega⟩
      obtain ⟨r, w', o1, o2, o3⟩ := ho best pair w ok
      refine ⟨r, w', ?_, ?_, o3⟩
      · show S_better_100 _ _ _ _ _ _ _ _ _ = _
        unfold S_better_100
        rw [hA1.1 3 (by decide), if_neg (nI_nlt (by omega) (by omega)), nm_eq, nI_1]
        exact o1
      · show M_better_56 _ _ _ _ _ _ _ _ = _
        unfold M_better_56
        rw [ok.1.2.2.2.1, if_neg (nI_nlt (by omega) (by omega)), nm_eq, nI_1]
        exact o2
    | succ k ih =>
      intro b F best pair w hab hb hF ok
      obtain ⟨F, rfl⟩ : ∃ F', F = F' + 1 := ⟨F - 1, by omega⟩
      have hbn : b < hs 3 := by omega
      have wa := W4 a ha
      have wb := W4 b hbn
      -- the class's reckoning
      have eW : S_warmerBy (nI a) (nI b) m1 = some ((((nI (t a (gr b 4)) + nI (t b (gr a 4))) - nI (t a (gr a 4))) - nI (t b (gr b 4)))) := by
        have Aa : rd m1 2 (ix (nI a)) 4 = nI (gr a 4) := by rw [ix_nI (by omega)]; exact A4 a ha
        have Ab : rd m1 2 (ix (nI b)) 4 = nI (gr b 4) := by rw [ix_nI (by omega)]; exact A4 b hbn
        unfold S_warmerBy
        rw [chk_eq _ (inb_nI (by omega) (by omega)), nm_eq, chk_eq _ (inb_nI (by omega) (by omega)), nm_eq, Aa, Ab, chk_eq _ (inb_nI (by omega) (by omega)), chk_eq _ (inb_nI (by omega) (by omega)), chk_eq _ (inb_nI (by omega) (by omega)), chk_eq _ (inb_nI (by omega) (by omega)), chk_eq _ (inb_nI (by omega) (by omega)), chk_eq _ (inb_nI (by omega) (by omega)), chk_eq _ (inb_nI (by omega) (by omega)), chk_eq _ (inb_nI (by omega) (by omega)), ix_nI (show a < 2 ^ 31 by omega), ix_nI (show b < 2 ^ 31 by omega), ix_nI (show gr a 4 < 2 ^ 31 by omega), ix_nI (show gr b 4 < 2 ^ 31 by omega), a3 a _ ha wb, a3 b _ hbn wa, a3 a _ ha wa, a3 b _ hbn wb]
      -- the reference's
      have hw0 : ∀ g, g < hs 3 → rd w 6 0 g = nI (gr g 4) := fun g hg => (ok.1.2.2.2.2 g hg).2.2.2.2
      obtain ⟨w2, s1, s2, s3⟩ := M_swaps_sp (w := fun g => gr g 4) hn ha hbn (by omega) hw0
      have s0 : ∀ f j, f ≠ 6 → rd w2 f 0 j = rd w f 0 j := fun f j hf => s2 f j (by simpa using hf) (fun _ => List.not_mem_nil)
      have hsw : ∀ g, g < hs 3 → swp (fun g => gr g 4) a b g < hs 3 := by
        intro g hg
        unfold swp
        split
        · exact wa
        · split
          · exact wb
          · exact W4 g hg
      have eN := M_warmNow_sp (ν := w2) (w := swp (fun g => gr g 4) a b) (t := t) hn (by rw [s0 0 12 (by decide)]; exact ok.1.2.2.2.1) (fun g hg => ⟨hsw g hg, s3 g hg⟩) (fun g c hg hc => by rw [s0 7 _ (by decide)]; exact ok.2.1 g c hg hc)
      obtain ⟨w3, v1, v2, v3⟩ := M_swaps_sp (w := swp (fun g => gr g 4) a b) hn ha hbn (by omega) s3
      have v0 : ∀ f j, f ≠ 6 → rd w3 f 0 j = rd w f 0 j := fun f j hf => (v2 f j (by simpa using hf) (fun _ => List.not_mem_nil)).trans (s0 f j hf)
      have v6 : ∀ g, g < hs 3 → rd w3 6 0 g = nI (gr g 4) := by
        intro g hg
        rw [v3 g hg]
        unfold swp
        by_cases q : g = b
        · subst q; rw [if_pos rfl, if_neg (show ¬ a = g by omega), if_pos rfl]
        · rw [if_neg q]
          by_cases q2 : g = a
          · subst q2; rw [if_pos rfl, if_pos rfl]
          · rw [if_neg q2, if_neg q, if_neg q2]
      have ok3 : HM hs gr w3 ∧ (∀ g c, g < hs 3 → c < hs 3 → rd w3 7 0 (6 * g + c) = nI (t g c)) ∧ RM [4, 5, 6, 7, 8, 9, 10] ([4, 7, 8, 12] ++ SCM) ν w3 := by
        obtain ⟨⟨c1, c2, c3, c4, c5⟩, c6, c7⟩ := ok
        refine ⟨⟨by rw [v0 0 7 (by decide)]; exact c1, by rw [v0 0 8 (by decide)]; exact c2, by rw [v0 0 4 (by decide)]; exact c3, by rw [v0 0 12 (by decide)]; exact c4, fun g hg => ?_⟩, fun g c hg hc => by rw [v0 7 _ (by decide)]; exact c6 g c hg hc, (c7.tr (s2.mono (by decide) (by decide))).tr (v2.mono (by decide) (by decide))⟩
        obtain ⟨d1, d2, d3, d4, d5⟩ := c5 g hg
        rw [v0 4 _ (by decide), v0 5 _ (by decide), v0 5 _ (by decide), v0 5 _ (by decide)]
        exact ⟨d1, d2, d3, d4, v6 g hg⟩
      obtain ⟨nb, enb⟩ : ∃ s, s = sm (fun g => t g (swp (fun g => gr g 4) a b g)) (hs 3) := ⟨_, rfl⟩
      have ev : nI base + ((((nI (t a (gr b 4)) + nI (t b (gr a 4))) - nI (t a (gr a 4))) - nI (t b (gr b 4)))) = nI nb := by
        apply warm_eq
        have := sm_two (f := fun g => t g (gr g 4)) (f' := fun g => t g (swp (fun g => gr g 4) a b g)) ha hbn (by omega) (fun g q1 q2 => by simp only [swp, if_neg q1, if_neg q2])
        simp only [swp, if_neg (show ¬ a = b by omega), if_true] at this
        rw [ebase, enb]
        simp only [swp]
        exact this
      have eS : S_better_100L (S_better_82L F1) (F + 1) x2 (nI base) best pair (nI a) (nI b) m1 = if nI nb < best then S_better_100L (S_better_82L F1) F x2 (nI base) (nI nb) (10 * nI a + nI b) (nI a) (nI (b + 1)) m1 else S_better_100L (S_better_82L F1) F x2 (nI base) best pair (nI a) (nI (b + 1)) m1 := by
        show S_better_100 _ _ _ _ _ _ _ _ _ = _
        unfold S_better_100 S_better_145
        rw [hA1.1 3 (by decide), if_pos (nI_lt hbn (by omega)), bnd_of eW]
        simp only [nm_eq]
        rw [ev, nI_1]
      have eM : M_better_56L (M_better_41L F2) (F + 1) x2 pair best (nI a) (nI b) w = if nI nb < best then M_better_56L (M_better_41L F2) F x2 (10 * nI a + nI b) (nI nb) (nI a) (nI (b + 1)) w3 else M_better_56L (M_better_41L F2) F x2 pair best (nI a) (nI (b + 1)) w3 := by
        show M_better_56 _ _ _ _ _ _ _ _ = _
        unfold M_better_56 M_better_107
        rw [ok.1.2.2.2.1, if_pos (nI_lt hbn (by omega)), bnd_of s1, bnd_of eN, bnd_of v1, ← enb]
        simp only [nm_eq]
        rw [nI_1]
      rw [eS, eM]
      by_cases q : nI nb < best
      · rw [if_pos q, if_pos q]
        exact ih (b + 1) F _ _ w3 (by omega) (by omega) (by omega) ok3
      · rw [if_neg q, if_neg q]
        exact ih (b + 1) F _ _ w3 (by omega) (by omega) (by omega) ok3
  have key : ∀ (k a F : Nat) (best pair : Int32) (w : Mem), a + k = hs 3 → k < F → (HM hs gr w ∧ (∀ g c, g < hs 3 → c < hs 3 → rd w 7 0 (6 * g + c) = nI (t g c)) ∧ RM [4, 5, 6, 7, 8, 9, 10] ([4, 7, 8, 12] ++ SCM) ν w) → ∃ r w', S_better_82L F x2 (nI base) best pair (nI a) m1 = some (r, m1) ∧ M_better_41L F x2 pair best (nI a) w = some (r, w') ∧ Inv m1 w' := by
    intro k
    induction k with
    | zero =>
      intro a F best pair w ha hF ok
      obtain ⟨F, rfl⟩ : ∃ F', F = F' + 1 := ⟨F - 1, by omega⟩
      have eS : S_better_82L (F + 1) x2 (nI base) best pair (nI a) m1 = if x2 = 0 then some (pair, m1) else some (best, m1) := by
        show S_better_82 _ _ _ _ _ _ _ = _
        unfold S_better_82
        rw [hA1.1 3 (by decide), if_neg (nI_nlt (by omega) (by omega))]
      have eM : M_better_41L (F + 1) x2 pair best (nI a) w = if x2 = 0 then some (pair, w) else some (best, w) := by
        show M_better_41 _ _ _ _ _ _ = _
        unfold M_better_41
        rw [ok.1.2.2.2.1, if_neg (nI_nlt (by omega) (by omega))]
      rw [eS, eM]
      by_cases q : x2 = 0
      · rw [if_pos q, if_pos q]; exact ⟨pair, w, rfl, rfl, OKB w ok⟩
      · rw [if_neg q, if_neg q]; exact ⟨best, w, rfl, rfl, OKB w ok⟩
    | succ k ih =>
      intro a F best pair w ha hF ok
      obtain ⟨F, rfl⟩ : ∃ F', F = F' + 1 := ⟨F - 1, by omega⟩
      obtain ⟨r, w', c1, c2, c3⟩ := inner F F a (by omega) (fun best pair w ok => ih (a + 1) F best pair w (by omega) (by omega) ok) (hs 3 - (a + 1)) (a + 1) 1000 best pair w (by omega) (by omega) (by omega) ok
      refine ⟨r, w', ?_, ?_, c3⟩
      · show S_better_82 _ _ _ _ _ _ _ = _
        unfold S_better_82
        rw [hA1.1 3 (by decide), if_pos (nI_lt (by omega) (by omega)), nm_eq, nI_1]
        exact c1
      · show M_better_41 _ _ _ _ _ _ = _
        unfold M_better_41
        rw [ok.1.2.2.2.1, if_pos (nI_lt (by omega) (by omega)), nm_eq, nI_1]
        exact c2
  have hM1 : HM hs gr w1 := hM.cg (fun j hj => b2 0 j (by decide) (fun _ => by revert j; decide)) (fun f j hf => b2 f j (by revert f; decide) (fun q => by subst q; exact absurd hf (by decide)))
  have ok1 : HM hs gr w1 ∧ (∀ g c, g < hs 3 → c < hs 3 → rd w1 7 0 (6 * g + c) = nI (t g c)) ∧ RM [4, 5, 6, 7, 8, 9, 10] ([4, 7, 8, 12] ++ SCM) ν w1 := ⟨hM1, b3, b2.mono (by decide) (by decide)⟩
  obtain ⟨r, w', c1, c2, c3⟩ := key (hs 3) 0 1000 (nI base) (-1) w1 (by omega) (by omega) ok1
  have eN := M_warmNow_sp (ν := w1) (w := fun g => gr g 4) (t := t) hn hM1.2.2.2.1 (fun g hg => ⟨W4 g hg, (hM1.2.2.2.2 g hg).2.2.2.2⟩) b3
  refine ⟨r, m1, w', ?_, ?_, c3⟩
  · have e21 : S_better_21 (nI d) x2 μ = some (r, m1) := by
      unfold S_better_21
      rw [bnd_of a1]
      exact (baseS (hs 3) 0 1000 (by omega) (by omega)).trans c1
    unfold S_better
    rw [e1, nm_eq, if_neg (by decide), e21]
    rcases qw with q | q
    · rw [if_pos q]
    · rw [if_neg (by rw [q]; decide), if_pos q]
  · unfold M_better
    rw [e2, nm_eq, if_neg (by decide), i01, nm_eq, if_neg (by decide), bnd_of b1, bnd_of eN, ← ebase]
    exact c2
