/-! ===== drawn ===== -/
def sd (s : Int32) : Nat → Int32
  | 0 => s
  | n + 1 => sd s n * 1103515245 + 12345
theorem ush_small (x y : Int32) (k : Nat) (hy : (y.toUInt32 &&& Int32.toUInt32 31).toNat = k) (hk : 0 < k ∧ k < 32) : ∃ n, n < 2 ^ (32 - k) ∧ ush x y = nI n := by
  refine ⟨(x.toUInt32 >>> (y.toUInt32 &&& Int32.toUInt32 31)).toNat, ?_, ?_⟩
  · rw [UInt32.toNat_shiftRight, hy, Nat.mod_eq_of_lt hk.2, Nat.shiftRight_eq_div_pow]
    have h := x.toUInt32.toNat_lt
    refine Nat.div_lt_of_lt_mul ?_
    rw [← Nat.pow_add, show k + (32 - k) = 32 by omega]
    exact h
  · unfold ush
    generalize x.toUInt32 >>> (y.toUInt32 &&& Int32.toUInt32 31) = u
    show u.toInt32 = (UInt32.ofNat u.toNat).toInt32
    rw [UInt32.ofNat_toNat]
def thg (s : Int32) (i : Nat) : Nat := ix (irm (ush (sd s (i + 1)) 9) 16)
theorem thg_sp (s : Int32) (i : Nat) : irm (ush (sd s (i + 1)) 9) 16 = nI (thg s i) ∧ thg s i ≤ 15 := by
  unfold thg
  obtain ⟨n, hn, e⟩ := ush_small (sd s (i + 1)) 9 9 (by decide) (by decide)
  have hn : n < 2 ^ 23 := hn
  rw [e, litI 16, irm_nI (by omega) (by omega) (by omega), ix_nI (by omega)]
  exact ⟨rfl, by omega⟩
theorem S_fillPockets_sp {hs : Nat → Nat} {gr : Nat → Nat → Nat} {tc : Nat} {μ : Mem} (h : HOK hs gr tc) (hA : HA 0 hs gr μ) : ∃ m', S_fillPockets μ = some m' ∧ Off [23, 24, 25] μ m' ∧ rd m' 23 0 0 = nI (hs 3) ∧ ∀ g, g < hs 3 → rd m' 24 0 g = nI (gr g 1) ∧ rd m' 25 0 g = nI (gr g 2) := by
  have hn := h.2.2.2.1
  have key : ∀ (k g F : Nat) (m : Mem), g + k = hs 3 → k < F → Off [23, 24, 25] μ m → rd m 23 0 0 = nI (hs 3) → (∀ a, a < g → rd m 24 0 a = nI (gr a 1) ∧ rd m 25 0 a = nI (gr a 2)) → ∃ m', S_fillPockets_16L F (nI g) m = some m' ∧ Off [23, 24, 25] μ m' ∧ rd m' 23 0 0 = nI (hs 3) ∧ ∀ g, g < hs 3 → rd m' 24 0 g = nI (gr g 1) ∧ rd m' 25 0 g = nI (gr g 2) := by
    intro k
    induction k with
    | zero =>
      intro g F m hg hF ho h23 hm
      obtain ⟨F, rfl⟩ : ∃ F', F = F' + 1 := ⟨F - 1, by omega⟩
      refine ⟨m, ?_, ho, h23, fun a ha => hm a (by omega)⟩
      show S_fillPockets_16 _ _ _ = _
      unfold S_fillPockets_16
      rw [ho.rd (by decide), hA.1 3 (by decide), if_neg (nI_nlt (by omega) (by omega))]
    | succ k ih =>
      intro g F m hg hF ho h23 hm
      obtain ⟨F, rfl⟩ : ∃ F', F = F' + 1 := ⟨F - 1, by omega⟩
      have hgn : g < hs 3 := by omega
      have hA' := hA.off ho (by decide) (by decide)
      obtain ⟨m', w1, w2⟩ := ih (g + 1) F (up (up m 24 0 g (nI (gr g 1))) 25 0 g (nI (gr g 2))) (by omega) (by omega) ((ho.wr' (by decide)).wr' (by decide)) h23 (fun a ha => by
        by_cases q : a = g
        · subst q
          exact ⟨by rw [rd_up_f (by decide), rd_up_s], rd_up_s _ _ _ _ _⟩
        · rw [rd_up_f (by decide), rd_up_j q, rd_up_j q, rd_up_f (by decide)]
          exact hm a (by omega))
      refine ⟨m', ?_, w2⟩
      show S_fillPockets_16 _ _ _ = _
      unfold S_fillPockets_16
      have a1 : rd m 2 g 1 = nI (gr g 1) := hA'.2 g 1 hgn (by decide)
      have a2 : rd m 2 g 2 = nI (gr g 2) := hA'.2 g 2 hgn (by decide)
      rw [hA'.1 3 (by decide), if_pos (nI_lt hgn (by omega)), chk_eq _ (inb_nI (by omega) (by omega)), chk_eq _ (inb_nI (by omega) (by omega)), nm_eq, chk_eq _ (inb_nI (by omega) (by omega)), chk_eq _ (inb_nI (by omega) (by omega)), nm_eq, nm_eq, nI_1, ix_nI (by omega), rd_up_f (show (2 : Nat) ≠ 24 by decide), a1, a2]
      exact w1
  unfold S_fillPockets
  rw [nm_eq, hA.1 3 (by decide)]
  exact key (hs 3) 0 1000 _ (by omega) (by omega) (Off.rf.wr' (by decide)) (rd_up_s _ _ _ _ _) (fun a ha => by omega)
theorem Po_draw_sp {n : Nat} {μ : Mem} (s : Int32) (hn : n ≤ 6) (h : rd μ 23 0 0 = nI n) : ∃ m', Po_draw s μ = some m' ∧ Off [25] μ m' ∧ ∀ g, g < n → rd m' 25 0 g = nI (thg s g) := by
  have key : ∀ (k g F : Nat) (m : Mem), g + k = n → k < F → Off [25] μ m → (∀ a, a < g → rd m 25 0 a = nI (thg s a)) → ∃ m', Po_draw_4L F (sd s g) (nI g) m = some m' ∧ Off [25] μ m' ∧ ∀ g, g < n → rd m' 25 0 g = nI (thg s g) := by
    intro k
    induction k with
    | zero =>
      intro g F m hg hF ho hm
      obtain ⟨F, rfl⟩ : ∃ F', F = F' + 1 := ⟨F - 1, by omega⟩
      refine ⟨m, ?_, ho, fun a ha => hm a (by omega)⟩
      show Po_draw_4 _ _ _ _ = _
      unfold Po_draw_4
      rw [ho.rd (by decide), h, if_neg (nI_nlt (by omega) (by omega))]
    | succ k ih =>
      intro g F m hg hF ho hm
      obtain ⟨F, rfl⟩ : ∃ F', F = F' + 1 := ⟨F - 1, by omega⟩
      obtain ⟨m', w1, w2⟩ := ih (g + 1) F (up m 25 0 g (nI (thg s g))) (by omega) (by omega) (ho.wr' (by decide)) (fun a ha => by
        by_cases q : a = g
        · subst q; exact rd_up_s _ _ _ _ _
        · rw [rd_up_j q]; exact hm a (by omega))
      refine ⟨m', ?_, w2⟩
      show Po_draw_4 _ _ _ _ = _
      unfold Po_draw_4
      rw [ho.rd (by decide), h, if_pos (nI_lt (by omega) (by omega)), nm_eq, chk_eq _ (inb_nI (by omega) (by omega)), nm_eq, nm_eq, nI_1, ix_nI (by omega), show sd s g * 1103515245 + 12345 = sd s (g + 1) from rfl, (thg_sp s g).1]
      exact w1
  exact key n 0 1000 μ (by omega) (by omega) Off.rf (fun a ha => by omega)
/-- things changed for the grooms below j -/
def wth (gr : Nat → Nat → Nat) (T : Nat → Nat) (j : Nat) : Nat → Nat → Nat := fun a b => if b = 2 ∧ a < j then T a else gr a b
theorem wth_n (gr : Nat → Nat → Nat) (T : Nat → Nat) {j a b : Nat} (h : ¬ (b = 2 ∧ a < j)) : wth gr T j a b = gr a b := if_neg h
theorem wth_u2 (gr : Nat → Nat → Nat) (T : Nat → Nat) (j : Nat) : u2 (wth gr T j) j 2 (T j) = wth gr T (j + 1) := by
  funext a b
  unfold u2 wth
  by_cases q : a = j ∧ b = 2
  · obtain ⟨rfl, rfl⟩ := q
    rw [if_pos ⟨rfl, rfl⟩, if_pos ⟨rfl, by omega⟩]
  · rw [if_neg q]
    by_cases w : b = 2 ∧ a < j
    · rw [if_pos w, if_pos ⟨w.1, by omega⟩]
    · rw [if_neg w, if_neg (by omega)]
theorem wth_0 (gr : Nat → Nat → Nat) (T : Nat → Nat) : wth gr T 0 = gr := by
  funext a b
  unfold wth
  rw [if_neg (by omega)]
theorem HOK.wthr {hs : Nat → Nat} {gr : Nat → Nat → Nat} {tc : Nat} (h : HOK hs gr tc) {T : Nat → Nat} (hT : ∀ a, T a ≤ 15) (j : Nat) : HOK hs (wth gr T j) tc := by
  refine ⟨h.1, h.2.1, h.2.2.1, h.2.2.2.1, fun a ha => ?_, fun a b ha hb e => ?_⟩
  · obtain ⟨b0, b1, b2, b3, b4⟩ := h.2.2.2.2.1 a ha
    rw [wth_n gr T (show ¬ (0 = 2 ∧ a < j) by omega), wth_n gr T (show ¬ (1 = 2 ∧ a < j) by omega), wth_n gr T (show ¬ (3 = 2 ∧ a < j) by omega), wth_n gr T (show ¬ (4 = 2 ∧ a < j) by omega)]
    refine ⟨b0, b1, ?_, b3, b4⟩
    show (if 2 = 2 ∧ a < j then T a else gr a 2) ≤ 15
    split
    · exact hT a
    · exact b2
  · rw [wth_n _ _ (by omega), wth_n _ _ (by omega)] at e
    exact h.2.2.2.2.2 a b ha hb e
theorem M_draws_sp {hs : Nat → Nat} {gr : Nat → Nat → Nat} {tc : Nat} {ν : Mem} (h : HOK hs gr tc) (hM : HM hs gr ν) (s : Int32) : ∃ m', M_draws s ν = some m' ∧ RM [5, 10] [] ν m' ∧ HM hs (wth gr (thg s) (hs 3)) m' ∧ ∀ g, g < hs 3 → rd m' 10 0 g = nI (gr g 2) := by
  have hn := h.2.2.2.1
  have key : ∀ (k g F : Nat) (m : Mem), g + k = hs 3 → k < F → RM [5, 10] [] ν m → HM hs (wth gr (thg s) g) m → (∀ a, a < g → rd m 10 0 a = nI (gr a 2)) → ∃ m', M_draws_4L F (sd s g) (nI g) m = some m' ∧ RM [5, 10] [] ν m' ∧ HM hs (wth gr (thg s) (hs 3)) m' ∧ ∀ g, g < hs 3 → rd m' 10 0 g = nI (gr g 2) := by
    intro k
    induction k with
    | zero =>
      intro g F m hg hF ho hM' hm
      obtain ⟨F, rfl⟩ : ∃ F', F = F' + 1 := ⟨F - 1, by omega⟩
      have : g = hs 3 := by omega
      subst this
      refine ⟨m, ?_, ho, hM', hm⟩
      show M_draws_4 _ _ _ _ = _
      unfold M_draws_4
      rw [hM'.2.2.2.1, if_neg (nI_nlt (by omega) (by omega))]
    | succ k ih =>
      intro g F m hg hF ho hM' hm
      obtain ⟨F, rfl⟩ : ∃ F', F = F' + 1 := ⟨F - 1, by omega⟩
      have hgn : g < hs 3 := by omega
      have e2 : rd m 5 0 (3 * g + 1) = nI (gr g 2) := by
        rw [(hM'.2.2.2.2 g hgn).2.2.1, wth_n _ _ (by omega)]
      have M10 : HM hs (wth gr (thg s) g) (up m 10 0 g (nI (gr g 2))) := hM'.cg (fun j _ => rd_up_f (by decide)) (fun f j hf => rd_up_f (by revert f; decide))
      obtain ⟨m', w1, w2⟩ := ih (g + 1) F (up (up m 10 0 g (nI (gr g 2))) 5 0 (3 * g + 1) (nI (thg s g))) (by omega) (by omega) ((ho.wr' (by decide)).wr' (by decide)) (by
        rw [← wth_u2]
        exact HM_u2 (k := 1) M10 (by decide)) (fun a ha => by
        rw [rd_up_f (by decide)]
        by_cases q : a = g
        · subst q; exact rd_up_s _ _ _ _ _
        · rw [rd_up_j q]; exact hm a (by omega))
      refine ⟨m', ?_, w2⟩
      show M_draws_4 _ _ _ _ = _
      unfold M_draws_4
      rw [hM'.2.2.2.1, if_pos (nI_lt hgn (by omega)), bnd_of (M_thingOf_sp (by omega) e2), chk_eq _ (inb_nI (by omega) (by omega)), nm_eq, nm_eq, litI 3, pk_mul, nI_1, chk_eq _ (inb_nI (by omega) (by omega)), nm_eq, nm_eq, nI_1, ix_nI (by omega), ix_nI (by omega), show sd s g * 1103515245 + 12345 = sd s (g + 1) from rfl, (thg_sp s g).1]
      exact w1
  exact key (hs 3) 0 1000 ν (by omega) (by omega) RM.rf (by rw [wth_0]; exact hM) (fun a ha => by omega)
theorem M_laysBack_sp {hs : Nat → Nat} {gr gr' : Nat → Nat → Nat} {tc : Nat} {ν : Mem} (h : HOK hs gr tc) (hM : HM hs gr' ν) (h10 : ∀ g, g < hs 3 → rd ν 10 0 g = nI (gr g 2)) (he : ∀ g b, b ≠ 2 → gr' g b = gr g b) : ∃ m', M_laysBack ν = some m' ∧ RM [5] [] ν m' ∧ HM hs gr m' := by
  have hn := h.2.2.2.1
  have key : ∀ (k g F : Nat) (m : Mem), g + k = hs 3 → k < F → RM [5] [] ν m → HM hs (wth gr' (fun a => gr a 2) g) m → ∃ m', M_laysBack_2L F (nI g) m = some m' ∧ RM [5] [] ν m' ∧ HM hs (wth gr' (fun a => gr a 2) (hs 3)) m' := by
    intro k
    induction k with
    | zero =>
      intro g F m hg hF ho hM'
      obtain ⟨F, rfl⟩ : ∃ F', F = F' + 1 := ⟨F - 1, by omega⟩
      have : g = hs 3 := by omega
      subst this
      refine ⟨m, ?_, ho, hM'⟩
      show M_laysBack_2 _ _ _ = _
      unfold M_laysBack_2
      rw [hM'.2.2.2.1, if_neg (nI_nlt (by omega) (by omega))]
    | succ k ih =>
      intro g F m hg hF ho hM'
      obtain ⟨F, rfl⟩ : ∃ F', F = F' + 1 := ⟨F - 1, by omega⟩
      have hgn : g < hs 3 := by omega
      obtain ⟨m', w1, w2⟩ := ih (g + 1) F (up m 5 0 (3 * g + 1) (nI (gr g 2))) (by omega) (by omega) (ho.wr' (by decide)) (by
        rw [← wth_u2]
        exact HM_u2 (k := 1) hM' (by decide))
      refine ⟨m', ?_, w2⟩
      show M_laysBack_2 _ _ _ = _
      unfold M_laysBack_2
      rw [hM'.2.2.2.1, if_pos (nI_lt hgn (by omega)), chk_eq _ (inb_nI (by omega) (by omega)), litI 3, pk_mul, nI_1, chk_eq _ (inb_nI (by omega) (by omega)), nm_eq, nm_eq, nI_1, ix_nI (by omega), ix_nI (by omega), ho 10 g (by decide) (fun q => absurd q (by decide)), h10 g hgn]
      exact w1
  obtain ⟨m', a1, a2, a3, a4, a5, a6, a7⟩ := key (hs 3) 0 1000 ν (by omega) (by omega) RM.rf (by rw [wth_0]; exact hM)
  refine ⟨m', a1, a2, a3, a4, a5, a6, fun g hg => ?_⟩
  have v : ∀ b, wth gr' (fun a => gr a 2) (hs 3) g b = gr g b := by
    intro b
    unfold wth
    by_cases q : b = 2
    · subst q; rw [if_pos ⟨rfl, hg⟩]
    · rw [if_neg (fun z => q z.1), he g b q]
  have := a7 g hg
  simp only [v] at this
  exact this
theorem drawn_agree (x1 x2 : Int32) : Agree (S_drawn x1 x2) (M_drawn x1 x2) := by
  intro μ ν I
  have I0 := I
  obtain ⟨hs, gr, tc, X, B, z, sk, sm', sv, IC⟩ := I
  have h : HOK hs gr tc := IC.1.1
  have ht : tc ≤ 6 := IC.1.2.1
  have hA := IC.1.2.2.1
  have hM := IC.1.2.2.2
  have hn := h.2.2.2.1
  rcases S_isDays_sp x2 (b := 40) (by omega) with ⟨-, e1, e2⟩ | ⟨d, hd, rfl, e1, e2⟩
  · refine ⟨-2, μ, ν, ?_, ?_, I0⟩
    · unfold S_drawn
      rw [show S_isDays x2 40 = 0 from e1, nm_eq, if_pos rfl]
    · unfold M_drawn
      rw [show M_in x2.toInt64 0 40 = 0 from e2, nm_eq, if_pos rfl]
  obtain ⟨m1, p1, p2, p3, p4⟩ := S_fillPockets_sp h hA
  obtain ⟨m2, q1, q2, q3⟩ := Po_draw_sp x1 hn p3
  have o2 : Off [23, 24, 25] μ m2 := p2.tr (q2.mono (by decide))
  have hT : ∀ a, thg x1 a ≤ 15 := fun a => (thg_sp x1 a).2
  have keyS : ∀ (k g F : Nat) (m : Mem), g + k = hs 3 → k < F → Off [8, 18, 19] m2 m → ∃ m', S_drawn_29L F (nI d) (nI (sm (fun g => lvP X hs gr g (gr g 4) (thg x1 (gr g 4)) d) g)) (nI g) m = some (nI (sm (fun g => lvP X hs gr g (gr g 4) (thg x1 (gr g 4)) d) (hs 3)), m') ∧ Off [8, 18, 19] m2 m' := by
    intro k
    induction k with
    | zero =>
      intro g F m hg hF ho
      obtain ⟨F, rfl⟩ : ∃ F', F = F' + 1 := ⟨F - 1, by omega⟩
      have : g = hs 3 := by omega
      subst this
      refine ⟨m, ?_, ho⟩
      show S_drawn_29 _ _ _ _ _ = _
      unfold S_drawn_29
      rw [ho.rd (by decide), o2.rd (by decide), hA.1 3 (by decide), if_neg (nI_nlt (by omega) (by omega))]
    | succ k ih =>
      intro g F m hg hF ho
      obtain ⟨F, rfl⟩ : ∃ F', F = F' + 1 := ⟨F - 1, by omega⟩
      have hgn : g < hs 3 := by omega
      have c5 := (h.2.2.2.2.1 g hgn).2.2.2.2
      have oo : Off [8, 18, 19, 23, 24, 25] μ m := (o2.mono (by decide)).tr (ho.mono (by decide))
      have hA' := hA.off oo (by decide) (by decide)
      have hX' : XA tc X m := IC.2.1.1.cg (oo.rd (by decide) _ _) (fun f i j hf _ => oo.rd (by revert f; decide) _ _)
      obtain ⟨m3, t1, t2, t3⟩ := S_see_sp (T := thg x1 (gr g 4)) h hA' hgn (show gr g 4 < 6 by omega)
      obtain ⟨u1, m4, u2, u3, u4, u5, -⟩ := lives_class h ht hA' hX' hgn (by omega) (hT _) hd t2 t3
      obtain ⟨m', w1, w2⟩ := ih (g + 1) F m4 (by omega) (by omega) (ho.tr u3)
      refine ⟨m', ?_, w2⟩
      show S_drawn_29 _ _ _ _ _ = _
      unfold S_drawn_29
      rw [hA'.1 3 (by decide), if_pos (nI_lt hgn (by omega)), chk_eq _ (inb_nI (by omega) (by omega)), ix_nI (by omega), nm_eq, show rd m 2 g 4 = nI (gr g 4) from hA'.2 g 4 hgn (by decide), chk_eq _ (inb_nI (by omega) (by omega)), ix_nI (by omega), ho.rd (by decide), q3 _ c5, bnd_of t1, bnd_of u1, chk_eq _ (show hs 2 < 6 by have := h.2.2.1; omega), bnd_of u2]
      simp only [nm_eq]
      rw [u4, nI_add, nI_1]
      exact w1
  obtain ⟨m', a1, a2⟩ := keyS (hs 3) 0 1000 m2 (by omega) (by omega) Off.rf
  obtain ⟨w1, b1, b2, b3, b4⟩ := M_draws_sp h hM x1
  have hX1 : XM tc X w1 := IC.2.1.2.cg (b2 0 3 (by decide) (fun _ => List.not_mem_nil)) (fun f j hf => b2 f j (by revert f; decide) (fun _ => List.not_mem_nil))
  obtain ⟨w2, c1, c2⟩ := M_run_sum (w := 0) (h.wthr hT (hs 3)) ht b3 hX1 hd (by omega)
  obtain ⟨w3, d1, d2, d3⟩ := M_laysBack_sp (gr := gr) h (b3.nx c2 (by decide)) (fun g hg => by rw [c2.rd (by decide)]; exact b4 g hg) (fun g b hb => wth_n _ _ (fun z => hb z.1))
  have er : sm (fun g => if 0 = 0 then lvP X hs (wth gr (thg x1) (hs 3)) g (wth gr (thg x1) (hs 3) g 4) (wth gr (thg x1) (hs 3) (wth gr (thg x1) (hs 3) g 4) 2) d else lvB X hs (wth gr (thg x1) (hs 3)) g (wth gr (thg x1) (hs 3) g 4) (wth gr (thg x1) (hs 3) (wth gr (thg x1) (hs 3) g 4) 2) d) (hs 3) = sm (fun g => lvP X hs gr g (gr g 4) (thg x1 (gr g 4)) d) (hs 3) := by
    refine sm_cong _ (fun g hg => ?_)
    have c5 := (h.2.2.2.2.1 g hg).2.2.2.2
    rw [if_pos rfl]
    have e4 : wth gr (thg x1) (hs 3) g 4 = gr g 4 := wth_n _ _ (by omega)
    have e2 : wth gr (thg x1) (hs 3) (gr g 4) 2 = thg x1 (gr g 4) := if_pos ⟨rfl, c5⟩
    have e3 : wth gr (thg x1) (hs 3) g 3 = gr g 3 := wth_n _ _ (by omega)
    rw [e4, e2]
    unfold lvP
    rw [e3, eG_cong (wth_n gr (thg x1) (show ¬ (0 = 2 ∧ g < hs 3) by omega)) (wth_n gr (thg x1) (show ¬ (1 = 2 ∧ g < hs 3) by omega))]
  rw [er] at c1
  have em : M_run (nI d) 0 w1 = some (nI (sm (fun g => lvP X hs gr g (gr g 4) (thg x1 (gr g 4)) d) (hs 3)), w2) := by
    unfold M_run
    rw [show M_in (0 : Int32).toInt64 10 29 = 0 from by rw [M_in_iff]; decide, nm_eq, if_pos rfl]
    unfold M_run_30
    rw [show M_in (nI d).toInt64 0 40 = 1 from e2, nm_eq, if_neg (by decide), show M_in (0 : Int32).toInt64 0 1 = 1 from by rw [M_in_iff]; decide, nm_eq, if_neg (by decide)]
    unfold M_run_60
    rw [if_pos rfl]
    exact c1
  have eS : S_drawn x1 (nI d) μ = some (nI (sm (fun g => lvP X hs gr g (gr g 4) (thg x1 (gr g 4)) d) (hs 3)), m') := by
    unfold S_drawn
    rw [show S_isDays (nI d) 40 = 1 from e1, nm_eq, if_neg (by decide), bnd_of p1, bnd_of q1]
    exact a1
  have eM : M_drawn x1 (nI d) ν = some (nI (sm (fun g => lvP X hs gr g (gr g 4) (thg x1 (gr g 4)) d) (hs 3)), w3) := by
    unfold M_drawn
    rw [show M_in (nI d).toInt64 0 40 = 1 from e2, nm_eq, if_neg (by decide), bnd_of b1, bnd2_of em, bnd_of d1]
  have oo : Off [8, 18, 19, 23, 24, 25] μ m' := (o2.mono (by decide)).tr (a2.mono (by decide))
  have rm : RM [4, 5, 6, 7, 8, 9, 10] ([4, 7, 8, 12] ++ SCM) ν w3 := ((b2.mono (by decide) (by decide)).tr ((c2.rm _).mono (fun _ q => q) (by decide))).tr (d2.mono (by decide) (by decide))
  exact ⟨_, m', w3, eS, eM, Inv.house (hs' := hs) (gr' := gr) IC h (hA.off oo (by decide) (by decide)) d3 (Nat.le_refl _) (fun _ _ => rfl) ((oo.same (by decide)).mono (by decide)) (fun j => oo.rd (by decide) _ _) (fun g j => oo.rd (by decide) _ _) rm⟩
