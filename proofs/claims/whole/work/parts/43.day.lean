/-! ===== day, run ===== -/
def lvP (X : Nat → List Int32 × List Int32 × List Int32) (hs : Nat → Nat) (gr : Nat → Nat → Nat) (g c T d : Nat) : Nat := dayP (X (hs 2)) (eG gr g c T) (gr g 3) (hs 0) d
def lvB (X : Nat → List Int32 × List Int32 × List Int32) (hs : Nat → Nat) (gr : Nat → Nat → Nat) (g c T d : Nat) : Nat := dayB (X (hs 2)) (eG gr g c T) (gr g 3) (hs 0) (hs 1) d
def lvF (X : Nat → List Int32 × List Int32 × List Int32) (hs : Nat → Nat) (gr : Nat → Nat → Nat) (g c T d : Nat) : Int32 := dayF (X (hs 2)) (eG gr g c T) (gr g 3) (hs 0) (hs 1) d
theorem eG_cong {gr gr' : Nat → Nat → Nat} {g c T : Nat} (h0 : gr' g 0 = gr g 0) (h1 : gr' g 1 = gr g 1) : eG gr' g c T = eG gr g c T := by
  funext i
  match i with
  | 0 => exact h0
  | 1 => exact h1
  | 2 => rfl
  | 3 => rfl
  | 4 => rfl
  | 5 => rfl
  | 6 => rfl
  | n + 7 => rfl
theorem lives_class {hs : Nat → Nat} {gr : Nat → Nat → Nat} {tc : Nat} {X : Nat → List Int32 × List Int32 × List Int32} {μ m1 : Mem} {g c T d : Nat} (h : HOK hs gr tc) (ht : tc ≤ 6) (hA : HA 0 hs gr μ) (hX : XA tc X μ) (hg : g < hs 3) (hc : c < 6) (hT : T ≤ 15) (hd : d ≤ 40) (hm : MAN (eG gr g c T) (gr g 3) (hs 0) m1) (ho : Off [18] μ m1) : S_rule m1 = some (hs 2) ∧ ∃ m2, Ma_lives (hs 2) (rd m1 1 0 1) (nI d) m1 = some m2 ∧ Off [8, 18, 19] μ m2 ∧ rd m2 18 0 3 = nI (lvP X hs gr g c T d) ∧ rd m2 18 0 7 = nI (lvB X hs gr g c T d) ∧ rd m2 18 0 8 = lvF X hs gr g c T d := by
  have hA1 := hA.off ho (by decide) (by decide)
  have hl := h.2.1
  have hd0 := h.1
  refine ⟨S_rule_sp h ht hA1, ?_⟩
  rw [hA1.1 1 (by decide)]
  obtain ⟨m2, a1, a2, a3⟩ := Ma_lives_sp (l := hs 1) ((hX.2 (hs 2) h.2.2.1).off ho (by decide) (by decide)) hm (eG_EB h hg hc hT) (h.2.2.2.2.1 g hg).2.2.2.1 (by omega) (by omega) hd
  exact ⟨m2, a1, (ho.mono (by decide)).tr a2, a3⟩
theorem lives_ref {hs : Nat → Nat} {gr : Nat → Nat → Nat} {tc : Nat} {X : Nat → List Int32 × List Int32 × List Int32} {ν : Mem} {g c d : Nat} (h : HOK hs gr tc) (ht : tc ≤ 6) (hM : HM hs gr ν) (hX : XM tc X ν) (hg : g < hs 3) (hc : c < hs 3) (hd : d ≤ 40) : ∃ ν', M_lives (nI g) (nI c) (nI d) ν = some ν' ∧ NX JV ν ν' ∧ rd ν' 0 0 28 = nI (lvP X hs gr g c (gr c 2) d) ∧ rd ν' 0 0 29 = nI (lvB X hs gr g c (gr c 2) d) ∧ rd ν' 0 0 30 = lvF X hs gr g c (gr c 2) d := by
  have hl := h.2.1
  have hd0 := h.1
  have hn := h.2.2.2.1
  exact M_lives_sp (hX.2 (hs 2) h.2.2.1) (hM.mro h ht hg hc) (eG_EB h hg (by omega) (h.2.2.2.2.1 c hc).2.2.1) (h.2.2.2.2.1 g hg).2.2.2.1 (by omega) (by omega) hd hM.2.1 (hM.2.2.2.2 g hg).2.2.2.1
theorem lvP_le {X : Nat → List Int32 × List Int32 × List Int32} {hs : Nat → Nat} {gr : Nat → Nat → Nat} {tc : Nat} (h : HOK hs gr tc) {g c T d : Nat} (hg : g < hs 3) : lvP X hs gr g c T d ≤ 99 := dayP_le _ _ _ (h.2.2.2.2.1 g hg).2.2.2.1 _
/-- tempers changed for the grooms below j -/
def tmp (gr : Nat → Nat → Nat) (P : Nat → Nat) (j : Nat) : Nat → Nat → Nat := fun a b => if b = 3 ∧ a < j then P a else gr a b
theorem tmp_n (gr : Nat → Nat → Nat) (P : Nat → Nat) {j a b : Nat} (h : ¬ (b = 3 ∧ a < j)) : tmp gr P j a b = gr a b := if_neg h
theorem HOK.tmpr {hs : Nat → Nat} {gr : Nat → Nat → Nat} {tc : Nat} (h : HOK hs gr tc) {P : Nat → Nat} (hP : ∀ a, a < hs 3 → P a ≤ 99) (j : Nat) : HOK hs (tmp gr P j) tc := by
  refine ⟨h.1, h.2.1, h.2.2.1, h.2.2.2.1, fun a ha => ?_, fun a b ha hb e => ?_⟩
  · obtain ⟨b0, b1, b2, b3, b4⟩ := h.2.2.2.2.1 a ha
    rw [tmp_n gr P (show ¬ (0 = 3 ∧ a < j) by omega), tmp_n gr P (show ¬ (1 = 3 ∧ a < j) by omega), tmp_n gr P (show ¬ (2 = 3 ∧ a < j) by omega), tmp_n gr P (show ¬ (4 = 3 ∧ a < j) by omega)]
    refine ⟨b0, b1, b2, ?_, b4⟩
    show (if 3 = 3 ∧ a < j then P a else gr a 3) ≤ 99
    split
    · exact hP a ha
    · exact b3
  · rw [tmp_n _ _ (by omega), tmp_n _ _ (by omega)] at e
    exact h.2.2.2.2.2 a b ha hb e
theorem tmp_u2 (gr : Nat → Nat → Nat) (P : Nat → Nat) (j : Nat) : u2 (tmp gr P j) j 3 (P j) = tmp gr P (j + 1) := by
  funext a b
  unfold u2 tmp
  by_cases q : a = j ∧ b = 3
  · obtain ⟨rfl, rfl⟩ := q
    rw [if_pos ⟨rfl, rfl⟩, if_pos ⟨rfl, by omega⟩]
  · rw [if_neg q]
    by_cases w : b = 3 ∧ a < j
    · rw [if_pos w, if_pos ⟨w.1, by omega⟩]
    · rw [if_neg w, if_neg (by omega)]
theorem tmp_0 (gr : Nat → Nat → Nat) (P : Nat → Nat) : tmp gr P 0 = gr := by
  funext a b
  unfold tmp
  rw [if_neg (by omega)]
theorem S_day_loop {hs : Nat → Nat} {gr : Nat → Nat → Nat} {tc : Nat} {X : Nat → List Int32 × List Int32 × List Int32} {μ : Mem} (h : HOK hs gr tc) (ht : tc ≤ 6) (hA : HA 0 hs gr μ) (hX : XA tc X μ) : ∃ m', S_day_20L 1000 0 0 μ = some (nI (sm (fun g => lvB X hs gr g (gr g 4) (gr (gr g 4) 2) 1) (hs 3)), m') ∧ HA 0 (u1 hs 0 (hs 0 + 1)) (tmp gr (fun g => lvP X hs gr g (gr g 4) (gr (gr g 4) 2) 1) (hs 3)) m' ∧ RA (1 :: 2 :: SCA) μ m' ∧ (∀ j, rd m' 1 1 j = rd μ 1 1 j) ∧ ∀ g j, rd m' 2 (g + 6 * 1) j = rd μ 2 (g + 6 * 1) j := by
  have hn := h.2.2.2.1
  have hd0 := h.1
  have hl := h.2.1
  obtain ⟨P, eP⟩ : ∃ P, P = fun g => lvP X hs gr g (gr g 4) (gr (gr g 4) 2) 1 := ⟨_, rfl⟩
  obtain ⟨Bo, eB⟩ : ∃ B, B = fun g => lvB X hs gr g (gr g 4) (gr (gr g 4) 2) 1 := ⟨_, rfl⟩
  rw [← eP, ← eB]
  have hP : ∀ a, a < hs 3 → P a ≤ 99 := fun a ha => by rw [eP]; exact lvP_le h ha
  have key : ∀ (k g F : Nat) (m : Mem), g + k = hs 3 → k < F → HA 0 hs (tmp gr P g) m → XA tc X m → RA (2 :: SCA) μ m → (∀ g j, rd m 2 (g + 6 * 1) j = rd μ 2 (g + 6 * 1) j) → ∃ m', S_day_20L F (nI (sm Bo g)) (nI g) m = some (nI (sm Bo (hs 3)), m') ∧ HA 0 (u1 hs 0 (hs 0 + 1)) (tmp gr P (hs 3)) m' ∧ RA (1 :: 2 :: SCA) μ m' ∧ (∀ j, rd m' 1 1 j = rd μ 1 1 j) ∧ ∀ g j, rd m' 2 (g + 6 * 1) j = rd μ 2 (g + 6 * 1) j := by
    intro k
    induction k with
    | zero =>
      intro g F m hg hF r1 rx r2 r3
      obtain ⟨F, rfl⟩ : ∃ F', F = F' + 1 := ⟨F - 1, by omega⟩
      have : g = hs 3 := by omega
      subst this
      refine ⟨up m 1 0 0 (nI (hs 0 + 1)), ?_, HA_u1 r1 (by decide), (r2.mono (by decide)).wr' (by decide), fun j => by rw [rd_up_i (by decide)]; exact r2 1 1 j (by decide), fun g j => by rw [rd_up_f (by decide)]; exact r3 g j⟩
      show S_day_20 _ _ _ _ = _
      unfold S_day_20
      rw [r1.1 3 (by decide), if_neg (nI_nlt (by omega) (by omega)), nm_eq, r1.1 0 (by decide), nI_1]
    | succ k ih =>
      intro g F m hg hF r1 rx r2 r3
      obtain ⟨F, rfl⟩ : ∃ F', F = F' + 1 := ⟨F - 1, by omega⟩
      have hgn : g < hs 3 := by omega
      have hj := h.tmpr hP g
      have c5 := (h.2.2.2.2.1 g hgn).2.2.2.2
      obtain ⟨m1, t1, t2, t3⟩ := S_seeAsIs_sp hj r1 hgn
      rw [tmp_n _ _ (show ¬ (4 = 3 ∧ g < g) by omega), tmp_n _ _ (show ¬ (2 = 3 ∧ gr g 4 < g) by omega), tmp_n _ _ (show ¬ (3 = 3 ∧ g < g) by omega), eG_cong (tmp_n _ _ (show ¬ (0 = 3 ∧ g < g) by omega)) (tmp_n _ _ (show ¬ (1 = 3 ∧ g < g) by omega))] at t2
      have hA1 := r1.off t3 (by decide) (by decide)
      obtain ⟨m2, u1, u2, u3, u4⟩ := Ma_day_sp (l := hs 1) ((rx.2 (hs 2) h.2.2.1).off t3 (by decide) (by decide)) t2 (eG_EB h hgn (by omega) (h.2.2.2.2.1 _ c5).2.2.1) (h.2.2.2.2.1 g hgn).2.2.2.1 (by omega) (by omega)
      have o2 : Off [8, 18, 19] m m2 := (t3.mono (by decide)).tr u3
      have e3 : rd m2 18 0 3 = nI (P g) := by rw [u2.2.2.2.1, eP]; rfl
      have eb : Bo g = if hotV (X (hs 2)) (eG gr g (gr g 4) (gr (gr g 4) 2)) (gr g 3) (hs 0) < hs 1 then 0 else 1 := by
        rw [eB]
        show 0 + _ = _
        rw [Nat.zero_add]; rfl
      obtain ⟨m', w1, w2⟩ := ih (g + 1) F (up m2 2 g 3 (nI (P g))) (by omega) (by omega) (by
        rw [← tmp_u2]
        exact HA_u2 (r1.off o2 (by decide) (by decide))) (rx.cg (by rw [rd_up_f (by decide)]; exact o2.rd (by decide) _ _) (fun f i j hf _ => by rw [rd_up_f (by revert f; decide)]; exact o2.rd (by revert f; decide) _ _)) ((r2.tr ((o2.same (by decide)).mono (by decide))).wr' (by decide)) (fun g' j => by rw [rd_up_i (by omega), o2.rd (by decide)]; exact r3 g' j)
      have e60 : ∀ acc, S_day_60 (S_day_20L F) (nI acc) (nI g) m2 = S_day_20L F (nI acc) (nI (g + 1)) (up m2 2 g 3 (nI (P g))) := by
        intro acc
        unfold S_day_60
        rw [chk_eq _ (inb_nI (by omega) (by omega)), nm_eq, nm_eq, ix_nI (by omega), e3, nI_1]
      refine ⟨m', ?_, w2⟩
      show S_day_20 _ _ _ _ = _
      unfold S_day_20
      rw [r1.1 3 (by decide), if_pos (nI_lt hgn (by omega)), bnd_of t1, bnd_of (S_rule_sp hj ht hA1), chk_eq _ (show hs 2 < 6 by have := h.2.2.1; omega), hA1.1 1 (by decide), bnd2_of u1, ← w1]
      rw [show sm Bo (g + 1) = sm Bo g + Bo g from rfl, eb]
      by_cases q : hotV (X (hs 2)) (eG gr g (gr g 4) (gr (gr g 4) 2)) (gr g 3) (hs 0) < hs 1
      · rw [if_pos q, if_pos q, if_pos rfl, e60]; rfl
      · rw [if_neg q, if_neg q, if_neg (by decide), nm_eq, nI_1, e60]
  have := key (hs 3) 0 1000 μ (by omega) (by omega) (by rw [tmp_0]; exact hA) hX RA.rf (fun _ _ => rfl)
  exact this
theorem M_day_loop {hs : Nat → Nat} {gr : Nat → Nat → Nat} {tc : Nat} {X : Nat → List Int32 × List Int32 × List Int32} {ν : Mem} (h : HOK hs gr tc) (ht : tc ≤ 6) (hM : HM hs gr ν) (hX : XM tc X ν) : ∃ m', M_day_17L 1000 0 0 ν = some (nI (sm (fun g => lvB X hs gr g (gr g 4) (gr (gr g 4) 2) 1) (hs 3)), m') ∧ HM (u1 hs 0 (hs 0 + 1)) (tmp gr (fun g => lvP X hs gr g (gr g 4) (gr (gr g 4) 2) 1) (hs 3)) m' ∧ RM [4, 5, 6, 7, 8, 9, 10] ([4, 7, 8, 12] ++ SCM) ν m' := by
  have hn := h.2.2.2.1
  obtain ⟨P, eP⟩ : ∃ P, P = fun g => lvP X hs gr g (gr g 4) (gr (gr g 4) 2) 1 := ⟨_, rfl⟩
  obtain ⟨Bo, eB⟩ : ∃ B, B = fun g => lvB X hs gr g (gr g 4) (gr (gr g 4) 2) 1 := ⟨_, rfl⟩
  rw [← eP, ← eB]
  have hP : ∀ a, a < hs 3 → P a ≤ 99 := fun a ha => by rw [eP]; exact lvP_le h ha
  have key : ∀ (k g F : Nat) (m : Mem), g + k = hs 3 → k < F → HM hs (tmp gr P g) m → XM tc X m → RM [4, 5, 6, 7, 8, 9, 10] ([4, 7, 8, 12] ++ SCM) ν m → ∃ m', M_day_17L F (nI (sm Bo g)) (nI g) m = some (nI (sm Bo (hs 3)), m') ∧ HM (u1 hs 0 (hs 0 + 1)) (tmp gr P (hs 3)) m' ∧ RM [4, 5, 6, 7, 8, 9, 10] ([4, 7, 8, 12] ++ SCM) ν m' := by
    intro k
    induction k with
    | zero =>
      intro g F m hg hF r1 rx r2
      obtain ⟨F, rfl⟩ : ∃ F', F = F' + 1 := ⟨F - 1, by omega⟩
      have : g = hs 3 := by omega
      subst this
      refine ⟨up m 0 0 7 (nI (hs 0 + 1)), ?_, HM_u1 (k := 0) r1 (by decide), r2.wr0 (by decide)⟩
      show M_day_17 _ _ _ _ = _
      unfold M_day_17
      rw [r1.2.2.2.1, if_neg (nI_nlt (by omega) (by omega)), nm_eq, r1.1, nI_1]
    | succ k ih =>
      intro g F m hg hF r1 rx r2
      obtain ⟨F, rfl⟩ : ∃ F', F = F' + 1 := ⟨F - 1, by omega⟩
      have hgn : g < hs 3 := by omega
      have hj := h.tmpr hP g
      have c5 := (h.2.2.2.2.1 g hgn).2.2.2.2
      obtain ⟨m1, t1, t2, t3, t4, -⟩ := lives_ref (d := 1) hj ht r1 rx hgn c5 (by omega)
      have e4 : rd m 6 0 g = nI (gr g 4) := (r1.2.2.2.2 g hgn).2.2.2.2.trans (by rw [tmp_n _ _ (by omega)])
      have cg : eG (tmp gr P g) g (gr g 4) (tmp gr P g (gr g 4) 2) = eG gr g (gr g 4) (gr (gr g 4) 2) := by
        rw [tmp_n _ _ (show ¬ (2 = 3 ∧ gr g 4 < g) by omega)]
        exact eG_cong (tmp_n _ _ (show ¬ (0 = 3 ∧ g < g) by omega)) (tmp_n _ _ (show ¬ (1 = 3 ∧ g < g) by omega))
      have g3 : tmp gr P g g 3 = gr g 3 := tmp_n _ _ (by omega)
      have e28 : rd m1 0 0 28 = nI (P g) := by
        rw [t3]; unfold lvP; rw [cg, g3, eP]; rfl
      have e29 : rd m1 0 0 29 = nI (Bo g) := by
        rw [t4]; unfold lvB; rw [cg, g3, eB]; rfl
      obtain ⟨m', w1, w2⟩ := ih (g + 1) F (up m1 5 0 (3 * g + 2) (nI (P g))) (by omega) (by omega) (by
        rw [← tmp_u2]
        exact HM_u2 (k := 2) (r1.nx t2 (by decide)) (by decide)) (rx.cg (by rw [rd_up_f (by decide)]; exact t2.2 3 (by decide)) (fun f j hf => by rw [rd_up_f (by revert f; decide)]; exact t2.rd (by revert f; decide) _ _)) ((r2.tr ((t2.rm _).mono (fun _ q => q) (by decide))).wr' (by decide))
      refine ⟨m', ?_, w2⟩
      show M_day_17 _ _ _ _ = _
      unfold M_day_17
      rw [r1.2.2.2.1, if_pos (nI_lt hgn (by omega)), chk_eq _ (inb_nI (by omega) (by omega)), ix_nI (by omega), e4, bnd_of (show M_lives (nI g) (nI (gr g 4)) 1 m = some m1 from t1), litI 3, pk_mul, litI 2, nI_add, chk_eq _ (inb_nI (by omega) (by omega)), nm_eq, nm_eq, nm_eq, ix_nI (by omega), e28, rd_up_f (by decide), e29, nI_add, nI_1]
      exact w1
  exact key (hs 3) 0 1000 ν (by omega) (by omega) (by rw [tmp_0]; exact hM) hX RM.rf
theorem day_agree : Agree S_day M_day := by
  intro μ ν I
  have I0 := I
  obtain ⟨hs, gr, tc, X, B, z, sk, sm', sv, IC⟩ := I
  have h : HOK hs gr tc := IC.1.1
  have ht : tc ≤ 6 := IC.1.2.1
  have hA := IC.1.2.2.1
  have hM := IC.1.2.2.2
  have hd0 := h.1
  by_cases q : hs 0 = 999
  · refine ⟨-3, μ, ν, ?_, ?_, I0⟩
    · unfold S_day
      rw [hA.1 0 (by decide), if_neg (show ¬ nI (hs 0) < 999 from nI_nlt (b := 999) (by omega) (by omega))]
    · unfold M_day
      rw [hM.1, if_pos (by rw [q]; rfl)]
  · obtain ⟨m', a1, a2, a3, a4, a5⟩ := S_day_loop h ht hA IC.2.1.1
    obtain ⟨w', b1, b2, b3⟩ := M_day_loop h ht hM IC.2.1.2
    have hok : HOK (u1 hs 0 (hs 0 + 1)) (tmp gr (fun g => lvP X hs gr g (gr g 4) (gr (gr g 4) 2) 1) (hs 3)) tc := by
      obtain ⟨c1, c2⟩ := h.tmpr (P := fun g => lvP X hs gr g (gr g 4) (gr (gr g 4) 2) 1) (fun a ha => lvP_le h ha) (hs 3)
      exact ⟨by show hs 0 + 1 ≤ 999; omega, c2⟩
    have eS : S_day μ = some (nI (sm (fun g => lvB X hs gr g (gr g 4) (gr (gr g 4) 2) 1) (hs 3)), m') := by
      unfold S_day
      rw [hA.1 0 (by decide), if_pos (show nI (hs 0) < 999 from nI_lt (b := 999) (by omega) (by omega))]
      exact a1
    have eM : M_day ν = some (nI (sm (fun g => lvB X hs gr g (gr g 4) (gr (gr g 4) 2) 1) (hs 3)), w') := by
      unfold M_day
      rw [hM.1, if_neg (show ¬ nI (hs 0) = 999 from nI_lit_ne (b := 999) (by omega) (by omega) q)]
      exact b1
    exact ⟨_, m', w', eS, eM, Inv.house (hs' := u1 hs 0 (hs 0 + 1)) IC hok a2 b2 (Nat.le_refl _) (fun g hg => tmp_n _ _ (by omega)) a3 a4 a5 b3⟩
