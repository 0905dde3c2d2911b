/-! ===== tells: kinds, numbers, things, texts: both sides ===== -/
theorem M_lays_col {g col v : Nat} {w : Mem} (hg : g < 6) (hc : col < 3) : M_lays (nI (if col = 0 then 5 else if col = 1 then 2 else 3)) (nI g) (nI v) w = some (if col = 0 then up w 4 0 g (nI v) else up w 5 0 (3 * g + (col - 1)) (nI v)) := by
  unfold M_lays
  simp only [nm_eq]
  obtain rfl | rfl | rfl : col = 0 ∨ col = 1 ∨ col = 2 := by omega
  · rw [if_pos rfl, if_pos rfl, if_neg (by decide), if_neg (by decide), if_neg (by decide), if_pos (by decide), chk_eq _ (inb_nI (by omega) (by omega)), ix_nI (by omega)]
  · rw [if_neg (show ¬ 1 = 0 by decide), if_pos rfl, if_neg (show ¬ 1 = 0 by decide), if_neg (by decide), if_neg (by decide), if_pos (by decide), litI 3, litI 2, pk_mul, nI_add, nI_sub' (by omega), Nat.add_sub_cancel, chk_eq _ (inb_nI (by omega) (by omega)), ix_nI (by omega)]
    rfl
  · rw [if_neg (show ¬ 2 = 0 by decide), if_neg (show ¬ 2 = 1 by decide), if_neg (show ¬ 2 = 0 by decide), if_neg (by decide), if_neg (by decide), if_pos (by decide), litI 3, litI 2, pk_mul, nI_add, nI_sub' (by omega), show 3 * g + 3 - 2 = 3 * g + (2 - 1) by omega, chk_eq _ (inb_nI (by omega) (by omega)), ix_nI (by omega)]
theorem would_both {X : Nat → List Int32 × List Int32 × List Int32} {hs : Nat → Nat} {gr : Nat → Nat → Nat} {tc s g col : Nat} {vv : Nat → Int32} {μ ν : Mem} (h : HOK hs gr tc) (ht : tc ≤ 6) (hA : HA 0 hs gr μ) (hM : HM hs gr ν) (hXA : XA tc X μ) (hXM : XM tc X ν) (hsx : s < 4) (hg : g < hs 3) (hc : col < 3) (hvA : ∀ a, a < hs 3 → rd μ 17 s a = vv a) (hvM : ∀ a, a < hs 3 → rd ν 16 0 (40 * s + a) = vv a) : ∃ r m' w', S_wouldBeSo s (nI (col + 1)) (nI g) μ = some (r, m') ∧ M_tells_171 (nI s) (nI g) (nI (if col = 0 then 5 else if col = 1 then 2 else 3)) ν = some (r, w') ∧ Off [8, 18, 19] μ m' ∧ HM hs gr w' ∧ RMx ν w' := by
  have hn := h.2.2.2.1
  obtain ⟨L, eL⟩ : ∃ L, L = (if col = 0 then 5 else if col = 1 then 9 else 15) := ⟨_, rfl⟩
  have hL : L ≤ 15 := by rw [eL]; split; omega; split <;> omega
  have hgc : gr g col ≤ L := by
    obtain ⟨b0, b1, b2, -, -⟩ := h.2.2.2.2.1 g hg
    obtain rfl | rfl | rfl : col = 0 ∨ col = 1 ∨ col = 2 := by omega
    · rw [eL, if_pos rfl]; omega
    · rw [eL, if_neg (by decide), if_pos rfl]; omega
    · rw [eL, if_neg (by decide), if_neg (by decide)]; omega
  -- the dancer
  obtain ⟨y, hy, hyr, ew⟩ : ∃ y, y < hs 3 ∧ ((col < 2 ∧ y = g) ∨ (col = 2 ∧ gr y 4 = g)) ∧ S_wouldBeSo s (nI (col + 1)) (nI g) μ = S_wouldBeSo_14 s (nI (col + 1)) (nI y) μ := by
    by_cases q : col = 2
    · obtain ⟨y, a1, a2, a3⟩ := S_wearerOf_sp h hA hg
      refine ⟨y, a1, Or.inr ⟨q, a2⟩, ?_⟩
      unfold S_wouldBeSo
      rw [q, if_pos (show nI (2 + 1) = 3 by decide), bnd_of a3]
    · refine ⟨g, hg, Or.inl ⟨by omega, rfl⟩, ?_⟩
      unfold S_wouldBeSo
      rw [if_neg (show ¬ nI (col + 1) = 3 from fun z => q (by have := (nI_eq (b := 3) (by omega) (by omega)).mp z; omega))]
  -- the reference
  obtain ⟨ν1, a1, a2⟩ : ∃ ν1, M_tells_171 (nI s) (nI g) (nI (if col = 0 then 5 else if col = 1 then 2 else 3)) ν = M_tells_236L 1000 (nI s) (nI g) (nI (if col = 0 then 5 else if col = 1 then 2 else 3)) (nI (gr g col)) (nI L) 0 (nI 0) ν1 ∧ NX JS ν ν1 := by
    obtain rfl | rfl | rfl : col = 0 ∨ col = 1 ∨ col = 2 := by omega
    · obtain ⟨ν1, t1, t2⟩ := M_told_sp (X := X) (x1 := nI g) (j := 5) h ht hM hXM (by omega) (fun _ => ⟨hg, rfl⟩)
      refine ⟨ν1, ?_, t2⟩
      rw [eL, if_pos rfl, if_pos rfl]
      unfold M_tells_171 M_tells_195 M_tells_228
      rw [if_neg (by decide), bnd2_of t1, if_neg (by decide), if_pos (by decide)]
      rfl
    · obtain ⟨ν1, t1, t2⟩ := M_told_sp (X := X) (x1 := nI g) (j := 2) h ht hM hXM (by omega) (fun _ => ⟨hg, rfl⟩)
      refine ⟨ν1, ?_, t2⟩
      rw [eL, if_neg (by decide), if_pos rfl, if_neg (by decide), if_pos rfl]
      unfold M_tells_171 M_tells_195 M_tells_228
      rw [if_neg (by decide), bnd2_of t1, if_neg (by decide), if_neg (by decide), nm_eq]
      rfl
    · obtain ⟨ν1, t1, t2⟩ := M_told_sp (X := X) (x1 := nI g) (j := 3) h ht hM hXM (by omega) (fun _ => ⟨hg, rfl⟩)
      refine ⟨ν1, ?_, t2⟩
      rw [eL, if_neg (by decide), if_neg (by decide), if_neg (by decide), if_neg (by decide)]
      unfold M_tells_171 M_tells_195 M_tells_228
      rw [if_neg (by decide), bnd2_of t1, if_neg (by decide), if_neg (by decide), nm_eq]
      rfl
  have r1 : RMx ν ν1 := (a2.rm _).mono (fun _ q => q) (by decide)
  have hg6 : g < 6 := by omega
  obtain ⟨w', b1, b2, b3⟩ := M_tries_sp (J := fun q w => HM hs (u2 gr g col q) w) (U := fun v => unl (fun a => fl X (hs 2) (u2 gr g col v) a (u2 gr g col v a 4)) vv (hs 3)) (ν := ν) (s := s) (L := L) (was := gr g col) (x4 := nI g) (x5 := nI (if col = 0 then 5 else if col = 1 then 2 else 3)) hL (by omega) (fun v _ => p64 hn (unl_lt _ _ _))
    (fun q v w _ hJ => by
      refine ⟨_, M_lays_col hg6 hc, ?_, ?_⟩
      · show HM hs (u2 gr g col v) _
        rw [← u2_u2 gr g col q v]
        by_cases q0 : col = 0
        · subst q0; rw [if_pos rfl]; exact HM_k0 hJ
        · rw [if_neg q0]
          obtain ⟨k, rfl⟩ : ∃ k, col = k + 1 := ⟨col - 1, by omega⟩
          exact HM_u2 hJ (by omega)
      · by_cases q0 : col = 0
        · rw [if_pos q0]; exact RM.rf.wr' (by decide)
        · rw [if_neg q0]; exact RM.rf.wr' (by decide))
    (fun v w hv hJ hr => by
      have hX' : XM tc X w := hXM.cg (hr 0 3 (by decide) (fun _ => by decide)) (fun f j hf => hr f j (by revert f; decide) (fun q => by subst q; exact absurd hf (by decide)))
      obtain ⟨w1, c1, c2⟩ := M_unlike_sp (X := X) (s := s) (v := vv) (h.u2r (g := g) (col := col) (v := v) hc (by rw [← eL]; exact hv)) ht hJ hX' hsx (fun a ha => by rw [hr 16 _ (by decide) (fun q => absurd q (by decide))]; exact hvM a ha)
      exact ⟨w1, c1, hJ.nx c2 (by decide), (c2.rm _).mono (fun _ q => q) (by decide)⟩)
    (L + 1) 0 1000 (gr g col) 0 ν1 (by omega) (by omega) (by show HM hs (u2 gr g col (gr g col)) ν1; rw [u2_id]; exact hM.nx a2 (by decide)) r1
  have b2 : HM hs gr w' := by
    have b2 : HM hs (u2 gr g col (gr g col)) w' := b2
    rwa [u2_id] at b2
  -- the class
  obtain ⟨m6, c1, c2⟩ := S_otherwise_sp (t := hs 2) (s := s) (v := vv) h hA hXA h.2.2.1 hvA
  have e14 : S_wouldBeSo_14 s (nI (col + 1)) (nI y) μ = if (nI (unl (fun g => fl X (hs 2) gr g (gr g 4)) vv (hs 3)) &&& ((shl 1 (nI y)) ^^^ (-1))) = 0 then S_wouldBeSo_65 s (nI (col + 1)) (nI y) 0 (nI L) m6 else some (0, m6) := by
    unfold S_wouldBeSo_14
    rw [bnd_of (S_rule_sp h ht hA), chk_eq _ (show hs 2 < 6 by have := h.2.2.1; omega), bnd2_of c1, nm_eq, eL]
    obtain rfl | rfl | rfl : col = 0 ∨ col = 1 ∨ col = 2 := by omega
    · rw [if_pos (show nI (0 + 1) = 1 by decide), if_pos (show (0 : Nat) = 0 by rfl)]; rfl
    · rw [if_neg (show ¬ nI (1 + 1) = 1 by decide), if_pos (show nI (1 + 1) = 2 by decide), if_neg (show ¬ (1 : Nat) = 0 by decide), if_pos (show (1 : Nat) = 1 by rfl)]; rfl
    · rw [if_neg (show ¬ nI (2 + 1) = 1 by decide), if_neg (show ¬ nI (2 + 1) = 2 by decide), if_neg (show ¬ (2 : Nat) = 0 by decide), if_neg (show ¬ (2 : Nat) = 1 by decide)]; rfl
  rw [ew, e14, a1]
  have ho0 := others_0 (d := fun g => fl X (hs 2) gr g (gr g 4)) (v := vv) hn hy
  have key := fun v => unl_u2 (X := X) (t := hs 2) (v := v) (vv := vv) h hc hy hyr
  by_cases q : (nI (unl (fun g => fl X (hs 2) gr g (gr g 4)) vv (hs 3)) &&& ((shl 1 (nI y)) ^^^ (-1))) = 0
  · have hoth := ho0.mp q
    obtain ⟨m', d1, d2⟩ := S_would_sp (X := X) (s := s) (col := col) (L := L) (vv := vv) h ht (hA.off c2 (by decide) (by decide)) (hXA.cg (c2.rd (by decide) _ _) (fun f i j hf _ => c2.rd (by revert f; decide) _ _)) (fun a ha => by rw [c2.rd (by decide)]; exact hvA a ha) hy hc hL
    rw [if_pos q]
    refine ⟨_, m', w', d1, ?_, c2.tr d2, b2, b3⟩
    refine b1.trans ?_
    rw [acb_cong (P := fun v => decide (unl (fun a => fl X (hs 2) (u2 gr g col v) a (u2 gr g col v a 4)) vv (hs 3) = 0)) (Q := fun v => decide (nI (flY X (hs 2) gr y col v) = vv y)) (L + 1) 0 0 (fun i _ _ => by
      by_cases z : nI (flY X (hs 2) gr y col i) = vv y
      · rw [decide_eq_true z, decide_eq_true ((key i).mpr ⟨hoth, z⟩)]
      · rw [decide_eq_false z, decide_eq_false (fun w => z ((key i).mp w).2)])]
  · rw [if_neg q]
    refine ⟨0, m6, w', rfl, ?_, c2, b2, b3⟩
    refine b1.trans ?_
    rw [acb_no (P := fun v => decide (unl (fun a => fl X (hs 2) (u2 gr g col v) a (u2 gr g col v a 4)) vv (hs 3) = 0)) (L + 1) 0 0 (fun i _ _ => decide_eq_false (fun w => q (ho0.mpr ((key i).mp w).1)))]
theorem u1_u1 (f : Nat → Nat) (k p v : Nat) : u1 (u1 f k p) k v = u1 f k v := by
  funext a
  unfold u1
  by_cases q : a = k
  · rw [if_pos q, if_pos q]
  · rw [if_neg q, if_neg q, if_neg q]
theorem u1_id (f : Nat → Nat) (k : Nat) : u1 f k (f k) = f := by
  funext a
  unfold u1
  by_cases q : a = k
  · rw [if_pos q, q]
  · rw [if_neg q]
theorem texts_both {X : Nat → List Int32 × List Int32 × List Int32} {hs : Nat → Nat} {gr : Nat → Nat → Nat} {tc s : Nat} {x4 : Int32} {vv : Nat → Int32} {μ ν : Mem} (h : HOK hs gr tc) (ht : tc ≤ 6) (hA : HA 0 hs gr μ) (hM : HM hs gr ν) (hXA : XA tc X μ) (hXM : XM tc X ν) (hsx : s < 4) (hvA : ∀ a, a < hs 3 → rd μ 17 s a = vv a) (hvM : ∀ a, a < hs 3 → rd ν 16 0 (40 * s + a) = vv a) : ∃ r m' w', S_textsBy s μ = some (r, m') ∧ M_tells_171 (nI s) x4 6 ν = some (r, w') ∧ Off [8, 18, 19] μ m' ∧ HM hs gr w' ∧ RMx ν w' := by
  have hn := h.2.2.2.1
  have hr := h.2.2.1
  obtain ⟨m', c1, c2⟩ := S_texts_sp (s := s) (v := vv) h ht hA hXA hvA
  have a1 : M_tells_171 (nI s) x4 6 ν = M_tells_236L 1000 (nI s) x4 6 (nI (hs 2)) (nI (tc - 1)) 0 (nI 0) ν := by
    unfold M_tells_171 M_tells_195 M_tells_228
    rw [if_pos rfl, if_pos rfl, hXM.1, hM.2.2.1, show nI tc - 1 = nI (tc - 1) from by
      obtain ⟨j, rfl⟩ : ∃ k, tc = k + 1 := ⟨tc - 1, by omega⟩
      exact nI_pred j]
    rfl
  have hok : ∀ v, v ≤ tc - 1 → HOK (u1 hs 2 v) gr tc := fun v hv => ⟨h.1, h.2.1, by show (if 2 = 2 then v else hs 2) < tc; rw [if_pos rfl]; omega, h.2.2.2⟩
  obtain ⟨w', b1, b2, b3⟩ := M_tries_sp (J := fun q w => HM (u1 hs 2 q) gr w) (U := fun v => unl (fun a => fl X v gr a (gr a 4)) vv (hs 3)) (ν := ν) (s := s) (L := tc - 1) (was := hs 2) (x4 := x4) (x5 := 6) (by omega) (by omega) (fun v _ => p64 hn (unl_lt _ _ _))
    (fun q v w _ hJ => by
      refine ⟨up w 0 0 4 (nI v), ?_, ?_, RM.rf.wr0 (by decide)⟩
      · unfold M_lays
        rw [if_neg (by decide), if_neg (by decide), if_neg (by decide), if_neg (by decide), nm_eq]
      · show HM (u1 hs 2 v) gr _
        rw [← u1_u1 hs 2 q v]
        exact HM_u1 hJ (k := 2) (by decide))
    (fun v w hv hJ hr => by
      have hX' : XM tc X w := hXM.cg (hr 0 3 (by decide) (fun _ => by decide)) (fun f j hf => hr f j (by revert f; decide) (fun q => by subst q; exact absurd hf (by decide)))
      obtain ⟨w1, c1, c2⟩ := M_unlike_sp (X := X) (s := s) (v := vv) (hok v hv) ht hJ hX' hsx (fun a ha => by rw [hr 16 _ (by decide) (fun q => absurd q (by decide))]; exact hvM a ha)
      exact ⟨w1, c1, hJ.nx c2 (by decide), (c2.rm _).mono (fun _ q => q) (by decide)⟩)
    (tc - 1 + 1) 0 1000 (hs 2) 0 ν (by omega) (by omega) (by show HM (u1 hs 2 (hs 2)) gr ν; rw [u1_id]; exact hM) RM.rf
  have b2 : HM hs gr w' := by
    have b2 : HM (u1 hs 2 (hs 2)) gr w' := b2
    rwa [u1_id] at b2
  rw [show tc - 1 + 1 = tc by omega] at b1
  exact ⟨_, m', w', c1, a1.trans b1, c2, b2, b3⟩
