/-! ===== text ===== -/
theorem M_copy_sp {B : Nat → Int32} {z tc : Nat} {ν : Mem} (hz : z ≤ 160) (ht : tc < 6) (h3 : rd ν 0 0 3 = nI tc) (hB : TpM B z ν) (K : Mem → Option (Int32 × Mem)) (hK : ∀ w, rd w 0 0 6 = nI z → rd w 0 0 3 = nI tc → M_text_14 (fun _ _ => none) (nI z) w = K w) : ∃ w, M_text_14L 1000 0 ν = K w ∧ RM [1] [] ν w ∧ (∀ i, i < z → rd w 1 0 (160 * tc + i) = B i) ∧ ∀ j, (j < 160 * tc ∨ 160 * tc + 160 ≤ j) → rd w 1 0 j = rd ν 1 0 j := by
  have key : ∀ (k i F : Nat) (w : Mem), i + k = z → k < F → RM [1] [] ν w → (∀ a, a < i → rd w 1 0 (160 * tc + a) = B a) → (∀ j, (j < 160 * tc ∨ 160 * tc + 160 ≤ j) → rd w 1 0 j = rd ν 1 0 j) → ∃ w', M_text_14L F (nI i) w = K w' ∧ RM [1] [] ν w' ∧ (∀ i, i < z → rd w' 1 0 (160 * tc + i) = B i) ∧ ∀ j, (j < 160 * tc ∨ 160 * tc + 160 ≤ j) → rd w' 1 0 j = rd ν 1 0 j := by
    intro k
    induction k with
    | zero =>
      intro i F w hi hF hr h1 h2
      obtain ⟨F, rfl⟩ : ∃ F', F = F' + 1 := ⟨F - 1, by omega⟩
      have : i = z := by omega
      subst this
      have e6 : rd w 0 0 6 = nI i := by rw [hr 0 6 (by decide) (fun _ => List.not_mem_nil)]; exact hB.1
      have e3 : rd w 0 0 3 = nI tc := by rw [hr 0 3 (by decide) (fun _ => List.not_mem_nil)]; exact h3
      refine ⟨w, ?_, hr, h1, h2⟩
      rw [← hK w e6 e3]
      show M_text_14 _ _ _ = M_text_14 _ _ _
      unfold M_text_14
      rw [e6, if_neg (nI_nlt (Nat.le_refl _) (by omega)), if_neg (nI_nlt (Nat.le_refl _) (by omega))]
    | succ k ih =>
      intro i F w hi hF hr h1 h2
      obtain ⟨F, rfl⟩ : ∃ F', F = F' + 1 := ⟨F - 1, by omega⟩
      have e6 : rd w 0 0 6 = nI z := by rw [hr 0 6 (by decide) (fun _ => List.not_mem_nil)]; exact hB.1
      have e3 : rd w 0 0 3 = nI tc := by rw [hr 0 3 (by decide) (fun _ => List.not_mem_nil)]; exact h3
      have eB : rd w 3 0 i = B i := by rw [hr 3 i (by decide) (fun q => absurd q (by decide))]; exact (hB.2 i (by omega)).1
      obtain ⟨w', a1, a2⟩ := ih (i + 1) F (up w 1 0 (160 * tc + i) (B i)) (by omega) (by omega) (hr.wr' (by decide)) (fun a ha => by
        by_cases q : a = i
        · subst q; exact rd_up_s _ _ _ _ _
        · rw [rd_up_j (by omega)]; exact h1 a (by omega)) (fun j hj => by rw [rd_up_j (by omega)]; exact h2 j hj)
      refine ⟨w', ?_, a2⟩
      show M_text_14 _ _ _ = _
      unfold M_text_14
      rw [e6, if_pos (nI_lt (by omega) (by omega)), chk_eq _ (inb_nI (by omega) (by omega)), e3, litI 160, pk_mul, nI_add, chk_eq _ (inb_nI (by omega) (by omega)), nm_eq, nm_eq, nI_1, ix_nI (show 160 * tc + i < 2 ^ 31 by omega), ix_nI (show i < 2 ^ 31 by omega), eB]
      exact a1
  exact key z 0 1000 ν (by omega) (by omega) RM.rf (fun a ha => absurd ha (by omega)) (fun _ _ => rfl)
theorem text_agree : Agree S_text M_text := by
  intro μ ν I
  have I0 := I
  obtain ⟨hs, gr, tc, X, B, z, sk, sm, sv, ⟨h, ht, hA, hM⟩, ⟨h5, h6⟩, ⟨h7, h8⟩, ⟨h9, h10, h11⟩, h12⟩ := I
  have hz := h7.1
  have a1 : rd μ 0 0 4 = nI tc := h5.1
  have b1 : rd ν 0 0 3 = nI tc := h6.1
  have z1 : rd ν 0 0 6 = nI z := h8.1
  by_cases q : tc = 6
  · refine ⟨-4, μ, ν, ?_, ?_, I0⟩
    · unfold S_text
      rw [a1, if_neg (show ¬ nI tc < 6 from nI_nlt (b := 6) (by omega) (by omega))]
    · unfold M_text
      rw [b1, if_pos (show nI tc = 6 by rw [q]; rfl)]
  have ht6 : tc < 6 := by omega
  obtain ⟨r, m1, g1, g2, g3, g4⟩ := Re_read_sp h7 ht6
  obtain ⟨w0, c1, c2, c3, c4⟩ := M_copy_sp hz ht6 b1 h8 (fun w => bnd2 (M_read (nI tc) 0 (up (up w 2 0 tc (nI z)) 0 0 6 0)) fun r6 μ7 => if (rd μ7 0 0 26) = 0 then (nm (up μ7 0 0 3 ((rd μ7 0 0 3) + 1)) fun μ9 => some ((rd μ9 0 0 3) - 1, μ9)) else some ((-100) - (rd μ7 0 0 27), μ7)) (fun w e6 e3 => by
    unfold M_text_14
    rw [e6, if_neg (nI_nlt (Nat.le_refl _) (by omega)), e3, chk_eq _ (inb_nI (by omega) (by omega)), nm_eq, nm_eq, ix_nI (by omega)]
    rw [show rd (up (up w 2 0 tc (nI z)) 0 0 6 0) 0 0 3 = nI tc from e3])
  obtain ⟨ν1, eν1⟩ : ∃ ν1, ν1 = up (up w0 2 0 tc (nI z)) 0 0 6 0 := ⟨_, rfl⟩
  have tb : TB B z tc ν1 := by
    refine ⟨ht6, hz, ?_, fun i hi => ?_, fun i hi => (h8.2 i hi).2⟩
    · rw [eν1, rd_up_f (by decide), rd_up_s]
    · rw [eν1, rd_up_f (by decide), rd_up_f (by decide)]; exact c3 i hi
  obtain ⟨r', v, ν2, d1, d2, d3, d4⟩ := M_read_sp (w := 0) tb (by decide)
  rw [g1] at d1
  cases d1
  have d2 : M_read (nI tc) 0 ν1 = some (v, ν2) := d2
  -- what stays in the reference
  have n1 : ∀ f j, f ∉ [1, 2] → (f = 0 → j ∉ 6 :: JR) → rd ν2 f 0 j = rd ν f 0 j := by
    intro f j hf hj
    have e : rd ν2 f 0 j = rd ν1 f 0 j := by
      by_cases f0 : f = 0
      · subst f0; exact d3.2 j (fun w => hj rfl (List.mem_cons_of_mem _ w))
      · exact d3.rd f0 0 j
    rw [e, eν1, rd_up, if_neg (fun w => hj w.1 (by rw [w.2.2]; exact List.mem_cons_self)), rd_up_f (fun w => hf (by rw [w]; decide)), c2 f j (fun w => hf (by rw [List.mem_singleton.mp w]; decide)) (fun _ => List.not_mem_nil)]
  have n2 : ∀ t, t < tc → (∀ i, i < 160 → rd ν2 1 0 (160 * t + i) = rd ν 1 0 (160 * t + i)) ∧ rd ν2 2 0 t = rd ν 2 0 t := by
    intro t htt
    refine ⟨fun i hi => ?_, ?_⟩
    · rw [d3.rd (by decide), eν1, rd_up_f (by decide), rd_up_f (by decide), c4 _ (Or.inl (by omega))]
    · rw [d3.rd (by decide), eν1, rd_up_f (by decide), rd_up_j (by omega), c2 2 t (by decide) (fun q => absurd q (by decide))]
  have hM2 : HM hs gr ν2 := hM.cg (fun j hj => n1 0 j (by decide) (fun _ => by revert j; decide)) (fun f j hf => n1 f j (by revert f; decide) (fun w => by subst w; exact absurd hf (by decide)))
  have hA2 : HA 0 hs gr m1 := hA.cg (fun j => g2.1.rd (by decide) _ _) (fun g j => g2.1.rd (by decide) _ _)
  have sA2 : ShA sk sm sv m1 := h10.cg (fun f i j hf => g2.1.rd (by revert f; decide) _ _)
  have sM2 : ShM sk sm sv ν2 := h11.cg (fun f j hf => n1 f j (by revert f; decide) (fun w => by subst w; exact absurd hf (by decide)))
  have xa : ∀ t, t < tc → TXA (X t) t m1 := by
    have : XA tc X m1 := h5.cg (g2.1.rd (by decide) _ _) (fun f i j hf hi => by
      have := g2.2 i (by omega)
      rcases List.mem_cons.mp hf with e | e
      · subst e; exact congrFun this.1 j
      · rw [List.mem_singleton.mp e]; exact congrFun this.2 j)
    exact this.2
  have xm : ∀ t, t < tc → TXM (X t) t ν2 := fun t htt => (h6.2 t htt).cg (fun i hi => (n2 t htt).1 i hi) (n2 t htt).2
  have tA : TapeA (fun _ => 0) 0 m1 := ⟨by omega, g3, fun i hi => absurd hi (by omega)⟩
  have tM : ∀ w', rd w' 0 0 6 = rd ν2 0 0 6 → TpM (fun _ => 0) 0 w' := fun w' e => ⟨by rw [e, d3.2 6 (by decide), eν1, rd_up_s]; rfl, fun i hi => absurd hi (by omega)⟩
  have a2 : rd m1 0 0 4 = nI tc := by rw [g2.1.rd (by decide)]; exact a1
  have b2 : rd ν2 0 0 3 = nI tc := by rw [n1 0 3 (by decide) (fun _ => by decide)]; exact b1
  have eM : M_text ν = if (rd ν2 0 0 26) = 0 then (some (nI tc, up ν2 0 0 3 (nI (tc + 1)))) else some ((-100) - (rd ν2 0 0 27), ν2) := by
    unfold M_text
    rw [b1, if_neg (show ¬ nI tc = 6 from nI_lit_ne (b := 6) (by omega) (by omega) q), c1]
    show bnd2 (M_read (nI tc) 0 (up (up w0 2 0 tc (nI z)) 0 0 6 0)) _ = _
    rw [← eν1, bnd2_of d2, nm_eq, rd_up_s, b2, nI_1, nI_pred]
  rcases hr2 : r.2 with _ | ⟨k0, k1, k2⟩
  · rw [hr2] at g4 d4
    obtain ⟨e26, e27⟩ := d4
    refine ⟨-100 - nI (posK B z r.1), m1, ν2, ?_, ?_, hs, gr, tc, X, (fun _ => 0), 0, sk, sm, sv, ⟨h, ht, hA2, hM2⟩, ⟨⟨a2, xa⟩, ⟨b2, xm⟩⟩, ⟨tA, tM ν2 rfl⟩, ⟨h9, sA2, sM2⟩, h12.cg (Nat.le_refl _) (fun _ _ => rfl) (Nat.le_refl _) (g2.1.rd (by decide) _ _) (fun j => g2.1.rd (by decide) _ _) (fun g j => g2.1.rd (by decide) _ _) (fun j hj => n1 0 j (by decide) (fun _ => by revert j; decide)) (fun f j hf => n1 f j (by revert f; decide) (fun w => by subst w; exact absurd hf (by decide)))⟩
    · have g4 : Re_read tc μ = some (nI (posK B z r.1), m1) := g4
      unfold S_text
      rw [a1, if_pos (show nI tc < 6 from nI_lt (b := 6) (by omega) (by omega)), chk_eq _ (inb_nI (by omega) (by omega)), ix_nI (by omega), bnd2_of g4, if_neg (nI_neg1 (show posK B z r.1 < 2 ^ 31 from Nat.lt_of_le_of_lt (posK_le B z r.1) (by omega)))]
    · rw [eM, e26, if_neg (by decide), e27]
  · rw [hr2] at g4 d4
    obtain ⟨e26, -⟩ := d4
    obtain ⟨p1, p2, p3, p4, p5⟩ : Re_read tc μ = some (-1, m1) ∧ TextA tc k0 k1 k2 m1 ∧ One k0 ∧ One k1 ∧ One k2 := g4
    obtain ⟨X', eX'⟩ : ∃ X' : Nat → List Int32 × List Int32 × List Int32, X' = fun t => if t = tc then (k0, k1, k2) else X t := ⟨_, rfl⟩
    have X'n : ∀ t, t < tc → X' t = X t := fun t htt => by rw [eX']; exact if_neg (by omega)
    have X's : X' tc = (k0, k1, k2) := by rw [eX']; exact if_pos rfl
    have kA : KI hs gr (tc + 1) (up m1 0 0 4 (nI (tc + 1))) (up ν2 0 0 3 (nI (tc + 1))) := h12.cg (Nat.le_refl _) (fun _ _ => rfl) (Nat.le_succ tc) (by rw [rd_up_j (by decide)]; exact g2.1.rd (by decide) _ _) (fun j => by rw [rd_up_f (by decide)]; exact g2.1.rd (by decide) _ _) (fun g j => by rw [rd_up_f (by decide)]; exact g2.1.rd (by decide) _ _) (fun j hj => by
      rw [rd_up_j (by revert j; decide)]
      exact n1 0 j (by decide) (fun _ => by revert j; decide)) (fun f j hf => by
      rw [rd_up_f (by revert f; decide)]
      exact n1 f j (by revert f; decide) (fun w => by subst w; exact absurd hf (by decide)))
    refine ⟨nI tc, up m1 0 0 4 (nI (tc + 1)), up ν2 0 0 3 (nI (tc + 1)), ?_, ?_, hs, gr, tc + 1, X', (fun _ => 0), 0, sk, sm, sv, ⟨⟨h.1, h.2.1, Nat.lt_succ_of_lt h.2.2.1, h.2.2.2⟩, by omega, hA2.cg (fun _ => rd_up_f (by decide)) (fun _ _ => rd_up_f (by decide)), hM2.cg (fun j hj => rd_up_j (by revert j; decide)) (fun f j hf => rd_up_f (by revert f; decide))⟩, ⟨⟨rd_up_s _ _ _ _ _, fun t htt => ?_⟩, ⟨rd_up_s _ _ _ _ _, fun t htt => ?_⟩⟩, ⟨tA.cg (rd_up_f (by decide)) (fun _ => rd_up_f (by decide)), tM _ (rd_up_j (by decide))⟩, ⟨h9, sA2.cg (fun f i j hf => rd_up_f (by revert f; decide)), sM2.cg (fun f j hf => rd_up_f (by revert f; decide))⟩, kA⟩
    · unfold S_text
      rw [a1, if_pos (show nI tc < 6 from nI_lt (b := 6) (by omega) (by omega)), chk_eq _ (inb_nI (by omega) (by omega)), ix_nI (by omega), bnd2_of p1, if_pos rfl, nm_eq, rd_up_s, a2, nI_1, nI_pred]
    · rw [eM, e26, if_pos rfl]
    · have o : Off [0] m1 (up m1 0 0 4 (nI (tc + 1))) := Off.rf.wr' (by decide)
      by_cases e : t = tc
      · subst e
        rw [X's]
        exact TXA.off (x := (k0, k1, k2)) ⟨p2, p3, p4, p5⟩ o (by decide) (by decide)
      · rw [X'n t (by omega)]
        exact (xa t (by omega)).off o (by decide) (by decide)
    · by_cases e : t = tc
      · subst e
        rw [X's]
        refine ⟨B, z, r.1, ?_, ?_⟩
        · obtain ⟨u1, u2, u3, u4, u5⟩ := tb
          exact ⟨u1, u2, by rw [rd_up_f (by decide), d3.rd (by decide)]; exact u3, fun i hi => by rw [rd_up_f (by decide), d3.rd (by decide)]; exact u4 i hi, u5⟩
        · rw [g1, ← hr2]
      · rw [X'n t (by omega)]
        exact (xm t (by omega)).cg (fun i hi => rd_up_f (by decide)) (rd_up_f (by decide))
