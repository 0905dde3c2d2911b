/-! ===== the days of one groom, in the class ===== -/
theorem imn99 {a : Nat} (h : a < 2 ^ 31) : imn 99 (nI a) = nI (min a 99) := by
  unfold imn
  rw [litI 99]
  by_cases q : a < 99
  · rw [if_pos (nI_lt q (by omega))]; congr 1; omega
  · rw [if_neg (nI_nlt (by omega) h)]; congr 1; omega
theorem imx0 {a b : Nat} (ha : a < 2 ^ 30) (hb : b < 2 ^ 30) : imx 0 (nI a - nI b) = nI (a - b) := by
  unfold imx
  by_cases q : b < a
  · rw [nI_sub' (by omega), litI 0, if_pos (nI_lt (by omega) (by omega))]
  · by_cases q2 : a = b
    · subst q2
      rw [nI_sub' (Nat.le_refl _), Nat.sub_self, if_neg (by decide)]; rfl
    · have := pk_sneg hb (show a < b by omega)
      rw [if_neg (fun w => absurd (Int32.lt_trans w this) (by decide)), show a - b = 0 by omega]; rfl
theorem Ma_day_sp {x : List Int32 × List Int32 × List Int32} {t : Nat} {e : Nat → Nat} {P d l : Nat} {μ : Mem} (hx : TXA x t μ) (h : MAN e P d μ) (he : EB e) (hP : P ≤ 99) (hd : d < 2000) (hl : l < 2 ^ 31) : ∃ μ', Ma_boilsInADay t (nI l) μ = some ((if hotV x e P d < l then 0 else 1), μ') ∧ MAN e (coolV x e (hotV x e P d) d) (d + 1) μ' ∧ Off [8, 18, 19] μ μ' ∧ ∀ j, j ≠ 3 → j ≠ 4 → rd μ' 18 0 j = rd μ 18 0 j := by
  obtain ⟨m1, s1, s2⟩ := Ma_heats_sp hx h he hd
  have hh := heatV_le x e P d
  have H : ∀ (m2 : Mem) (y : Int32), m2 = up m1 18 0 3 (nI (hotV x e P d)) → (y = 0 ∨ y = 1) → ∃ μ', Ma_boilsInADay_32 t y m2 = some (y, μ') ∧ MAN e (coolV x e (hotV x e P d) d) (d + 1) μ' ∧ Off [8, 18, 19] μ μ' ∧ ∀ j, j ≠ 3 → j ≠ 4 → rd μ' 18 0 j = rd μ 18 0 j := by
    intro m2 y em2 hy
    have o2 : Off [8, 18, 19] μ m2 := by rw [em2]; exact (s2.mono (by decide)).wr' (by decide)
    have r2 : ∀ j, j ≠ 3 → rd m2 18 0 j = rd μ 18 0 j := fun j hj => by rw [em2, rd_up_j hj, s2.rd (by decide)]
    have M2 : MAN e (hotV x e P d) d m2 := by
      obtain ⟨h0, h1, h2, h3, h4, h5, h6⟩ := h
      exact ⟨by rw [r2 0 (by decide)]; exact h0, by rw [r2 1 (by decide)]; exact h1, by rw [r2 2 (by decide)]; exact h2, by rw [em2, rd_up_s], by rw [r2 4 (by decide)]; exact h4, by rw [r2 5 (by decide)]; exact h5, by rw [r2 6 (by decide)]; exact h6⟩
    obtain ⟨m3, t1, t2⟩ := Ma_calms_sp (hx.off o2 (by decide) (by decide)) M2 he hd
    have hc := calmV_le x he (hotV x e P d) d
    have hv := hotV_le x e P d
    unfold Ma_boilsInADay_32
    rw [bnd2_of t1]
    simp only [nm_eq]
    rw [chk_eq _ hy, M2.2.2.2.1, imx0 (by omega) (by omega), rd_up_j (by decide), t2.rd (by decide), M2.2.2.2.2.1, nI_1]
    obtain ⟨g0, g1, g2, g3, g4, g5, g6⟩ := M2.off t2 (by decide)
    refine ⟨_, rfl, ⟨?_, ?_, ?_, ?_, ?_, ?_, ?_⟩, ((o2.tr (t2.mono (by decide))).wr' (by decide)).wr' (by decide), fun j j3 j4 => ?_⟩
    · rw [rd_up_j (by decide), rd_up_j (by decide)]; exact g0
    · rw [rd_up_j (by decide), rd_up_j (by decide)]; exact g1
    · rw [rd_up_j (by decide), rd_up_j (by decide)]; exact g2
    · rw [rd_up_j (by decide), rd_up_s]; rfl
    · rw [rd_up_s]
    · rw [rd_up_j (by decide), rd_up_j (by decide)]; exact g5
    · rw [rd_up_j (by decide), rd_up_j (by decide)]; exact g6
    · rw [rd_up_j j4, rd_up_j j3, t2.rd (by decide)]; exact r2 j j3
  unfold Ma_boilsInADay
  rw [bnd2_of s1]
  simp only [nm_eq]
  have hv := hotV_le x e P d
  rw [h.2.2.2.1, nI_add, imn99 (by omega), show min (P + heatV x e P d) 99 = hotV x e P d from rfl, rd_up_s]
  by_cases q : hotV x e P d < l
  · rw [if_pos q, if_pos (nI_lt q hl)]
    exact H _ 0 rfl (Or.inl rfl)
  · rw [if_neg q, if_neg (nI_nlt (by omega) (by omega))]
    exact H _ 1 rfl (Or.inr rfl)
theorem dayF_m1 (x : List Int32 × List Int32 × List Int32) (e : Nat → Nat) (P d l : Nat) : ∀ j, j < 2 ^ 31 → dayF x e P d l j = -1 ∨ ∃ i, i < j ∧ dayF x e P d l j = nI i
  | 0, _ => Or.inl rfl
  | j + 1, hj => by
    rw [dayF]
    split
    · rcases dayF_m1 x e P d l j (by omega) with h | ⟨i, hi, h⟩
      · exact Or.inl h
      · exact Or.inr ⟨i, by omega, h⟩
    · split
      · exact Or.inr ⟨j, by omega, rfl⟩
      · rename_i q
        rcases dayF_m1 x e P d l j (by omega) with h | ⟨i, hi, h⟩
        · exact absurd h q
        · exact Or.inr ⟨i, by omega, h⟩
theorem Ma_lives_sp {x : List Int32 × List Int32 × List Int32} {t : Nat} {e : Nat → Nat} {P d l n : Nat} {μ : Mem} (hx : TXA x t μ) (h : MAN e P d μ) (he : EB e) (hP : P ≤ 99) (hd : d < 1500) (hl : l < 2 ^ 31) (hn : n ≤ 40) : ∃ μ', Ma_lives t (nI l) (nI n) μ = some μ' ∧ Off [8, 18, 19] μ μ' ∧ rd μ' 18 0 3 = nI (dayP x e P d n) ∧ rd μ' 18 0 7 = nI (dayB x e P d l n) ∧ rd μ' 18 0 8 = dayF x e P d l n := by
  have key : ∀ (k j F : Nat) (m : Mem), j + k = n → k < F → Off [8, 18, 19] μ m → MAN e (dayP x e P d j) (d + j) m → rd m 18 0 7 = nI (dayB x e P d l j) → rd m 18 0 8 = dayF x e P d l j → ∃ μ', Ma_lives_13L F t (nI l) (nI n) (nI j) m = some μ' ∧ Off [8, 18, 19] μ μ' ∧ rd μ' 18 0 3 = nI (dayP x e P d n) ∧ rd μ' 18 0 7 = nI (dayB x e P d l n) ∧ rd μ' 18 0 8 = dayF x e P d l n := by
    intro k
    induction k with
    | zero =>
      intro j F m hj hF ho hM h7 h8
      obtain ⟨F, rfl⟩ : ∃ F', F = F' + 1 := ⟨F - 1, by omega⟩
      have hj' : j = n := by omega
      subst hj'
      refine ⟨m, ?_, ho, hM.2.2.2.1, h7, h8⟩
      show Ma_lives_13 _ _ _ _ _ _ = _
      unfold Ma_lives_13
      rw [if_neg (nI_nlt (Nat.le_refl _) (by omega))]
    | succ k ih =>
      intro j F m hj hF ho hM h7 h8
      obtain ⟨F, rfl⟩ : ∃ F', F = F' + 1 := ⟨F - 1, by omega⟩
      obtain ⟨m1, s1, s2, s3, s4⟩ := Ma_day_sp (hx.off ho (by decide) (by decide)) hM he (dayP_le x e d hP j) (by omega) hl
      have g7 : rd m1 18 0 7 = nI (dayB x e P d l j) := by rw [s4 7 (by decide) (by decide)]; exact h7
      have g8 : rd m1 18 0 8 = dayF x e P d l j := by rw [s4 8 (by decide) (by decide)]; exact h8
      have e0 : Ma_lives_13L (F + 1) t (nI l) (nI n) (nI j) m = (if (if hotV x e (dayP x e P d j) (d + j) < l then (0 : Int32) else 1) = 0 then ( Ma_lives_59 (Ma_lives_13L F) t (nI l) (nI n) (nI j) m1) else ( nm (up m1 18 0 7 ((rd m1 18 0 7) + 1)) fun μ6 => if (rd μ6 18 0 8) = (-1) then ( Ma_lives_56 (Ma_lives_13L F) t (nI l) (nI n) (nI j) (nI j) μ6) else ( Ma_lives_56 (Ma_lives_13L F) t (nI l) (nI n) (nI j) (rd μ6 18 0 8) μ6))) := by
        show Ma_lives_13 _ _ _ _ _ _ = _
        unfold Ma_lives_13
        rw [if_pos (nI_lt (by omega) (by omega)), bnd2_of s1]
      rw [e0]
      have hB := dayB_le x e P d l j
      by_cases q : hotV x e (dayP x e P d j) (d + j) < l
      · rw [if_pos q, if_pos rfl]
        unfold Ma_lives_59
        rw [nm_eq, nI_1]
        exact ih (j + 1) F m1 (by omega) (by omega) (ho.tr s3) s2 (by rw [dayB, if_pos q]; exact g7) (by rw [dayF, if_pos q]; exact g8)
      · rw [if_neg q, if_neg (by decide), nm_eq, rd_up_j (by decide), g7, g8, nI_1]
        have MU : ∀ (m2 : Mem) (v w : Int32), m2 = up (up m1 18 0 7 v) 18 0 8 w → MAN e (dayP x e P d (j + 1)) (d + (j + 1)) m2 := by
          intro m2 v w em
          obtain ⟨a0, a1, a2, a3, a4, a5, a6⟩ := s2
          rw [em]
          exact ⟨a0, a1, a2, a3, a4, a5, a6⟩
        have eB : dayB x e P d l (j + 1) = dayB x e P d l j + 1 := by rw [dayB, if_neg q]
        have eF : dayF x e P d l (j + 1) = if dayF x e P d l j = -1 then nI j else dayF x e P d l j := by rw [dayF, if_neg q]
        unfold Ma_lives_56 Ma_lives_59
        simp only [nm_eq]
        rw [nI_1]
        by_cases q2 : dayF x e P d l j = -1
        · rw [if_pos q2] at eF ⊢
          exact ih (j + 1) F _ (by omega) (by omega) (((ho.tr s3).wr' (by decide)).wr' (by decide)) (MU _ _ _ rfl) (by rw [rd_up_j (by decide), rd_up_s, eB]) (by rw [rd_up_s, eF])
        · rw [if_neg q2] at eF ⊢
          exact ih (j + 1) F _ (by omega) (by omega) (((ho.tr s3).wr' (by decide)).wr' (by decide)) (MU _ _ _ rfl) (by rw [rd_up_j (by decide), rd_up_s, eB]) (by rw [rd_up_s, eF])
  unfold Ma_lives
  simp only [nm_eq]
  exact key n 0 1000 _ (by omega) (by omega) ((Off.rf.wr' (by decide)).wr' (by decide)) h rfl rfl
/-! ===== and in the reference ===== -/
def JS : List Nat := [13, 14, 15, 16, 17, 18] ++ JR
def JV : List Nat := [28, 29, 30] ++ JS
/-- the text x lies in the reference -/
def TXM (x : List Int32 × List Int32 × List Int32) (t : Nat) (ν : Mem) : Prop := ∃ B z k, TB B z t ν ∧ gText (tkT B z) (tkV B z) = some (k, some x)
theorem TXM.nx {x : List Int32 × List Int32 × List Int32} {t : Nat} {js : List Nat} {ν ν' : Mem} (h : TXM x t ν) (hn : NX js ν ν') : TXM x t ν' := by
  obtain ⟨B, z, k, ⟨h1, h2, h3, h4, h5⟩, h6⟩ := h
  exact ⟨B, z, k, ⟨h1, h2, by rw [hn.rd (by decide)]; exact h3, fun i hi => by rw [hn.rd (by decide)]; exact h4 i hi, h5⟩, h6⟩
/-- the reference's rows of one groom g who wears coat c, on day d, under rule r -/
def MRo (e : Nat → Nat) (g c r d : Nat) (ν : Mem) : Prop := g < 6 ∧ c < 6 ∧ r < 6 ∧ rd ν 4 0 g = nI (e 0) ∧ rd ν 5 0 (3 * g) = nI (e 1) ∧ rd ν 5 0 (3 * c + 1) = nI (e 2) ∧ rd ν 0 0 4 = nI r ∧ rd ν 0 0 7 = nI d ∧ e 5 = c ∧ e 6 = (if c = g then 1 else 0)
theorem MRo.nx {e : Nat → Nat} {g c r d : Nat} {js : List Nat} {ν ν' : Mem} (h : MRo e g c r d ν) (hn : NX js ν ν') (h4 : 4 ∉ js) (h7 : 7 ∉ js) : MRo e g c r d ν' := by
  obtain ⟨a1, a2, a3, a4, a5, a6, a7, a8, a9⟩ := h
  exact ⟨a1, a2, a3, by rw [hn.rd (by decide)]; exact a4, by rw [hn.rd (by decide)]; exact a5, by rw [hn.rd (by decide)]; exact a6, by rw [hn.2 4 h4]; exact a7, by rw [hn.2 7 h7]; exact a8, a9⟩
theorem M_thingOf_sp {c T : Nat} {ν : Mem} (hc : c < 6) (h : rd ν 5 0 (3 * c + 1) = nI T) : M_thingOf (nI c) ν = some (nI T) := by
  unfold M_thingOf
  rw [litI 3, pk_mul, nI_1, chk_eq _ (inb_nI (by omega) (by omega)), ix_nI (by omega), h]
theorem M_says_83_sp {x : List Int32 × List Int32 × List Int32} {r w : Nat} {f : Nat → Int32} {y : Int32} {ν : Mem} (hx : TXM x r ν) (hw : w < 3) (h4 : rd ν 0 0 4 = nI r) (hf : ∀ i, i < 5 → rd ν 0 0 (13 + i) = f i) (hy : f 5 = y) : ∃ ν', M_says_83 (nI w) y ν = some (nI (cl (tv (pick3 w x) f)), ν') ∧ NX JS ν ν' := by
  have n1 : NX [18] ν (up ν 0 0 18 y) := NX.wr (by decide)
  obtain ⟨B, z, k, hB, hg⟩ := hx.nx n1
  obtain ⟨r', v, ν', e1, e2, e3, e4⟩ := M_read_sp hB hw
  rw [hg] at e1
  cases e1
  obtain ⟨-, e4⟩ : _ ∧ ∀ st, exc (nmM (up ν 0 0 18 y)) (pick3 w x) st = v :: st := e4
  unfold M_says_83
  simp only [nm_eq]
  rw [rd_up_j (by decide), h4, bnd2_of e2, M_within_cl, ← tv_of (e4 []), tv_cong (g := f) (pick3 w x) ?_]
  · exact ⟨ν', rfl, (n1.mono (by decide)).tr (e3.mono (by decide))⟩
  · intro i hi
    show rd (up ν 0 0 18 y) 0 0 (13 + i) = f i
    by_cases q : i = 5
    · subst q; rw [rd_up_s, hy]
    · rw [rd_up_j (by omega)]; exact hf i (by omega)
theorem M_says_sp {x : List Int32 × List Int32 × List Int32} {e : Nat → Nat} {g c r d w P : Nat} {ν : Mem} (hx : TXM x r ν) (h : MRo e g c r d ν) (hw : w < 3) : ∃ ν', M_says (nI w) (nI g) (nI c) (nI P) ν = some (nI (cl (tv (pick3 w x) (if w = 2 then nmF e else nmE e P d))), ν') ∧ NX JS ν ν' := by
  obtain ⟨a1, a2, a3, a4, a5, a6, a7, a8, a9, a10⟩ := h
  unfold M_says M_says_21 M_says_50 M_says_64
  rw [bnd_of (M_thingOf_sp a2 a6)]
  simp only [nm_eq]
  rw [litI 3, pk_mul 3 g, chk_eq _ (inb_nI (by omega) (by omega)), chk_eq _ (inb_nI (by omega) (by omega)), ix_nI (by omega), litI 2, litI 0, litI 1]
  simp only [nI_eq' (show w < 2 ^ 31 by omega) (show 2 < 2 ^ 31 by omega), nI_eq' (show c < 2 ^ 31 by omega) (show g < 2 ^ 31 by omega), rd_up_f (show (5 : Nat) ≠ 0 by decide), a5]
  by_cases q : w = 2
  · subst q
    simp only [if_true]
    obtain ⟨m, em⟩ : ∃ m, m = up (up (up (up (up ν 0 0 13 (nI (e 2))) 0 0 14 (nI 0)) 0 0 15 (nI (e 1))) 0 0 16 (nI 0)) 0 0 17 (nI 0) := ⟨_, rfl⟩
    have nx : NX JS ν m := by
      rw [em]
      exact ((((NX.rf.wr' (by decide)).wr' (by decide)).wr' (by decide)).wr' (by decide)).wr' (by decide)
    rw [← em]
    obtain ⟨ν', s1, s2⟩ := M_says_83_sp (w := 2) (f := nmF e) (y := nI 0) (hx.nx nx) (by decide) (by rw [nx.2 4 (by decide)]; exact a7) (fun i hi => by
      rw [em]
      match i, hi with
      | 0, _ => exact rfl
      | 1, _ => exact rfl
      | 2, _ => exact rfl
      | 3, _ => exact rfl
      | 4, _ => exact rfl) rfl
    exact ⟨ν', s1, nx.tr s2⟩
  · simp only [if_neg q]
    obtain ⟨m, em⟩ : ∃ m, m = up (up (up (up (up ν 0 0 13 (nI (e 2))) 0 0 14 (nI P)) 0 0 15 (nI (e 1))) 0 0 16 (nI d)) 0 0 17 (nI c) := ⟨_, rfl⟩
    have nx : NX JS ν m := by
      rw [em]
      exact ((((NX.rf.wr' (by decide)).wr' (by decide)).wr' (by decide)).wr' (by decide)).wr' (by decide)
    have e7 : rd (up (up (up ν 0 0 13 (nI (e 2))) 0 0 14 (nI P)) 0 0 15 (nI (e 1))) 0 0 7 = nI d := by
      rw [rd_up_j (by decide), rd_up_j (by decide), rd_up_j (by decide)]; exact a8
    rw [e7, ← em]
    have fin : ∀ y, y = e 6 → ∃ ν', M_says_83 (nI w) (nI y) m = some (nI (cl (tv (pick3 w x) (nmE e P d))), ν') ∧ NX JS ν ν' := by
      intro y hy
      obtain ⟨ν', s1, s2⟩ := M_says_83_sp (w := w) (f := nmE e P d) (y := nI y) (hx.nx nx) hw (by rw [nx.2 4 (by decide)]; exact a7) (fun i hi => by
        rw [em]
        match i, hi with
        | 0, _ => exact rfl
        | 1, _ => exact rfl
        | 2, _ => exact rfl
        | 3, _ => exact rfl
        | 4, _ => exact congrArg nI a9.symm) (by rw [hy]; rfl)
      exact ⟨ν', s1, nx.tr s2⟩
    by_cases q2 : c = g
    · rw [if_pos q2] at a10 ⊢
      exact fin 1 a10.symm
    · rw [if_neg q2] at a10 ⊢
      exact fin 0 a10.symm
theorem M_heatsOf_sp {x : List Int32 × List Int32 × List Int32} {e : Nat → Nat} {g c r d P : Nat} {ν : Mem} (hx : TXM x r ν) (h : MRo e g c r d ν) (he : EB e) (hd : d < 2000) : ∃ ν', M_heatsOf (nI g) (nI c) (nI P) ν = some (nI (heatV x e P d), ν') ∧ NX JS ν ν' := by
  obtain ⟨m, s1, s2⟩ := M_says_sp (w := 0) (P := P) hx h (by decide)
  have s1 : M_says 0 (nI g) (nI c) (nI P) ν = some (nI (cl (tv (pick3 0 x) (nmE e P d))), m) := s1
  obtain ⟨b0, b1, b2, b5, b6⟩ := he
  obtain ⟨a1, a2, a3, a4, a5, a6, a7, a8, -⟩ := h.nx s2 (by decide) (by decide)
  unfold M_heatsOf
  simp only [nm_eq]
  rw [chk_eq _ (inb_nI a1 (by omega)), ix_nI (by omega), h.2.2.2.1, bnd2_of s1]
  have hr := cl_le (tv (pick3 0 x) (nmE e P d))
  unfold heatV
  generalize cl (tv (pick3 0 x) (nmE e P d)) = r0 at hr
  unfold M_heatsOf_108
  simp only [nm_eq, M_within_cl]
  rw [litI 3, pk_mul 3 g, chk_eq _ (inb_nI (by omega) (by omega)), ix_nI (by omega), a5, litI 2, litI 4, litI 1, litI 5, litI 0, a8, pk_div (by omega) (by omega) (by omega), nI_add, pk_mul, irm_nI (by omega) (by omega) (by omega), cl_sub (by omega) (by omega), cl_nI (by omega), cl_nI (by omega), cl_nI (by omega), cl_nI (by omega), cl_nI (by omega)]
  simp only [nI_eq' (show e 0 < 2 ^ 31 by omega) (show 1 < 2 ^ 31 by omega), nI_eq' (show e 0 < 2 ^ 31 by omega) (show 2 < 2 ^ 31 by omega), nI_eq' (show e 0 < 2 ^ 31 by omega) (show 3 < 2 ^ 31 by omega), nI_eq' (show e 0 < 2 ^ 31 by omega) (show 4 < 2 ^ 31 by omega), nI_eq' (show e 0 < 2 ^ 31 by omega) (show 5 < 2 ^ 31 by omega), nI_eq' (show d % 4 < 2 ^ 31 by omega) (show 1 < 2 ^ 31 by omega)]
  refine ⟨m, ?_, s2⟩
  unfold heatW
  by_cases k1 : e 0 = 1
  · simp only [if_pos k1]
  · simp only [if_neg k1]
    by_cases k2 : e 0 = 2
    · have k3 : ¬ e 0 = 3 := by omega
      simp only [if_pos k2, if_neg k3]
      rw [show min (r0 / 2) 99 = r0 / 2 by omega]
    · simp only [if_neg k2]
      by_cases k3 : e 0 = 3
      · simp only [if_pos k3]
        split
        · rfl
        · rfl
      · simp only [if_neg k3]
        by_cases k4 : e 0 = 4
        · simp only [if_pos k4]
        · simp only [if_neg k4]
          by_cases k5 : e 0 = 5
          · simp only [if_pos k5]
          · simp only [if_neg k5]
            rw [show min r0 99 = r0 by omega]
theorem M_calmsOf_sp {x : List Int32 × List Int32 × List Int32} {e : Nat → Nat} {g c r d P : Nat} {ν : Mem} (hx : TXM x r ν) (h : MRo e g c r d ν) (he : EB e) (hd : d < 2000) : ∃ ν', M_calmsOf (nI g) (nI c) (nI P) ν = some (nI (calmV x e P d), ν') ∧ NX JS ν ν' := by
  obtain ⟨m, s1, s2⟩ := M_says_sp (w := 1) (P := P) hx h (by decide)
  have s1 : M_says 1 (nI g) (nI c) (nI P) ν = some (nI (cl (tv (pick3 1 x) (nmE e P d))), m) := s1
  obtain ⟨b0, b1, b2, b5, b6⟩ := he
  obtain ⟨a1, a2, a3, a4, a5, a6, a7, a8, -⟩ := h.nx s2 (by decide) (by decide)
  unfold M_calmsOf
  simp only [nm_eq]
  rw [chk_eq _ (inb_nI a1 (by omega)), ix_nI (by omega), h.2.2.2.1, bnd_of (M_thingOf_sp a2 h.2.2.2.2.2.1), bnd2_of s1]
  have hr := cl_le (tv (pick3 1 x) (nmE e P d))
  unfold calmV
  generalize cl (tv (pick3 1 x) (nmE e P d)) = r0 at hr
  have e41 : ∀ y, y ≤ 99 → M_calmsOf_41 (nI g) (nI (e 0)) (nI (e 2)) (nI r0) (nI y) m = some (nI (if e 0 = 1 then y else if e 0 = 2 then min (r0 + 2) 99 else if e 0 = 3 then min (y + e 1) 99 else if e 0 = 4 then (if e 2 = 7 then 0 else if e 2 = 13 then 0 else min (r0 + 2) 99) else if e 0 = 5 then e 2 else r0), m) := by
    intro y hy
    unfold M_calmsOf_41 M_calmsOf_131
    simp only [nm_eq, M_within_cl]
    rw [litI 3, pk_mul 3 g, chk_eq _ (inb_nI (by omega) (by omega)), ix_nI (by omega), a5, litI 2, litI 4, litI 1, litI 5, litI 7, litI 13, litI 0, nI_add, nI_add, cl_nI (by omega), cl_nI (by omega), cl_nI (by omega), cl_nI (by omega), cl_nI (by omega), cl_nI (by omega)]
    simp only [nI_eq' (show e 0 < 2 ^ 31 by omega) (show 1 < 2 ^ 31 by omega), nI_eq' (show e 0 < 2 ^ 31 by omega) (show 2 < 2 ^ 31 by omega), nI_eq' (show e 0 < 2 ^ 31 by omega) (show 3 < 2 ^ 31 by omega), nI_eq' (show e 0 < 2 ^ 31 by omega) (show 4 < 2 ^ 31 by omega), nI_eq' (show e 0 < 2 ^ 31 by omega) (show 5 < 2 ^ 31 by omega), nI_eq' (show e 2 < 2 ^ 31 by omega) (show 7 < 2 ^ 31 by omega), nI_eq' (show e 2 < 2 ^ 31 by omega) (show 13 < 2 ^ 31 by omega)]
    rw [show min y 99 = y by omega, show min r0 99 = r0 by omega, show min (e 2) 99 = e 2 by omega]
    by_cases k1 : e 0 = 1
    · simp only [if_pos k1]
    · simp only [if_neg k1]
      by_cases k2 : e 0 = 2
      · have k3 : ¬ e 0 = 3 := by omega
        simp only [if_pos k2, if_neg k3]
      · simp only [if_neg k2]
        by_cases k3 : e 0 = 3
        · simp only [if_pos k3]
        · simp only [if_neg k3]
          by_cases k4 : e 0 = 4
          · simp only [if_pos k4]
            split
            · rfl
            · split <;> rfl
          · simp only [if_neg k4]
            split <;> rfl
  refine ⟨m, ?_, s2⟩
  unfold calmW
  rw [litI 2, irm_nI (by omega) (by omega) (by omega), pk_div (by omega) (by omega) (by omega), e41 _ hr, e41 _ (by omega)]
  rw [show ((0 : Int32) = nI 0) from rfl]
  simp only [nI_eq' (show e 2 % 2 < 2 ^ 31 by omega) (show 0 < 2 ^ 31 by omega)]
  by_cases q : e 2 % 2 = 0
  · simp only [if_pos q]
  · simp only [if_neg q]
theorem M_feelsOf_sp {x : List Int32 × List Int32 × List Int32} {e : Nat → Nat} {g c r d : Nat} {ν : Mem} (hx : TXM x r ν) (h : MRo e g c r d ν) (b0 : e 0 < 2 ^ 31) : ∃ ν', M_feelsOf (nI g) (nI c) ν = some (nI (feelV x e), ν') ∧ NX JS ν ν' := by
  obtain ⟨m, s1, s2⟩ := M_says_sp (w := 2) (P := 0) hx h (by decide)
  have s1 : M_says 2 (nI g) (nI c) 0 ν = some (nI (cl (tv (pick3 2 x) (nmF e))), m) := s1
  obtain ⟨a1, a2, a3, a4, a5, a6, a7, a8, -⟩ := h.nx s2 (by decide) (by decide)
  unfold M_feelsOf
  simp only [nm_eq]
  rw [chk_eq _ (inb_nI a1 (by omega)), ix_nI (by omega), h.2.2.2.1, bnd2_of s1]
  have hr := cl_le (tv (pick3 2 x) (nmF e))
  unfold feelV
  generalize cl (tv (pick3 2 x) (nmF e)) = r0 at hr
  unfold M_feelsOf_74
  simp only [nm_eq, M_within_cl]
  rw [litI 3, litI 2, litI 4, litI 1, litI 5, litI 10, litI 0, pk_mul, irm_nI (by omega) (by omega) (by omega), nI_add, cl_nI (by omega), cl_nI (by omega), cl_nI (by omega), cl_nI (by omega), cl_nI (by omega)]
  simp only [nI_eq' (show e 0 < 2 ^ 31 by omega) (show 2 < 2 ^ 31 by omega), nI_eq' (show e 0 < 2 ^ 31 by omega) (show 3 < 2 ^ 31 by omega), nI_eq' (show e 0 < 2 ^ 31 by omega) (show 4 < 2 ^ 31 by omega), nI_eq' (show e 0 < 2 ^ 31 by omega) (show 5 < 2 ^ 31 by omega), nI_lt' (show r0 < 2 ^ 31 by omega) (show 5 < 2 ^ 31 by omega)]
  refine ⟨m, ?_, s2⟩
  unfold feelW
  rw [show min (r0 % 10) 99 = r0 % 10 by omega, show min (r0 % 10 + 1) 99 = r0 % 10 + 1 by omega, show min r0 99 = r0 by omega]
  by_cases k2 : e 0 = 2
  · simp only [if_pos k2]
  · simp only [if_neg k2]
    by_cases k3 : e 0 = 3
    · have k4 : ¬ e 0 = 4 := by omega
      simp only [if_pos k3, if_neg k4]
    · simp only [if_neg k3]
      by_cases k4 : e 0 = 4
      · simp only [if_pos k4]
      · simp only [if_neg k4]
        by_cases k5 : e 0 = 5
        · simp only [if_pos k5]
          split <;> rfl
        · simp only [if_neg k5]
theorem M_lives_sp {x : List Int32 × List Int32 × List Int32} {e : Nat → Nat} {g c r d P l n : Nat} {ν : Mem} (hx : TXM x r ν) (h : MRo e g c r d ν) (he : EB e) (hP : P ≤ 99) (hd : d < 1500) (hl : l < 2 ^ 31) (hn : n ≤ 40) (h8 : rd ν 0 0 8 = nI l) (hT : rd ν 5 0 (3 * g + 2) = nI P) : ∃ ν', M_lives (nI g) (nI c) (nI n) ν = some ν' ∧ NX JV ν ν' ∧ rd ν' 0 0 28 = nI (dayP x e P d n) ∧ rd ν' 0 0 29 = nI (dayB x e P d l n) ∧ rd ν' 0 0 30 = dayF x e P d l n := by
  have key : ∀ (k j F : Nat) (m : Mem), j + k = n → k < F → NX (7 :: JV) ν m → rd m 0 0 7 = nI (d + j) → rd m 0 0 28 = nI (dayP x e P d j) → rd m 0 0 29 = nI (dayB x e P d l j) → rd m 0 0 30 = dayF x e P d l j → ∃ ν', M_lives_33L F (nI g) (nI c) (nI n) (nI d) (nI j) m = some ν' ∧ NX JV ν ν' ∧ rd ν' 0 0 28 = nI (dayP x e P d n) ∧ rd ν' 0 0 29 = nI (dayB x e P d l n) ∧ rd ν' 0 0 30 = dayF x e P d l n := by
    intro k
    induction k with
    | zero =>
      intro j F m hj hF ho h7 h28 h29 h30
      obtain ⟨F, rfl⟩ : ∃ F', F = F' + 1 := ⟨F - 1, by omega⟩
      have hj' : j = n := by omega
      subst hj'
      refine ⟨up m 0 0 7 (nI d), ?_, ⟨fun f i q => ?_, fun i q => ?_⟩, ?_, ?_, ?_⟩
      · show M_lives_33 _ _ _ _ _ _ _ = _
        unfold M_lives_33
        rw [if_neg (nI_nlt (Nat.le_refl _) (by omega)), nm_eq]
      · rw [up_off _ _ (fun z => q z.1)]; exact ho.1 f i q
      · by_cases q7 : i = 7
        · subst q7; rw [rd_up_s]; exact h.2.2.2.2.2.2.2.1.symm
        · rw [rd_up_j q7]; exact ho.2 i (fun w => by rcases List.mem_cons.mp w with w | w; exact q7 w; exact q w)
      · rw [rd_up_j (by decide)]; exact h28
      · rw [rd_up_j (by decide)]; exact h29
      · rw [rd_up_j (by decide)]; exact h30
    | succ k ih =>
      intro j F m hj hF ho h7 h28 h29 h30
      obtain ⟨F, rfl⟩ : ∃ F', F = F' + 1 := ⟨F - 1, by omega⟩
      have RO : ∀ m', NX (7 :: JV) ν m' → rd m' 0 0 7 = nI (d + j) → MRo e g c r (d + j) m' := by
        intro m' ho h7
        obtain ⟨a1, a2, a3, a4, a5, a6, a7, a8, a9⟩ := h
        exact ⟨a1, a2, a3, by rw [ho.rd (by decide)]; exact a4, by rw [ho.rd (by decide)]; exact a5, by rw [ho.rd (by decide)]; exact a6, by rw [ho.2 4 (by decide)]; exact a7, h7, a9⟩
      have hPj := dayP_le x e d hP j
      obtain ⟨m1, s1, s2⟩ := M_heatsOf_sp (P := dayP x e P d j) (hx.nx ho) (RO m ho h7) he (by omega)
      have hh := heatV_le x e (dayP x e P d j) (d + j)
      have hv := hotV_le x e (dayP x e P d j) (d + j)
      obtain ⟨m2, em2⟩ : ∃ m2, m2 = up m1 0 0 28 (nI (hotV x e (dayP x e P d j) (d + j))) := ⟨_, rfl⟩
      have o1 : NX (7 :: JV) ν m1 := ho.tr (s2.mono (by decide))
      have o2 : NX (7 :: JV) ν m2 := by rw [em2]; exact o1.wr' (by decide)
      have e7 : rd m2 0 0 7 = nI (d + j) := by rw [em2, rd_up_j (by decide), s2.2 7 (by decide)]; exact h7
      have e28 : rd m2 0 0 28 = nI (hotV x e (dayP x e P d j) (d + j)) := by rw [em2, rd_up_s]
      have e29 : rd m2 0 0 29 = nI (dayB x e P d l j) := by rw [em2, rd_up_j (by decide), s2.2 29 (by decide)]; exact h29
      have e30 : rd m2 0 0 30 = dayF x e P d l j := by rw [em2, rd_up_j (by decide), s2.2 30 (by decide)]; exact h30
      have e0 : M_lives_33L (F + 1) (nI g) (nI c) (nI n) (nI d) (nI j) m = (if (rd m2 0 0 28) < (rd m2 0 0 8) then ( M_lives_106 (M_lives_33L F) (nI g) (nI c) (nI n) (nI d) (nI j) m2) else ( nm (up m2 0 0 29 ((rd m2 0 0 29) + 1)) fun μ10 => if (rd μ10 0 0 30) = (-1) then ( M_lives_103 (M_lives_33L F) (nI g) (nI c) (nI n) (nI d) (nI j) (nI j) μ10) else ( M_lives_103 (M_lives_33L F) (nI g) (nI c) (nI n) (nI d) (nI j) (rd μ10 0 0 30) μ10))) := by
        show M_lives_33 _ _ _ _ _ _ _ = _
        unfold M_lives_33
        rw [if_pos (nI_lt (by omega) (by omega)), h28, bnd2_of s1]
        simp only [nm_eq]
        rw [nI_add, M_within_cl, cl_nI (by omega), show min (dayP x e P d j + heatV x e (dayP x e P d j) (d + j)) 99 = hotV x e (dayP x e P d j) (d + j) from rfl, ← em2]
      have tail : ∀ (m3 : Mem), NX (7 :: JV) ν m3 → rd m3 0 0 7 = nI (d + j) → rd m3 0 0 28 = nI (hotV x e (dayP x e P d j) (d + j)) → rd m3 0 0 29 = nI (dayB x e P d l (j + 1)) → rd m3 0 0 30 = dayF x e P d l (j + 1) → ∃ ν', M_lives_106 (M_lives_33L F) (nI g) (nI c) (nI n) (nI d) (nI j) m3 = some ν' ∧ NX JV ν ν' ∧ rd ν' 0 0 28 = nI (dayP x e P d n) ∧ rd ν' 0 0 29 = nI (dayB x e P d l n) ∧ rd ν' 0 0 30 = dayF x e P d l n := by
        intro m3 o3 g7 g28 g29 g30
        obtain ⟨m4, t1, t2⟩ := M_calmsOf_sp (P := hotV x e (dayP x e P d j) (d + j)) (hx.nx o3) (RO m3 o3 g7) he (by omega)
        have hc := calmV_le x he (hotV x e (dayP x e P d j) (d + j)) (d + j)
        unfold M_lives_106
        rw [g28, bnd2_of t1]
        simp only [nm_eq]
        rw [M_within_cl, cl_sub hv (by omega), rd_up_j (by decide), t2.2 7 (by decide), g7, nI_1, nI_1]
        refine ih (j + 1) F _ (by omega) (by omega) (((o3.tr (t2.mono (by decide))).wr' (by decide)).wr' (by decide)) (by rw [rd_up_s]; rfl) (by rw [rd_up_j (by decide), rd_up_s]; rfl) ?_ ?_
        · rw [rd_up_j (by decide), rd_up_j (by decide), t2.2 29 (by decide)]; exact g29
        · rw [rd_up_j (by decide), rd_up_j (by decide), t2.2 30 (by decide)]; exact g30
      rw [e0, e28, o2.2 8 (by decide), h8]
      by_cases q : hotV x e (dayP x e P d j) (d + j) < l
      · rw [if_pos (nI_lt q hl)]
        exact tail m2 o2 e7 e28 (by rw [dayB, if_pos q]; exact e29) (by rw [dayF, if_pos q]; exact e30)
      · rw [if_neg (nI_nlt (by omega) (by omega)), nm_eq, rd_up_j (by decide), e29, e30, nI_1]
        have eB : dayB x e P d l (j + 1) = dayB x e P d l j + 1 := by rw [dayB, if_neg q]
        have eF : dayF x e P d l (j + 1) = if dayF x e P d l j = -1 then nI j else dayF x e P d l j := by rw [dayF, if_neg q]
        unfold M_lives_103
        simp only [nm_eq]
        by_cases q2 : dayF x e P d l j = -1
        · rw [if_pos q2] at eF ⊢
          exact tail _ ((o2.wr' (by decide)).wr' (by decide)) (by rw [rd_up_j (by decide), rd_up_j (by decide)]; exact e7) (by rw [rd_up_j (by decide), rd_up_j (by decide)]; exact e28) (by rw [rd_up_j (by decide), rd_up_s, eB]) (by rw [rd_up_s, eF])
        · rw [if_neg q2] at eF ⊢
          exact tail _ ((o2.wr' (by decide)).wr' (by decide)) (by rw [rd_up_j (by decide), rd_up_j (by decide)]; exact e7) (by rw [rd_up_j (by decide), rd_up_j (by decide)]; exact e28) (by rw [rd_up_j (by decide), rd_up_s, eB]) (by rw [rd_up_s, eF])
  unfold M_lives
  simp only [nm_eq]
  obtain ⟨a1, -, -, -, -, -, -, a8, -⟩ := h
  rw [a8, litI 3, pk_mul, litI 2, nI_add, chk_eq _ (inb_nI (by omega) (by omega)), ix_nI (by omega), hT]
  refine key n 0 1000 _ (by omega) (by omega) (((NX.rf.wr' (by decide)).wr' (by decide)).wr' (by decide)) ?_ ?_ ?_ ?_
  · rw [rd_up_j (by decide), rd_up_j (by decide), rd_up_j (by decide)]; exact a8
  · rw [rd_up_j (by decide), rd_up_j (by decide), rd_up_s]; rfl
  · rw [rd_up_j (by decide), rd_up_s]; rfl
  · rw [rd_up_s]; rfl
