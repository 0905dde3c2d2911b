/-! ===== the class's reckoning with a text's codes ===== -/
def StkR (t : Nat) : List Int32 → Mem → Prop
  | [], _ => True
  | a :: r, μ => rd μ 8 t r.length = a ∧ StkR t r μ
theorem StkR.up {t j : Nat} {v : Int32} {μ : Mem} : ∀ {st : List Int32}, StkR t st μ → st.length ≤ j → StkR t st (up μ 8 t j v)
  | [], _, _ => trivial
  | a :: r, h, hj => by
    have hj : r.length + 1 ≤ j := hj
    exact ⟨by rw [rd_up_j (by omega)]; exact h.1, StkR.up h.2 (by omega)⟩
theorem stp_len (f : Nat → Int32) (c : Int32) (st : List Int32) : (stp f c st).length ≤ st.length + 1 := by
  unfold stp
  split
  · split
    · split <;> simp
    · split
      · split <;> simp
      · split <;> simp
  · simp
theorem Te_step_sp {t p h pos : Nat} {f : Nat → Int32} {c : Int32} {st : List Int32} {μ : Mem} (k : Nat → Int32 → Int32 → Int32 → Mem → Option (Int32 × Mem)) (hp : p < 3) (hf : ∀ i, i < 6 → rd μ 19 0 i = f i) (hst : StkR t st μ) (hh : st.length = h) (hpos : pos < 160) (hhp : h ≤ pos) (hend : rd μ 7 t (p + 1) = nI h → True) {e : Nat} (he : rd μ 7 t (p + 1) = nI e) (hpe : pos < e) (he2 : e ≤ 160) (hc : rd μ 6 t pos = c) : ∃ μ', Te_answer_10 k t (nI p) (nI h) (nI pos) μ = k t (nI p) (nI (stp f c st).length) (nI (pos + 1)) μ' ∧ StkR t (stp f c st) μ' ∧ Off [8] μ μ' := by
  have low : ∀ {n : Nat} (q : n ≤ h) (m : Nat), ∀ (v : Int32) (r : List Int32) (μ : Mem), StkR t r μ → r.length = m → StkR t (v :: r) (up μ 8 t m v) := by
    intro n q m v r μ h1 h2
    exact ⟨by rw [h2]; exact rd_up_s _ _ _ _ _, h1.up (by omega)⟩
  unfold Te_answer_10
  rw [nI_1, chk_eq _ (inb_nI (by omega) (by omega)), ix_nI (by omega), he, if_pos (nI_lt hpe (by omega)), chk_eq _ (inb_nI hpos (by omega)), ix_nI (by omega), hc]
  simp only [nm_eq]
  have e145 : c ≠ -100 → c ≠ -11 → c < -6 → ∃ μ', Te_answer_145 k t (nI p) (nI h) (nI pos) c μ = k t (nI p) (nI (stp f c st).length) (nI (pos + 1)) μ' ∧ StkR t (stp f c st) μ' ∧ Off [8] μ μ' := by
    intro c1 c2 c3
    unfold Te_answer_145 Te_answer_183
    match st, hst, hh with
    | [], hst, hh =>
      have e : stp f c [] = [] := by unfold stp; rw [if_pos c3, if_neg c1, if_neg c2]
      have : h = 0 := hh.symm
      subst this
      rw [if_pos (by decide), nm_eq, nI_1, e]
      exact ⟨μ, rfl, trivial, Off.rf⟩
    | [a], hst, hh =>
      have e : stp f c [a] = [a] := by unfold stp; rw [if_pos c3, if_neg c1, if_neg c2]
      have : h = 1 := hh.symm
      subst this
      rw [if_pos (by decide), nm_eq, nI_1, e]
      exact ⟨μ, rfl, hst, Off.rf⟩
    | b :: a :: r, hst, hh =>
      have e : stp f c (b :: a :: r) = Te_joined (-c) a b :: r := by unfold stp; rw [if_pos c3, if_neg c1, if_neg c2]
      have hh : r.length + 1 + 1 = h := hh
      obtain ⟨s1, s2, s3⟩ := hst
      have s1 : rd μ 8 t (r.length + 1) = b := s1
      simp only [nm_eq]
      rw [litI 2, if_neg (nI_nlt (by omega) (by omega)), nI_sub' (by omega), litI 1, nI_sub' (by omega), chk_eq _ (inb_nI (by omega) (by omega)), chk_eq _ (inb_nI (by omega) (by omega)), chk_eq _ (inb_nI (by omega) (by omega)), ix_nI (by omega), ix_nI (by omega), show h - 2 = r.length by omega, s2, show h - 1 = r.length + 1 by omega, s1, e, nI_add]
      rw [show nI h + -nI 1 = nI (r.length + 1) from by rw [← Int32.sub_eq_add_neg, nI_sub' (by omega)]; congr 1; omega]
      exact ⟨_, rfl, low (n := h) (Nat.le_refl _) _ _ _ _ s3 rfl, Off.rf.wr' (by decide)⟩
  have e106 : c ≠ -100 → c < -6 → ∃ μ', Te_answer_106 k t (nI p) (nI h) (nI pos) c μ = k t (nI p) (nI (stp f c st).length) (nI (pos + 1)) μ' ∧ StkR t (stp f c st) μ' ∧ Off [8] μ μ' := by
    intro c1 c3
    unfold Te_answer_106
    by_cases c2 : c = -11
    · rw [if_pos c2]
      match st, hst, hh with
      | [], hst, hh =>
        have e : stp f c [] = [] := by unfold stp; rw [if_pos c3, if_neg c1, if_pos c2]
        have : h = 0 := hh.symm
        subst this
        rw [if_pos (by decide)]
        unfold Te_answer_145 Te_answer_183
        rw [if_pos (by decide), nm_eq, nI_1, e]
        exact ⟨μ, rfl, trivial, Off.rf⟩
      | a :: r, hst, hh =>
        have e : stp f c (a :: r) = (if a = 0 then 1 else 0) :: r := by unfold stp; rw [if_pos c3, if_neg c1, if_pos c2]
        have hh : r.length + 1 = h := hh
        have s1 := hst.1
        rw [litI 1, if_neg (nI_nlt (by omega) (by omega)), nI_sub' (by omega), chk_eq _ (inb_nI (by omega) (by omega)), ix_nI (by omega), show h - 1 = r.length by omega, s1, e]
        unfold Te_answer_141 Te_answer_183
        simp only [nm_eq]
        rw [chk_eq _ (inb_nI (by omega) (by omega)), chk_eq _ (inb_nI (by omega) (by omega)), ix_nI (by omega), nI_1, show (if a = 0 then (1 : Int32) else 0) = (if a = 0 then nI 1 else 0) from rfl]
        by_cases ea : a = 0
        · rw [if_pos ea, if_pos ea]
          exact ⟨_, by rw [show h = (nI 1 :: r).length from hh.symm], low (n := h) (Nat.le_refl _) _ _ _ _ hst.2 rfl, Off.rf.wr' (by decide)⟩
        · rw [if_neg ea, if_neg ea]
          exact ⟨_, by rw [show h = ((0 : Int32) :: r).length from hh.symm], low (n := h) (Nat.le_refl _) _ _ _ _ hst.2 rfl, Off.rf.wr' (by decide)⟩
    · rw [if_neg c2]
      exact e145 c1 c2 c3
  have e74 : c < -6 → ∃ μ', Te_answer_74 k t (nI p) (nI h) (nI pos) c μ = k t (nI p) (nI (stp f c st).length) (nI (pos + 1)) μ' ∧ StkR t (stp f c st) μ' ∧ Off [8] μ μ' := by
    intro c3
    unfold Te_answer_74
    by_cases c1 : c = -100
    · rw [if_pos c1]
      match st, hst, hh with
      | [], hst, hh =>
        have e : stp f c [] = [] := by unfold stp; rw [if_pos c3, if_pos c1]
        have : h = 0 := hh.symm
        subst this
        rw [if_pos (by decide)]
        unfold Te_answer_106
        rw [if_neg (by rw [c1]; decide)]
        unfold Te_answer_145 Te_answer_183
        rw [if_pos (by decide), nm_eq, nI_1, e]
        exact ⟨μ, rfl, trivial, Off.rf⟩
      | a :: r, hst, hh =>
        have e : stp f c (a :: r) = (-a) :: r := by unfold stp; rw [if_pos c3, if_pos c1]
        have hh : r.length + 1 = h := hh
        have s1 := hst.1
        rw [litI 1, if_neg (nI_nlt (by omega) (by omega)), nI_sub' (by omega), chk_eq _ (inb_nI (by omega) (by omega)), chk_eq _ (inb_nI (by omega) (by omega)), ix_nI (by omega), show h - 1 = r.length by omega, s1, e]
        unfold Te_answer_183
        simp only [nm_eq]
        rw [nI_1]
        exact ⟨_, by rw [show h = ((-a) :: r).length from hh.symm], low (n := h) (Nat.le_refl _) _ _ _ _ hst.2 rfl, Off.rf.wr' (by decide)⟩
    · rw [if_neg c1]
      exact e106 c1 c3
  by_cases c3 : c < -6
  · rw [if_pos c3]
    exact e74 c3
  · rw [if_neg c3, litI 160, if_pos (nI_lt (by omega) (by omega))]
    by_cases c4 : c < 0
    · have e : stp f c st = f (ix ((-1) - c)) :: st := by unfold stp; rw [if_neg c3, if_pos c4]
      have hi := ix_name c3 c4
      have hin : inb ((-1) - c) 6 := by
        have a1 : ¬ c.toInt < -6 := fun q => c3 (Int32.lt_iff_toInt_lt.mpr (by rw [show (-6 : Int32).toInt = -6 from by decide]; exact q))
        have a2 := toI_neg c4
        have key : ∀ v : Nat, v < 6 → inb ((-1) - Int32.ofInt (-1 - (v : Int))) 6 := by decide +kernel
        obtain ⟨v, hv, ev⟩ : ∃ v : Nat, v < 6 ∧ c.toInt = -1 - (v : Int) := ⟨(-1 - c.toInt).toNat, by omega, by omega⟩
        have e : c = Int32.ofInt (-1 - (v : Int)) := by rw [← ev, Int32.ofInt_toInt]
        rw [e]
        exact key v hv
      rw [if_pos c4, chk_eq _ hin, hf _ hi, e]
      unfold Te_answer_67 Te_answer_183
      simp only [nm_eq]
      rw [chk_eq _ (inb_nI (by omega) (by omega)), nI_1, nI_1, ix_nI (by omega)]
      exact ⟨_, by rw [show h + 1 = (f (ix ((-1) - c)) :: st).length from by rw [List.length_cons, hh]], low (n := h) (Nat.le_refl _) _ _ _ _ hst hh, Off.rf.wr' (by decide)⟩
    · have e : stp f c st = c :: st := by unfold stp; rw [if_neg c3, if_neg c4]
      rw [if_neg c4, e]
      unfold Te_answer_67 Te_answer_183
      simp only [nm_eq]
      rw [chk_eq _ (inb_nI (by omega) (by omega)), nI_1, nI_1, ix_nI (by omega)]
      exact ⟨_, by rw [show h + 1 = (c :: st).length from by rw [List.length_cons, hh]], low (n := h) (Nat.le_refl _) _ _ _ _ hst hh, Off.rf.wr' (by decide)⟩
theorem Te_answer_sp {t p l : Nat} {cs : List Int32} {f : Nat → Int32} {v : Int32} {μ : Mem} (hp : p < 3) (h0 : rd μ 7 t p = nI l) (h1 : rd μ 7 t (p + 1) = nI (l + cs.length)) (h2 : l + cs.length ≤ 160) (hH : Hold t l cs μ) (hf : ∀ i, i < 6 → rd μ 19 0 i = f i) (hv : exc f cs [] = [v]) : ∃ μ', Te_answer t (nI p) μ = some (v, μ') ∧ Off [8] μ μ' := by
  have key : ∀ (k j F : Nat) (st : List Int32) (m : Mem), j + k = cs.length → k < F → StkR t st m → st.length ≤ j → Off [8] μ m → exc f (cs.drop j) st = [v] → ∃ μ', Te_answer_10L F t (nI p) (nI st.length) (nI (l + j)) m = some (v, μ') ∧ Off [8] μ μ' := by
    intro k
    induction k with
    | zero =>
      intro j F st m hj hF hs hl ho he
      obtain ⟨F, rfl⟩ : ∃ F', F = F' + 1 := ⟨F - 1, by omega⟩
      have hj' : j = cs.length := by omega
      subst hj'
      rw [List.drop_length] at he
      have he : st = [v] := he
      subst he
      show ∃ μ', Te_answer_10 _ _ _ _ _ _ = _ ∧ _
      unfold Te_answer_10
      rw [nI_1, chk_eq _ (inb_nI (by omega) (by omega)), ix_nI (by omega), ho.rd (by decide), h1, if_neg (nI_nlt (Nat.le_refl _) (by omega)), chk_eq _ (by decide), show rd m 8 t (ix 0) = v from hs.1]
      exact ⟨m, rfl, ho⟩
    | succ k ih =>
      intro j F st m hj hF hs hl ho he
      obtain ⟨F, rfl⟩ : ∃ F', F = F' + 1 := ⟨F - 1, by omega⟩
      have hjl : j < cs.length := by omega
      have ec : rd m 6 t (l + j) = cs.getD j 0 := by rw [ho.rd (by decide)]; exact hH j hjl
      have ed : cs.drop j = cs.getD j 0 :: cs.drop (j + 1) := by
        rw [List.drop_eq_getElem_cons hjl, List.getD_eq_getElem?_getD, List.getElem?_eq_getElem hjl]; rfl
      rw [ed] at he
      obtain ⟨m', s1, s2, s3⟩ := Te_step_sp (f := f) (Te_answer_10L F) hp (fun i hi => by rw [ho.rd (by decide)]; exact hf i hi) hs rfl (pos := l + j) (by omega) (by omega) (fun _ => trivial) (e := l + cs.length) (by rw [ho.rd (by decide)]; exact h1) (by omega) h2 ec
      obtain ⟨μ', r1, r2⟩ := ih (j + 1) F _ m' (by omega) (by omega) s2 (by have := stp_len f (cs.getD j 0) st; omega) (ho.tr s3) he
      refine ⟨μ', ?_, r2⟩
      show Te_answer_10 _ _ _ _ _ _ = _
      rw [s1]
      exact r1
  unfold Te_answer
  rw [chk_eq _ (inb_nI (by omega) (by omega)), ix_nI (by omega), h0]
  exact key cs.length 0 1000 [] μ (by omega) (by omega) trivial (Nat.le_refl _) Off.rf hv
