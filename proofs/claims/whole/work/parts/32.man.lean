/-! ===== plain worth of texts, and how a groom's days go ===== -/
def cl (x : Int32) : Nat := if x < 0 then 0 else if 99 < x then 99 else ix x
theorem cl_nI {a : Nat} (h : a < 2 ^ 31) : cl (nI a) = min a 99 := by
  unfold cl
  rw [if_neg (nI_pos h), litI 99]
  by_cases q : 99 < a
  · rw [if_pos (nI_lt q h)]; omega
  · rw [if_neg (nI_nlt (by omega) (by omega)), ix_nI h]; omega
theorem cl_cases (x : Int32) : (x < 0 ∧ cl x = 0) ∨ (∃ a, a < 2 ^ 31 ∧ x = nI a ∧ cl x = min a 99) := by
  rcases i32_cases x with h | ⟨a, ha, rfl⟩
  · exact Or.inl ⟨h, by unfold cl; rw [if_pos h]⟩
  · exact Or.inr ⟨a, ha, rfl, cl_nI ha⟩
theorem cl_le (x : Int32) : cl x ≤ 99 := by
  rcases cl_cases x with ⟨-, h⟩ | ⟨a, -, -, h⟩ <;> omega
theorem cl_sub {a b : Nat} (ha : a ≤ 99) (hb : b < 2 ^ 30) : cl (nI a - nI b) = a - b := by
  by_cases h : b ≤ a
  · rw [nI_sub' h, cl_nI (by omega)]; omega
  · have := pk_sneg hb (show a < b by omega)
    unfold cl
    rw [if_pos this]; omega
theorem M_within_cl (x : Int32) : M_within x 0 99 = nI (cl x) := by
  unfold M_within
  rcases cl_cases x with ⟨h, e⟩ | ⟨a, ha, rfl, e⟩
  · rw [if_pos h, e]; rfl
  · rw [if_neg (nI_pos ha), litI 99, e]
    by_cases q : 99 < a
    · rw [if_pos (nI_lt q ha)]; congr 1; omega
    · rw [if_neg (nI_nlt (by omega) (by omega))]; congr 1; omega
theorem S_within_cl (x : Int32) : S_within x = nI (cl x) := by
  rw [← M_within_cl]; rfl
theorem irm_nI {a d : Nat} (ha : a < 2 ^ 31) (h0 : 0 < d) (hd : d < 2 ^ 31) : irm (nI a) (nI d) = nI (a % d) := pk_rem ha h0 hd
/-- a text's worth under names -/
def tv (cs : List Int32) (f : Nat → Int32) : Int32 := (exc f cs []).headD 0
theorem One_tv {cs : List Int32} (h : One cs) (f : Nat → Int32) (st : List Int32) : exc f cs st = tv cs f :: st := by
  obtain ⟨v, hv⟩ := h.2 f
  have : tv cs f = v := by unfold tv; rw [hv []]; rfl
  rw [hv st, this]
theorem tv_of {cs : List Int32} {f : Nat → Int32} {v : Int32} (h : exc f cs [] = [v]) : tv cs f = v := by unfold tv; rw [h]; rfl
theorem tv_cong {f g : Nat → Int32} (cs : List Int32) (h : ∀ i, i < 6 → f i = g i) : tv cs f = tv cs g := by
  unfold tv
  rw [exc_cong cs [] (fun c _ h1 h2 => h _ (ix_name h1 h2))]
/-- the names as the rules of heat and calm know them: e holds kind 0, number 1, thing 2, coat 5, own 6 -/
def nmE (e : Nat → Nat) (P d : Nat) : Nat → Int32 := fun i => match i with
  | 0 => nI (e 2)
  | 1 => nI P
  | 2 => nI (e 1)
  | 3 => nI d
  | 4 => nI (e 5)
  | _ => nI (e 6)
def nmF (e : Nat → Nat) : Nat → Int32 := fun i => match i with
  | 0 => nI (e 2)
  | 2 => nI (e 1)
  | _ => 0
def EB (e : Nat → Nat) : Prop := e 0 < 6 ∧ e 1 ≤ 9 ∧ e 2 ≤ 15 ∧ e 5 < 6 ∧ e 6 ≤ 1
def heatW (k N d r : Nat) : Nat := if k = 1 then min (r + 3) 99 else if k = 2 then r / 2 else if k = 3 then (if d % 4 = 1 then 0 else min (r + 3) 99) else if k = 4 then r / 2 - N else if k = 5 then min (2 * r) 99 else r
def calmW (k N T r : Nat) : Nat := if k = 1 then (if T % 2 = 0 then r else r / 2) else if k = 2 then min (r + 2) 99 else if k = 3 then min ((if T % 2 = 0 then r else r / 2) + N) 99 else if k = 4 then (if T = 7 then 0 else if T = 13 then 0 else min (r + 2) 99) else if k = 5 then T else r
def feelW (k r : Nat) : Nat := if k = 2 then r % 10 else if k = 3 then min (2 * r) 99 else if k = 4 then r % 10 + 1 else if k = 5 then (if r < 5 then 0 else r) else r
def heatV (x : List Int32 × List Int32 × List Int32) (e : Nat → Nat) (P d : Nat) : Nat := heatW (e 0) (e 1) d (cl (tv (pick3 0 x) (nmE e P d)))
def calmV (x : List Int32 × List Int32 × List Int32) (e : Nat → Nat) (P d : Nat) : Nat := calmW (e 0) (e 1) (e 2) (cl (tv (pick3 1 x) (nmE e P d)))
def feelV (x : List Int32 × List Int32 × List Int32) (e : Nat → Nat) : Nat := feelW (e 0) (cl (tv (pick3 2 x) (nmF e)))
theorem heatW_le {k N d r : Nat} (h : r ≤ 99) : heatW k N d r ≤ 99 := by
  unfold heatW
  split; omega
  split; omega
  split
  · split <;> omega
  split; omega
  split <;> omega
theorem calmW_le {k N T r : Nat} (h : r ≤ 99) (hT : T ≤ 15) : calmW k N T r ≤ 99 := by
  unfold calmW
  split
  · split <;> omega
  split; omega
  split; omega
  split
  · split; omega
    split <;> omega
  split <;> omega
theorem feelW_le {k r : Nat} (h : r ≤ 99) : feelW k r ≤ 99 := by
  unfold feelW
  split; omega
  split; omega
  split; omega
  split
  · split <;> omega
  · exact h
theorem heatV_le (x : List Int32 × List Int32 × List Int32) (e : Nat → Nat) (P d : Nat) : heatV x e P d ≤ 99 := heatW_le (cl_le _)
theorem calmV_le (x : List Int32 × List Int32 × List Int32) {e : Nat → Nat} (he : EB e) (P d : Nat) : calmV x e P d ≤ 99 := calmW_le (cl_le _) he.2.2.1
theorem feelV_le (x : List Int32 × List Int32 × List Int32) (e : Nat → Nat) : feelV x e ≤ 99 := feelW_le (cl_le _)
/-- the temper when a day is hottest, and as it ends -/
def hotV (x : List Int32 × List Int32 × List Int32) (e : Nat → Nat) (P d : Nat) : Nat := min (P + heatV x e P d) 99
def coolV (x : List Int32 × List Int32 × List Int32) (e : Nat → Nat) (P d : Nat) : Nat := P - calmV x e P d
def dayP (x : List Int32 × List Int32 × List Int32) (e : Nat → Nat) (P d : Nat) : Nat → Nat
  | 0 => P
  | j + 1 => coolV x e (hotV x e (dayP x e P d j) (d + j)) (d + j)
def dayB (x : List Int32 × List Int32 × List Int32) (e : Nat → Nat) (P d l : Nat) : Nat → Nat
  | 0 => 0
  | j + 1 => dayB x e P d l j + (if hotV x e (dayP x e P d j) (d + j) < l then 0 else 1)
def dayF (x : List Int32 × List Int32 × List Int32) (e : Nat → Nat) (P d l : Nat) : Nat → Int32
  | 0 => -1
  | j + 1 => if hotV x e (dayP x e P d j) (d + j) < l then dayF x e P d l j else if dayF x e P d l j = -1 then nI j else dayF x e P d l j
theorem hotV_le (x : List Int32 × List Int32 × List Int32) (e : Nat → Nat) (P d : Nat) : hotV x e P d ≤ 99 := by unfold hotV; omega
theorem dayP_le (x : List Int32 × List Int32 × List Int32) (e : Nat → Nat) {P : Nat} (d : Nat) (hP : P ≤ 99) : ∀ j, dayP x e P d j ≤ 99
  | 0 => hP
  | j + 1 => by
    have := hotV_le x e (dayP x e P d j) (d + j)
    show coolV x e _ _ ≤ 99
    unfold coolV
    omega
theorem dayB_le (x : List Int32 × List Int32 × List Int32) (e : Nat → Nat) (P d l : Nat) : ∀ j, dayB x e P d l j ≤ j
  | 0 => Nat.le_refl _
  | j + 1 => by
    have := dayB_le x e P d l j
    show dayB x e P d l j + _ ≤ _
    split <;> omega
/-! the class's reckoner -/
def MAN (e : Nat → Nat) (P d : Nat) (μ : Mem) : Prop := rd μ 18 0 0 = nI (e 0) ∧ rd μ 18 0 1 = nI (e 1) ∧ rd μ 18 0 2 = nI (e 2) ∧ rd μ 18 0 3 = nI P ∧ rd μ 18 0 4 = nI d ∧ rd μ 18 0 5 = nI (e 5) ∧ rd μ 18 0 6 = nI (e 6)
theorem MAN.off {e : Nat → Nat} {P d : Nat} {S : List Nat} {μ μ' : Mem} (h : MAN e P d μ) (ho : Off S μ μ') (hS : 18 ∉ S) : MAN e P d μ' := by
  obtain ⟨h0, h1, h2, h3, h4, h5, h6⟩ := h
  exact ⟨by rw [ho.rd hS]; exact h0, by rw [ho.rd hS]; exact h1, by rw [ho.rd hS]; exact h2, by rw [ho.rd hS]; exact h3, by rw [ho.rd hS]; exact h4, by rw [ho.rd hS]; exact h5, by rw [ho.rd hS]; exact h6⟩
def TXA (x : List Int32 × List Int32 × List Int32) (t : Nat) (μ : Mem) : Prop := TextA t x.1 x.2.1 x.2.2 μ ∧ One x.1 ∧ One x.2.1 ∧ One x.2.2
theorem TextA.off {t : Nat} {a b c : List Int32} {S : List Nat} {μ μ' : Mem} (h : TextA t a b c μ) (ho : Off S μ μ') (h6 : 6 ∉ S) (h7 : 7 ∉ S) : TextA t a b c μ' := by
  obtain ⟨g0, g1, g2, g3, g4, g5, g6, g7⟩ := h
  exact ⟨by rw [ho.rd h7]; exact g0, by rw [ho.rd h7]; exact g1, by rw [ho.rd h7]; exact g2, by rw [ho.rd h7]; exact g3, g4, fun i hi => by rw [ho.rd h6]; exact g5 i hi, fun i hi => by rw [ho.rd h6]; exact g6 i hi, fun i hi => by rw [ho.rd h6]; exact g7 i hi⟩
theorem TXA.off {x : List Int32 × List Int32 × List Int32} {t : Nat} {S : List Nat} {μ μ' : Mem} (h : TXA x t μ) (ho : Off S μ μ') (h6 : 6 ∉ S) (h7 : 7 ∉ S) : TXA x t μ' := ⟨h.1.off ho h6 h7, h.2⟩
theorem Te_tx {x : List Int32 × List Int32 × List Int32} {t w : Nat} {f : Nat → Int32} {μ : Mem} (h : TXA x t μ) (hw : w < 3) (hf : ∀ i, i < 6 → rd μ 19 0 i = f i) : ∃ μ', Te_answer t (nI w) μ = some (tv (pick3 w x) f, μ') ∧ Off [8] μ μ' := by
  obtain ⟨⟨g0, g1, g2, g3, g4, g5, g6, g7⟩, o0, o1, o2⟩ := h
  obtain rfl | rfl | rfl : w = 0 ∨ w = 1 ∨ w = 2 := by omega
  · exact Te_answer_sp (p := 0) (l := 0) (by decide) g0 (by have q := g1; rw [← Nat.zero_add x.1.length] at q; exact q) (by omega) g5 hf (One_tv o0 f [])
  · exact Te_answer_sp (p := 1) (by decide) g1 g2 (by omega) g6 hf (One_tv o1 f [])
  · exact Te_answer_sp (p := 2) (by decide) g2 g3 (by omega) g7 hf (One_tv o2 f [])
theorem Ma_nameAll_sp {e : Nat → Nat} {P d : Nat} {μ : Mem} (h : MAN e P d μ) : ∃ μ', Ma_nameAll μ = some μ' ∧ Off [19] μ μ' ∧ ∀ i, i < 6 → rd μ' 19 0 i = nmE e P d i := by
  obtain ⟨h0, h1, h2, h3, h4, h5, h6⟩ := h
  unfold Ma_nameAll
  simp only [nm_eq]
  rw [chk_eq _ (by decide), chk_eq _ (by decide), chk_eq _ (by decide), chk_eq _ (by decide), chk_eq _ (by decide), chk_eq _ (by decide)]
  refine ⟨_, rfl, ?_, fun i hi => ?_⟩
  · exact ((((((Off.rf.wr' (by decide)).wr' (by decide)).wr' (by decide)).wr' (by decide)).wr' (by decide)).wr' (by decide))
  · match i, hi with
    | 0, _ => exact h2
    | 1, _ => exact h3
    | 2, _ => exact h1
    | 3, _ => exact h4
    | 4, _ => exact h5
    | 5, _ => exact h6
theorem Ma_heats_sp {x : List Int32 × List Int32 × List Int32} {t : Nat} {e : Nat → Nat} {P d : Nat} {μ : Mem} (hx : TXA x t μ) (h : MAN e P d μ) (he : EB e) (hd : d < 2000) : ∃ μ', Ma_heats t μ = some (nI (heatV x e P d), μ') ∧ Off [8, 19] μ μ' := by
  obtain ⟨m1, s1, s2, s3⟩ := Ma_nameAll_sp h
  obtain ⟨m2, r1, r2⟩ := Te_tx (w := 0) (hx.off s2 (by decide) (by decide)) (by decide) s3
  have r1 : Te_answer t 0 m1 = some (tv (pick3 0 x) (nmE e P d), m2) := r1
  have o : Off [8, 19] μ m2 := (s2.mono (by decide)).tr (r2.mono (by decide))
  obtain ⟨h0, h1, h2, h3, h4, h5, h6⟩ := h.off o (by decide)
  obtain ⟨b0, b1, b2, b5, b6⟩ := he
  unfold Ma_heats
  rw [bnd_of s1, bnd2_of r1]
  simp only [nm_eq, S_within_cl]
  rw [h0, h1, h4]
  unfold heatV
  have hr := cl_le (tv (pick3 0 x) (nmE e P d))
  generalize cl (tv (pick3 0 x) (nmE e P d)) = r at hr
  unfold heatW
  rw [litI 3, litI 2, litI 4, litI 1, litI 5, litI 0, pk_div (by omega) (by omega) (by omega), nI_add, pk_mul, irm_nI (by omega) (by omega) (by omega), cl_sub (by omega) (by omega), cl_nI (by omega), cl_nI (by omega)]
  simp only [nI_eq' (show e 0 < 2 ^ 31 by omega) (show 1 < 2 ^ 31 by omega), nI_eq' (show e 0 < 2 ^ 31 by omega) (show 2 < 2 ^ 31 by omega), nI_eq' (show e 0 < 2 ^ 31 by omega) (show 3 < 2 ^ 31 by omega), nI_eq' (show e 0 < 2 ^ 31 by omega) (show 4 < 2 ^ 31 by omega), nI_eq' (show e 0 < 2 ^ 31 by omega) (show 5 < 2 ^ 31 by omega), nI_eq' (show d % 4 < 2 ^ 31 by omega) (show 1 < 2 ^ 31 by omega)]
  refine ⟨m2, ?_, o⟩
  split; rfl
  split; rfl
  split
  · split <;> rfl
  split; rfl
  split <;> rfl
theorem Ma_calms_sp {x : List Int32 × List Int32 × List Int32} {t : Nat} {e : Nat → Nat} {P d : Nat} {μ : Mem} (hx : TXA x t μ) (h : MAN e P d μ) (he : EB e) (hd : d < 2000) : ∃ μ', Ma_calms t μ = some (nI (calmV x e P d), μ') ∧ Off [8, 19] μ μ' := by
  obtain ⟨m1, s1, s2, s3⟩ := Ma_nameAll_sp h
  obtain ⟨m2, r1, r2⟩ := Te_tx (w := 1) (hx.off s2 (by decide) (by decide)) (by decide) s3
  have r1 : Te_answer t 1 m1 = some (tv (pick3 1 x) (nmE e P d), m2) := r1
  have o : Off [8, 19] μ m2 := (s2.mono (by decide)).tr (r2.mono (by decide))
  obtain ⟨h0, h1, h2, h3, h4, h5, h6⟩ := h.off o (by decide)
  obtain ⟨b0, b1, b2, b5, b6⟩ := he
  unfold Ma_calms
  rw [bnd_of s1, bnd2_of r1]
  simp only [nm_eq, S_within_cl]
  have hr := cl_le (tv (pick3 1 x) (nmE e P d))
  have e33 : ∀ y, y ≤ 99 → Ma_calms_33 (nI (cl (tv (pick3 1 x) (nmE e P d)))) (nI y) m2 = some (nI (if e 0 = 1 then y else if e 0 = 2 then min (cl (tv (pick3 1 x) (nmE e P d)) + 2) 99 else if e 0 = 3 then min (y + e 1) 99 else if e 0 = 4 then (if e 2 = 7 then 0 else if e 2 = 13 then 0 else min (cl (tv (pick3 1 x) (nmE e P d)) + 2) 99) else if e 0 = 5 then e 2 else cl (tv (pick3 1 x) (nmE e P d))), m2) := by
    intro y hy
    generalize cl (tv (pick3 1 x) (nmE e P d)) = r at hr
    unfold Ma_calms_33
    simp only [nm_eq, S_within_cl]
    rw [h0, h1, h2, litI 3, litI 2, litI 4, litI 1, litI 5, litI 7, litI 13, litI 0, nI_add, nI_add, cl_nI (by omega), cl_nI (by omega)]
    simp only [nI_eq' (show e 0 < 2 ^ 31 by omega) (show 1 < 2 ^ 31 by omega), nI_eq' (show e 0 < 2 ^ 31 by omega) (show 2 < 2 ^ 31 by omega), nI_eq' (show e 0 < 2 ^ 31 by omega) (show 3 < 2 ^ 31 by omega), nI_eq' (show e 0 < 2 ^ 31 by omega) (show 4 < 2 ^ 31 by omega), nI_eq' (show e 0 < 2 ^ 31 by omega) (show 5 < 2 ^ 31 by omega), nI_eq' (show e 2 < 2 ^ 31 by omega) (show 7 < 2 ^ 31 by omega), nI_eq' (show e 2 < 2 ^ 31 by omega) (show 13 < 2 ^ 31 by omega)]
    split; rfl
    split; rfl
    split; rfl
    split
    · split; rfl
      split <;> rfl
    split <;> rfl
  refine ⟨m2, ?_, o⟩
  unfold calmV calmW
  rw [h2, litI 2, irm_nI (by omega) (by omega) (by omega), pk_div (by omega) (by omega) (by omega), e33 _ (cl_le _), e33 _ (by omega)]
  rw [show ((0 : Int32) = nI 0) from rfl]
  simp only [nI_eq' (show e 2 % 2 < 2 ^ 31 by omega) (show 0 < 2 ^ 31 by omega)]
  by_cases q : e 2 % 2 = 0
  · simp only [if_pos q]
  · simp only [if_neg q]
theorem Ma_nameNone_sp (μ : Mem) : ∃ μ', Ma_nameNone μ = some μ' ∧ Off [19] μ μ' ∧ ∀ i, i < 6 → rd μ' 19 0 i = 0 := by
  have key : ∀ (k i F : Nat) (m : Mem), i + k = 6 → k < F → Off [19] μ m → (∀ j, j < i → rd m 19 0 j = 0) → ∃ μ', Ma_nameNone_2L F (nI i) m = some μ' ∧ Off [19] μ μ' ∧ ∀ j, j < 6 → rd μ' 19 0 j = 0 := by
    intro k
    induction k with
    | zero =>
      intro i F m hi hF ho hm
      obtain ⟨F, rfl⟩ : ∃ F', F = F' + 1 := ⟨F - 1, by omega⟩
      refine ⟨m, ?_, ho, fun j hj => hm j (by omega)⟩
      show Ma_nameNone_2 _ _ _ = _
      unfold Ma_nameNone_2
      rw [litI 6, if_neg (nI_nlt (by omega) (by omega))]
    | succ k ih =>
      intro i F m hi hF ho hm
      obtain ⟨F, rfl⟩ : ∃ F', F = F' + 1 := ⟨F - 1, by omega⟩
      obtain ⟨μ', r1, r2⟩ := ih (i + 1) F (up m 19 0 i 0) (by omega) (by omega) (ho.wr' (by decide)) (fun j hj => by
        by_cases q : j = i
        · subst q; exact rd_up_s _ _ _ _ _
        · rw [rd_up_j q]; exact hm j (by omega))
      refine ⟨μ', ?_, r2⟩
      show Ma_nameNone_2 _ _ _ = _
      unfold Ma_nameNone_2
      rw [litI 6, if_pos (nI_lt (by omega) (by omega)), chk_eq _ (inb_nI (by omega) (by omega))]
      simp only [nm_eq]
      rw [nI_1, ix_nI (by omega)]
      exact r1
  exact key 6 0 1000 μ (by omega) (by omega) Off.rf (fun j hj => by omega)
theorem Ma_feels_sp {x : List Int32 × List Int32 × List Int32} {t : Nat} {e : Nat → Nat} {μ : Mem} (hx : TXA x t μ) (h0 : rd μ 18 0 0 = nI (e 0)) (h1 : rd μ 18 0 1 = nI (e 1)) (h2 : rd μ 18 0 2 = nI (e 2)) (b0 : e 0 < 2 ^ 31) : ∃ μ', Ma_feels t μ = some (nI (feelV x e), μ') ∧ Off [8, 19] μ μ' := by
  obtain ⟨m1, s1, s2, s3⟩ := Ma_nameNone_sp μ
  obtain ⟨m3, em3⟩ : ∃ m, m = up (up m1 19 0 0 (nI (e 2))) 19 0 2 (nI (e 1)) := ⟨_, rfl⟩
  have o3 : Off [19] μ m3 := by rw [em3]; exact (s2.wr' (by decide)).wr' (by decide)
  have hf : ∀ i, i < 6 → rd m3 19 0 i = nmF e i := by
    intro i hi
    rw [em3]
    match i, hi with
    | 0, _ => exact rfl
    | 1, _ => exact s3 1 (by decide)
    | 2, _ => exact rfl
    | 3, _ => exact s3 3 (by decide)
    | 4, _ => exact s3 4 (by decide)
    | 5, _ => exact s3 5 (by decide)
  obtain ⟨m2, r1, r2⟩ := Te_tx (w := 2) (hx.off o3 (by decide) (by decide)) (by decide) hf
  have r1 : Te_answer t 2 m3 = some (tv (pick3 2 x) (nmF e), m2) := r1
  have o : Off [8, 19] μ m2 := (o3.mono (by decide)).tr (r2.mono (by decide))
  unfold Ma_feels
  rw [bnd_of s1, chk_eq _ (by decide)]
  simp only [nm_eq]
  rw [chk_eq _ (by decide), rd_up_f (show (18 : Nat) ≠ 19 by decide), s2.rd (by decide), s2.rd (by decide), h1, h2]
  rw [show up (up m1 19 0 (ix 0) (nI (e 2))) 19 0 (ix 2) (nI (e 1)) = m3 from em3.symm, bnd2_of r1, o.rd (by decide), h0]
  simp only [S_within_cl]
  unfold feelV
  have hr := cl_le (tv (pick3 2 x) (nmF e))
  generalize cl (tv (pick3 2 x) (nmF e)) = r at hr
  unfold feelW
  rw [litI 3, litI 2, litI 4, litI 1, litI 5, litI 10, litI 0, pk_mul, irm_nI (by omega) (by omega) (by omega), nI_add, cl_nI (by omega)]
  simp only [nI_eq' (show e 0 < 2 ^ 31 by omega) (show 2 < 2 ^ 31 by omega), nI_eq' (show e 0 < 2 ^ 31 by omega) (show 3 < 2 ^ 31 by omega), nI_eq' (show e 0 < 2 ^ 31 by omega) (show 4 < 2 ^ 31 by omega), nI_eq' (show e 0 < 2 ^ 31 by omega) (show 5 < 2 ^ 31 by omega), nI_lt' (show r < 2 ^ 31 by omega) (show 5 < 2 ^ 31 by omega)]
  refine ⟨m2, ?_, o⟩
  split; rfl
  split; rfl
  split; rfl
  split
  · split <;> rfl
  · rfl
