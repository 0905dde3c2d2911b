/-! ===== what holds between the class and the reference ===== -/
def HOK (hs : Nat → Nat) (gr : Nat → Nat → Nat) (tc : Nat) : Prop := hs 0 ≤ 999 ∧ hs 1 ≤ 99 ∧ hs 2 < tc ∧ hs 3 ≤ 6 ∧ (∀ g, g < hs 3 → gr g 0 < 6 ∧ gr g 1 ≤ 9 ∧ gr g 2 ≤ 15 ∧ gr g 3 ≤ 99 ∧ gr g 4 < hs 3) ∧ ∀ g g', g < hs 3 → g' < hs 3 → gr g 4 = gr g' 4 → g = g'
def HA (h : Nat) (hs : Nat → Nat) (gr : Nat → Nat → Nat) (μ : Mem) : Prop := (∀ j, j < 4 → rd μ 1 h j = nI (hs j)) ∧ ∀ g j, g < hs 3 → j < 5 → rd μ 2 (g + 6 * h) j = nI (gr g j)
def HM (hs : Nat → Nat) (gr : Nat → Nat → Nat) (ν : Mem) : Prop := rd ν 0 0 7 = nI (hs 0) ∧ rd ν 0 0 8 = nI (hs 1) ∧ rd ν 0 0 4 = nI (hs 2) ∧ rd ν 0 0 12 = nI (hs 3) ∧ ∀ g, g < hs 3 → rd ν 4 0 g = nI (gr g 0) ∧ rd ν 5 0 (3 * g) = nI (gr g 1) ∧ rd ν 5 0 (3 * g + 1) = nI (gr g 2) ∧ rd ν 5 0 (3 * g + 2) = nI (gr g 3) ∧ rd ν 6 0 g = nI (gr g 4)
def XA (tc : Nat) (X : Nat → List Int32 × List Int32 × List Int32) (μ : Mem) : Prop := rd μ 0 0 4 = nI tc ∧ ∀ t, t < tc → TXA (X t) t μ
def XM (tc : Nat) (X : Nat → List Int32 × List Int32 × List Int32) (ν : Mem) : Prop := rd ν 0 0 3 = nI tc ∧ ∀ t, t < tc → TXM (X t) t ν
def TpM (B : Nat → Int32) (z : Nat) (ν : Mem) : Prop := rd ν 0 0 6 = nI z ∧ ∀ i, i < z → rd ν 3 0 i = B i ∧ ¬ B i < 0
def ShA (sk sm : Nat → Nat) (sv : Nat → Nat → Int32) (μ : Mem) : Prop := ∀ s, s < 4 → if sk s = 3 then rd μ 16 s 0 = -1 else rd μ 16 s 0 = nI (sk s) ∧ rd μ 16 s 1 = nI (sm s) ∧ ∀ i, i < sm s → rd μ 17 s i = sv s i
def ShM (sk sm : Nat → Nat) (sv : Nat → Nat → Int32) (ν : Mem) : Prop := ∀ s, s < 4 → if sk s = 3 then rd ν 13 0 s = 0 else rd ν 13 0 s = 1 ∧ rd ν 14 0 s = nI (sk s) ∧ rd ν 15 0 s = nI (sm s) ∧ ∀ i, i < sm s → rd ν 16 0 (40 * s + i) = sv s i
def ShO (sk sm : Nat → Nat) : Prop := ∀ s, s < 4 → sk s ≤ 3 ∧ sm s ≤ 40
def KM (hk : Nat → Nat) (gk : Nat → Nat → Nat) (ν : Mem) : Prop := rd ν 0 0 42 = nI (hk 3) ∧ rd ν 0 0 43 = nI (hk 0) ∧ rd ν 0 0 44 = nI (hk 1) ∧ rd ν 0 0 45 = nI (hk 2) ∧ ∀ g, g < hk 3 → rd ν 11 0 (3 * g) = nI (gk g 1) ∧ rd ν 11 0 (3 * g + 1) = nI (gk g 2) ∧ rd ν 11 0 (3 * g + 2) = nI (gk g 3) ∧ rd ν 12 0 g = nI (gk g 4)
def KI (hs : Nat → Nat) (gr : Nat → Nat → Nat) (tc : Nat) (μ ν : Mem) : Prop := (rd μ 0 0 2 = 0 ∧ rd ν 0 0 42 = -1) ∨ (rd μ 0 0 2 = 1 ∧ ∃ hk gk, HOK hk gk tc ∧ HA 1 hk gk μ ∧ KM hk gk ν ∧ hk 3 ≤ hs 3 ∧ ∀ g, g < hk 3 → gk g 0 = gr g 0)
def InvC (hs : Nat → Nat) (gr : Nat → Nat → Nat) (tc : Nat) (X : Nat → List Int32 × List Int32 × List Int32) (B : Nat → Int32) (z : Nat) (sk sm : Nat → Nat) (sv : Nat → Nat → Int32) (μ ν : Mem) : Prop := (HOK hs gr tc ∧ tc ≤ 6 ∧ HA 0 hs gr μ ∧ HM hs gr ν) ∧ (XA tc X μ ∧ XM tc X ν) ∧ (TapeA B z μ ∧ TpM B z ν) ∧ (ShO sk sm ∧ ShA sk sm sv μ ∧ ShM sk sm sv ν) ∧ KI hs gr tc μ ν
def Inv (μ ν : Mem) : Prop := ∃ hs gr tc X B z sk sm sv, InvC hs gr tc X B z sk sm sv μ ν
/-! what a part of it reads -/
theorem HA.cg {h : Nat} {hs : Nat → Nat} {gr : Nat → Nat → Nat} {μ μ' : Mem} (H : HA h hs gr μ) (h1 : ∀ j, rd μ' 1 h j = rd μ 1 h j) (h2 : ∀ g j, rd μ' 2 (g + 6 * h) j = rd μ 2 (g + 6 * h) j) : HA h hs gr μ' := ⟨fun j hj => by rw [h1]; exact H.1 j hj, fun g j hg hj => by rw [h2]; exact H.2 g j hg hj⟩
theorem HM.cg {hs : Nat → Nat} {gr : Nat → Nat → Nat} {ν ν' : Mem} (H : HM hs gr ν) (h0 : ∀ j, j ∈ [4, 7, 8, 12] → rd ν' 0 0 j = rd ν 0 0 j) (h1 : ∀ f j, f ∈ [4, 5, 6] → rd ν' f 0 j = rd ν f 0 j) : HM hs gr ν' := by
  obtain ⟨a, b, c, d, e⟩ := H
  refine ⟨by rw [h0 7 (by decide)]; exact a, by rw [h0 8 (by decide)]; exact b, by rw [h0 4 (by decide)]; exact c, by rw [h0 12 (by decide)]; exact d, fun g hg => ?_⟩
  rw [h1 4 _ (by decide), h1 5 _ (by decide), h1 5 _ (by decide), h1 5 _ (by decide), h1 6 _ (by decide)]
  exact e g hg
theorem XA.cg {tc : Nat} {X : Nat → List Int32 × List Int32 × List Int32} {μ μ' : Mem} (H : XA tc X μ) (h0 : rd μ' 0 0 4 = rd μ 0 0 4) (h1 : ∀ f i j, f ∈ [6, 7] → i < tc → rd μ' f i j = rd μ f i j) : XA tc X μ' := by
  refine ⟨by rw [h0]; exact H.1, fun t ht => ?_⟩
  obtain ⟨⟨g0, g1, g2, g3, g4, g5, g6, g7⟩, o⟩ := H.2 t ht
  exact ⟨⟨by rw [h1 7 _ _ (by decide) ht]; exact g0, by rw [h1 7 _ _ (by decide) ht]; exact g1, by rw [h1 7 _ _ (by decide) ht]; exact g2, by rw [h1 7 _ _ (by decide) ht]; exact g3, g4, fun i hi => by rw [h1 6 _ _ (by decide) ht]; exact g5 i hi, fun i hi => by rw [h1 6 _ _ (by decide) ht]; exact g6 i hi, fun i hi => by rw [h1 6 _ _ (by decide) ht]; exact g7 i hi⟩, o⟩
theorem TXM.cg {x : List Int32 × List Int32 × List Int32} {t : Nat} {ν ν' : Mem} (h : TXM x t ν) (h1 : ∀ i, i < 160 → rd ν' 1 0 (160 * t + i) = rd ν 1 0 (160 * t + i)) (h2 : rd ν' 2 0 t = rd ν 2 0 t) : TXM x t ν' := by
  obtain ⟨B, z, k, ⟨a1, a2, a3, a4, a5⟩, a6⟩ := h
  exact ⟨B, z, k, ⟨a1, a2, by rw [h2]; exact a3, fun i hi => by rw [h1 i (by omega)]; exact a4 i hi, a5⟩, a6⟩
theorem XM.cg {tc : Nat} {X : Nat → List Int32 × List Int32 × List Int32} {ν ν' : Mem} (H : XM tc X ν) (h0 : rd ν' 0 0 3 = rd ν 0 0 3) (h1 : ∀ f j, f ∈ [1, 2] → rd ν' f 0 j = rd ν f 0 j) : XM tc X ν' := ⟨by rw [h0]; exact H.1, fun t ht => (H.2 t ht).cg (fun i _ => h1 1 _ (by decide)) (h1 2 _ (by decide))⟩
theorem TapeA.cg {B : Nat → Int32} {z : Nat} {μ μ' : Mem} (H : TapeA B z μ) (h0 : rd μ' 10 0 1 = rd μ 10 0 1) (h1 : ∀ j, rd μ' 11 0 j = rd μ 11 0 j) : TapeA B z μ' := ⟨H.1, by rw [h0]; exact H.2.1, fun i hi => by rw [h1]; exact H.2.2 i hi⟩
theorem TpM.cg {B : Nat → Int32} {z : Nat} {ν ν' : Mem} (H : TpM B z ν) (h0 : rd ν' 0 0 6 = rd ν 0 0 6) (h1 : ∀ j, rd ν' 3 0 j = rd ν 3 0 j) : TpM B z ν' := ⟨by rw [h0]; exact H.1, fun i hi => by rw [h1]; exact H.2 i hi⟩
theorem ShA.cg {sk sm : Nat → Nat} {sv : Nat → Nat → Int32} {μ μ' : Mem} (H : ShA sk sm sv μ) (h1 : ∀ f i j, f ∈ [16, 17] → rd μ' f i j = rd μ f i j) : ShA sk sm sv μ' := fun s hs => by
  have := H s hs
  rw [h1 16 _ _ (by decide), h1 16 _ _ (by decide)]
  by_cases q : sk s = 3
  · rw [if_pos q] at this ⊢; exact this
  · rw [if_neg q] at this ⊢
    exact ⟨this.1, this.2.1, fun i hi => by rw [h1 17 _ _ (by decide)]; exact this.2.2 i hi⟩
theorem ShM.cg {sk sm : Nat → Nat} {sv : Nat → Nat → Int32} {ν ν' : Mem} (H : ShM sk sm sv ν) (h1 : ∀ f j, f ∈ [13, 14, 15, 16] → rd ν' f 0 j = rd ν f 0 j) : ShM sk sm sv ν' := fun s hs => by
  have := H s hs
  rw [h1 13 _ (by decide), h1 14 _ (by decide), h1 15 _ (by decide)]
  by_cases q : sk s = 3
  · rw [if_pos q] at this ⊢; exact this
  · rw [if_neg q] at this ⊢
    exact ⟨this.1, this.2.1, this.2.2.1, fun i hi => by rw [h1 16 _ (by decide)]; exact this.2.2.2 i hi⟩
theorem KM.cg {hk : Nat → Nat} {gk : Nat → Nat → Nat} {ν ν' : Mem} (H : KM hk gk ν) (h0 : ∀ j, j ∈ [42, 43, 44, 45] → rd ν' 0 0 j = rd ν 0 0 j) (h1 : ∀ f j, f ∈ [11, 12] → rd ν' f 0 j = rd ν f 0 j) : KM hk gk ν' := by
  obtain ⟨a, b, c, d, e⟩ := H
  refine ⟨by rw [h0 42 (by decide)]; exact a, by rw [h0 43 (by decide)]; exact b, by rw [h0 44 (by decide)]; exact c, by rw [h0 45 (by decide)]; exact d, fun g hg => ?_⟩
  rw [h1 11 _ (by decide), h1 11 _ (by decide), h1 11 _ (by decide), h1 12 _ (by decide)]
  exact e g hg
theorem KI.cg {hs hs' : Nat → Nat} {gr gr' : Nat → Nat → Nat} {tc tc' : Nat} {μ μ' ν ν' : Mem} (H : KI hs gr tc μ ν) (hn : hs 3 ≤ hs' 3) (hg : ∀ g, g < hs 3 → gr' g 0 = gr g 0) (ht : tc ≤ tc') (h0 : rd μ' 0 0 2 = rd μ 0 0 2) (h1 : ∀ j, rd μ' 1 1 j = rd μ 1 1 j) (h2 : ∀ g j, rd μ' 2 (g + 6 * 1) j = rd μ 2 (g + 6 * 1) j) (h3 : ∀ j, j ∈ [42, 43, 44, 45] → rd ν' 0 0 j = rd ν 0 0 j) (h4 : ∀ f j, f ∈ [11, 12] → rd ν' f 0 j = rd ν f 0 j) : KI hs' gr' tc' μ' ν' := by
  rcases H with ⟨a, b⟩ | ⟨a, hk, gk, b, c, d, e, f⟩
  · exact Or.inl ⟨by rw [h0]; exact a, by rw [h3 42 (by decide)]; exact b⟩
  · refine Or.inr ⟨by rw [h0]; exact a, hk, gk, ⟨b.1, b.2.1, Nat.lt_of_lt_of_le b.2.2.1 ht, b.2.2.2⟩, c.cg h1 h2, d.cg h3 h4, by omega, fun g q => by rw [hg g (by omega)]; exact f g q⟩
/-- cells that matter stay -/
def SCA : List Nat := [8, 9, 12, 13, 14, 18, 19, 20, 21, 22, 23, 24, 25, 26, 28, 29]
def SCM : List Nat := [31, 32, 33, 34, 35, 36] ++ JV
def RA (S : List Nat) (μ μ' : Mem) : Prop := ∀ f i j : Nat, f ∉ S → rd μ' f i j = rd μ f i j
def RM (S js : List Nat) (ν ν' : Mem) : Prop := ∀ f j : Nat, f ∉ S → (f = 0 → j ∉ js) → rd ν' f 0 j = rd ν f 0 j
theorem RA.rf {S : List Nat} {μ : Mem} : RA S μ μ := fun _ _ _ _ => rfl
theorem RM.rf {S js : List Nat} {μ : Mem} : RM S js μ μ := fun _ _ _ _ => rfl
theorem RA.tr {S : List Nat} {a b c : Mem} (h : RA S a b) (h2 : RA S b c) : RA S a c := fun f i j q => (h2 f i j q).trans (h f i j q)
theorem RM.tr {S js : List Nat} {a b c : Mem} (h : RM S js a b) (h2 : RM S js b c) : RM S js a c := fun f j q w => (h2 f j q w).trans (h f j q w)
theorem RA.mono {S S' : List Nat} {a b : Mem} (h : RA S a b) (hs : ∀ x ∈ S, x ∈ S') : RA S' a b := fun f i j q => h f i j (fun z => q (hs f z))
theorem RM.mono {S S' js js' : List Nat} {a b : Mem} (h : RM S js a b) (hs : ∀ x ∈ S, x ∈ S') (hj : ∀ x ∈ js, x ∈ js') : RM S' js' a b := fun f j q w => h f j (fun z => q (hs f z)) (fun e z => w e (hj j z))
theorem RA.wr' {S : List Nat} {a b : Mem} {f i j : Nat} {v : Int32} (h : RA S a b) (hf : f ∈ S) : RA S a (up b f i j v) := fun f' i' j' q => by rw [rd_up_f (fun z => q (by rw [z]; exact hf))]; exact h f' i' j' q
theorem RM.wr' {S js : List Nat} {a b : Mem} {f i j : Nat} {v : Int32} (h : RM S js a b) (hf : f ∈ S) : RM S js a (up b f i j v) := fun f' j' q w => by rw [rd_up_f (fun z => q (by rw [z]; exact hf))]; exact h f' j' q w
theorem RM.wr0 {S js : List Nat} {a b : Mem} {j : Nat} {v : Int32} (h : RM S js a b) (hj : j ∈ js) : RM S js a (up b 0 0 j v) := fun f' j' q w => by
  by_cases e : f' = 0
  · subst e; rw [rd_up_j (fun z => w rfl (by rw [z]; exact hj))]; exact h 0 j' q w
  · rw [rd_up_f e]; exact h f' j' q w
abbrev SameA : Mem → Mem → Prop := RA SCA
abbrev SameM : Mem → Mem → Prop := RM [7, 8, 9, 10] SCM
theorem Off.ra {S : List Nat} {a b : Mem} (h : Off S a b) : RA S a b := fun _ i j q => h.rd q i j
theorem NX.rm {js : List Nat} {a b : Mem} (h : NX js a b) (S : List Nat) : RM S js a b := fun f j _ w => by
  by_cases q : f = 0
  · subst q; exact h.2 j (w rfl)
  · exact h.rd q 0 j
theorem Off.same {S : List Nat} {a b : Mem} (h : Off S a b) (hs : ∀ x ∈ S, x ∈ SCA) : SameA a b := h.ra.mono hs
theorem NX.same {js : List Nat} {a b : Mem} (h : NX js a b) (hs : ∀ x ∈ js, x ∈ SCM) : SameM a b := (h.rm _).mono (fun _ q => q) hs
theorem Inv.same {μ μ' ν ν' : Mem} (H : Inv μ ν) (ha : SameA μ μ') (hm : SameM ν ν') : Inv μ' ν' := by
  obtain ⟨hs, gr, tc, X, B, z, sk, sm, sv, ⟨h1, h2, h3, h4⟩, ⟨h5, h6⟩, ⟨h7, h8⟩, ⟨h9, h10, h11⟩, h12⟩ := H
  have m0 : ∀ j, j ∉ SCM → rd ν' 0 0 j = rd ν 0 0 j := fun j hj => hm 0 j (by decide) (fun _ => hj)
  have m1 : ∀ f j, f ≠ 0 → f ∉ [7, 8, 9, 10] → rd ν' f 0 j = rd ν f 0 j := fun f j hf hj => hm f j hj (fun q => absurd q hf)
  refine ⟨hs, gr, tc, X, B, z, sk, sm, sv, ⟨h1, h2, h3.cg (fun j => ha 1 0 j (by decide)) (fun g j => ha 2 _ j (by decide)), h4.cg (fun j hj => m0 j ?_) (fun f j hf => m1 f j ?_ ?_)⟩, ⟨h5.cg (ha 0 0 4 (by decide)) (fun f i j hf _ => ha f i j ?_), h6.cg (m0 3 (by decide)) (fun f j hf => m1 f j ?_ ?_)⟩, ⟨h7.cg (ha 10 0 1 (by decide)) (fun j => ha 11 0 j (by decide)), h8.cg (m0 6 (by decide)) (fun j => m1 3 j (by decide) (by decide))⟩, ⟨h9, h10.cg (fun f i j hf => ha f i j ?_), h11.cg (fun f j hf => m1 f j ?_ ?_)⟩, h12.cg (Nat.le_refl _) (fun _ _ => rfl) (Nat.le_refl _) (ha 0 0 2 (by decide)) (fun j => ha 1 1 j (by decide)) (fun g j => ha 2 _ j (by decide)) (fun j hj => m0 j ?_) (fun f j hf => m1 f j ?_ ?_)⟩
  · revert j; decide
  · revert f; decide
  · revert f; decide
  · revert f; decide
  · revert f; decide
  · revert f; decide
  · revert f; decide
  · revert f; decide
  · revert f; decide
  · revert j; decide
  · revert f; decide
  · revert f; decide
/-! ===== a groom that wears a coat ===== -/
def eG (gr : Nat → Nat → Nat) (g c T : Nat) : Nat → Nat := fun i => match i with
  | 0 => gr g 0
  | 1 => gr g 1
  | 2 => T
  | 5 => c
  | 6 => if c = g then 1 else 0
  | _ => 0
theorem eG_EB {hs : Nat → Nat} {gr : Nat → Nat → Nat} {tc g c T : Nat} (h : HOK hs gr tc) (hg : g < hs 3) (hc : c < 6) (hT : T ≤ 15) : EB (eG gr g c T) := by
  obtain ⟨a, b, -, -, -⟩ := h.2.2.2.2.1 g hg
  refine ⟨a, b, hT, hc, ?_⟩
  show (if c = g then 1 else 0) ≤ 1
  split <;> omega
theorem S_see_sp {hs : Nat → Nat} {gr : Nat → Nat → Nat} {tc g c : Nat} {T : Nat} {μ : Mem} (h : HOK hs gr tc) (H : HA 0 hs gr μ) (hg : g < hs 3) (hc : c < 6) : ∃ μ', S_see (nI g) (nI c) (nI T) μ = some μ' ∧ MAN (eG gr g c T) (gr g 3) (hs 0) μ' ∧ Off [18] μ μ' := by
  have hn := h.2.2.2.1
  have R : ∀ j, j < 5 → rd μ 2 g j = nI (gr g j) := fun j hj => H.2 g j hg hj
  have D := H.1 0 (by decide)
  obtain ⟨m, em⟩ : ∃ m, m = up (up (up (up (up μ 18 0 0 (nI (gr g 0))) 18 0 1 (nI (gr g 1))) 18 0 3 (nI (gr g 3))) 18 0 4 (nI (hs 0))) 18 0 5 (nI c) := ⟨_, rfl⟩
  have om : Off [18] μ m := by
    rw [em]
    exact ((((Off.rf.wr' (by decide)).wr' (by decide)).wr' (by decide)).wr' (by decide)).wr' (by decide)
  have e1 : S_see (nI g) (nI c) (nI T) μ = if nI c = nI g then S_see_83 (nI T) 1 m else S_see_83 (nI T) 0 m := by
    unfold S_see
    rw [chk_eq _ (inb_nI (by omega) (by omega))]
    simp only [nm_eq]
    rw [ix_nI (by omega), rd_up_f (show (2 : Nat) ≠ 18 by decide), rd_up_f (show (2 : Nat) ≠ 18 by decide), rd_up_f (show (2 : Nat) ≠ 18 by decide), rd_up_f (show (1 : Nat) ≠ 18 by decide), rd_up_f (show (1 : Nat) ≠ 18 by decide), rd_up_f (show (1 : Nat) ≠ 18 by decide), R 0 (by decide), R 1 (by decide), R 3 (by decide), D, ← em]
  have fin : ∀ y, y = (if c = g then 1 else 0) → ∃ μ', S_see_83 (nI T) (nI y) m = some μ' ∧ MAN (eG gr g c T) (gr g 3) (hs 0) μ' ∧ Off [18] μ μ' := by
    intro y hy
    unfold S_see_83
    simp only [nm_eq]
    refine ⟨_, rfl, ?_, (om.wr' (by decide)).wr' (by decide)⟩
    rw [em]
    exact ⟨rfl, rfl, rfl, rfl, rfl, rfl, by rw [rd_up_j (by decide), rd_up_s, hy]; rfl⟩
  rw [e1]
  by_cases q : c = g
  · rw [if_pos (by rw [q])]; exact fin 1 (by rw [if_pos q])
  · rw [if_neg (fun w => q ((nI_eq (by omega) (by omega)).mp w))]; exact fin 0 (by rw [if_neg q])
theorem S_seeIn_sp {hs : Nat → Nat} {gr : Nat → Nat → Nat} {tc g c : Nat} {μ : Mem} (h : HOK hs gr tc) (H : HA 0 hs gr μ) (hg : g < hs 3) (hc : c < hs 3) : ∃ μ', S_seeIn (nI g) (nI c) μ = some μ' ∧ MAN (eG gr g c (gr c 2)) (gr g 3) (hs 0) μ' ∧ Off [18] μ μ' := by
  have hn := h.2.2.2.1
  obtain ⟨μ', s1, s2, s3⟩ := S_see_sp (T := gr c 2) h H hg (show c < 6 by omega)
  refine ⟨μ', ?_, s2, s3⟩
  unfold S_seeIn
  rw [chk_eq _ (inb_nI (by omega) (by omega)), ix_nI (by omega), show rd μ 2 c 2 = nI (gr c 2) from H.2 c 2 hc (by decide), bnd_of s1]
theorem S_seeAsIs_sp {hs : Nat → Nat} {gr : Nat → Nat → Nat} {tc g : Nat} {μ : Mem} (h : HOK hs gr tc) (H : HA 0 hs gr μ) (hg : g < hs 3) : ∃ μ', S_seeAsIs (nI g) μ = some μ' ∧ MAN (eG gr g (gr g 4) (gr (gr g 4) 2)) (gr g 3) (hs 0) μ' ∧ Off [18] μ μ' := by
  have hn := h.2.2.2.1
  obtain ⟨μ', s1, s2, s3⟩ := S_seeIn_sp (c := gr g 4) h H hg (h.2.2.2.2.1 g hg).2.2.2.2
  refine ⟨μ', ?_, s2, s3⟩
  unfold S_seeAsIs
  rw [chk_eq _ (inb_nI (by omega) (by omega)), ix_nI (by omega), show rd μ 2 g 4 = nI (gr g 4) from H.2 g 4 hg (by decide), bnd_of s1]
theorem S_rule_sp {hs : Nat → Nat} {gr : Nat → Nat → Nat} {tc : Nat} {μ : Mem} (h : HOK hs gr tc) (ht : tc ≤ 6) (H : HA 0 hs gr μ) : S_rule μ = some (hs 2) := by
  have := h.2.2.1
  unfold S_rule
  rw [show rd μ 1 0 2 = nI (hs 2) from H.1 2 (by decide), chk_eq _ (inb_nI (by omega) (by omega)), ix_nI (by omega)]
theorem HA.off {h : Nat} {hs : Nat → Nat} {gr : Nat → Nat → Nat} {S : List Nat} {μ μ' : Mem} (H : HA h hs gr μ) (o : Off S μ μ') (h1 : 1 ∉ S) (h2 : 2 ∉ S) : HA h hs gr μ' := H.cg (fun j => o.rd h1 _ _) (fun g j => o.rd h2 _ _)
theorem HM.mro {hs : Nat → Nat} {gr : Nat → Nat → Nat} {tc g c : Nat} {ν : Mem} (h : HOK hs gr tc) (ht : tc ≤ 6) (H : HM hs gr ν) (hg : g < hs 3) (hc : c < hs 3) : MRo (eG gr g c (gr c 2)) g c (hs 2) (hs 0) ν := by
  have hn := h.2.2.2.1
  have hr := h.2.2.1
  obtain ⟨a1, a2, a3, a4, a5⟩ := H
  exact ⟨by omega, by omega, by omega, (a5 g hg).1, (a5 g hg).2.1, (a5 c hc).2.2.1, a3, a1, rfl, rfl⟩
theorem HM.nx {hs : Nat → Nat} {gr : Nat → Nat → Nat} {js : List Nat} {ν ν' : Mem} (H : HM hs gr ν) (hn : NX js ν ν') (h : ∀ j ∈ [4, 7, 8, 12], j ∉ js) : HM hs gr ν' := H.cg (fun j hj => hn.2 j (h j hj)) (fun f j hf => hn.rd (by revert f; decide) _ _)
/-- is x the number of a groom? -/
abbrev gOK (n : Nat) (x : Int32) : Prop := ¬ x < 0 ∧ x < nI n
theorem gOK_nI {n : Nat} {x : Int32} (h : gOK n x) (hn : n < 2 ^ 31) : ∃ g, g < n ∧ x = nI g := by
  obtain ⟨j, hj, rfl⟩ := nI_of h.1
  exact ⟨j, (nI_ltI hj hn).mp h.2, rfl⟩
theorem gOK_of {n g : Nat} (hg : g < n) (hn : n < 2 ^ 31) : gOK n (nI g) := ⟨nI_pos (by omega), nI_lt hg hn⟩
theorem S_isGroom_sp {n : Nat} {x : Int32} {μ : Mem} (h : rd μ 1 0 3 = nI n) : (gOK n x ∧ S_isGroom x μ = 1) ∨ (¬ gOK n x ∧ S_isGroom x μ = 0) := by
  unfold S_isGroom
  rw [h]
  by_cases q : x < 0
  · rw [if_pos q]; exact Or.inr ⟨fun w => w.1 q, rfl⟩
  · rw [if_neg q]
    by_cases q2 : x < nI n
    · rw [if_pos q2]; exact Or.inl ⟨⟨q, q2⟩, rfl⟩
    · rw [if_neg q2]; exact Or.inr ⟨fun w => q2 w.2, rfl⟩
theorem M_in_last {n : Nat} {x : Int32} (hn : n < 2 ^ 31) : M_in x.toInt64 0 (nI n - 1).toInt64 = if gOK n x then 1 else 0 := by
  rw [M_in_iff, Int32.toInt_toInt64, show (0 : Int64).toInt = 0 from by decide]
  have e : (nI n - 1).toInt = (n : Int) - 1 := by
    match n, hn with
    | 0, _ => decide
    | n + 1, hn => rw [nI_pred, nI_toInt (by omega)]; omega
  rw [e]
  by_cases q : gOK n x
  · rw [if_pos q]
    obtain ⟨g, hg, rfl⟩ := gOK_nI q hn
    rw [nI_toInt (by omega), if_pos (by omega)]
  · rw [if_neg q, if_neg]
    rintro ⟨w1, w2⟩
    apply q
    refine ⟨fun z => ?_, Int32.lt_iff_toInt_lt.mpr ?_⟩
    · have := toI_neg z; omega
    · rw [nI_toInt hn]; omega
theorem M_isOne_sp {n : Nat} {x : Int32} {ν : Mem} (h : rd ν 0 0 12 = nI n) (hn : n < 2 ^ 31) : M_isOne x ν = some (if gOK n x then 1 else 0) := by
  unfold M_isOne
  rw [h, M_in_last hn, nm_eq, chk_eq]
  by_cases q : gOK n x
  · rw [if_pos q]; exact Or.inr rfl
  · rw [if_neg q]; exact Or.inl rfl
/-- both answer the same -/
def Agree (S M : Mem → Option (Int32 × Mem)) : Prop := ∀ μ ν, Inv μ ν → ∃ r μ' ν', S μ = some (r, μ') ∧ M ν = some (r, ν') ∧ Inv μ' ν'
