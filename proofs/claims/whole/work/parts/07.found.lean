/-! ===== the texts ===== -/
abbrev nJS : Nat := 13
def ownJS (i : Nat) : String := (["SewnUp", "SewnUp$Tape", "SewnUp$Tape", "SewnUp$Tape", "SewnUp$Tape", "SewnUp$Tape", "SewnUp$Tape", "SewnUp$Tape", "SewnUp$Tape", "SewnUp$Tape", "SewnUp$Tape", "SewnUp$Tape", "SewnUp$Tape"] : List String).getD i ""
def idxJS (i : Nat) : Nat := ([82, 78, 80, 82, 84, 86, 88, 90, 92, 94, 96, 98, 100] : List Nat).getD i 0
def txJS (i : Nat) : String := (["heats 7 ; calms thing ; feels thing * 3 ;", "thing", "temper", "number", "day", "coat", "own", "heats", "calms", "feels", "or", "and", "not"] : List String).getD i ""
def lenJS : List Nat := [41, 5, 6, 6, 3, 4, 3, 5, 5, 5, 2, 3, 3]
def bytJS : List (List Int32) := [[104, 101, 97, 116, 115, 32, 55, 32, 59, 32, 99, 97, 108, 109, 115, 32, 116, 104, 105, 110, 103, 32, 59, 32, 102, 101, 101, 108, 115, 32, 116, 104, 105, 110, 103, 32, 42, 32, 51, 32, 59], [116, 104, 105, 110, 103], [116, 101, 109, 112, 101, 114], [110, 117, 109, 98, 101, 114], [100, 97, 121], [99, 111, 97, 116], [111, 119, 110], [104, 101, 97, 116, 115], [99, 97, 108, 109, 115], [102, 101, 101, 108, 115], [111, 114], [97, 110, 100], [110, 111, 116]]

/-! ===== the memory: family, which of it, place; and one long ===== -/
abbrev Mem : Type := (Nat → Nat → Nat → Int32) × Int64
def rd (μ : Mem) (f i j : Nat) : Int32 := μ.1 f i j
def up (μ : Mem) (f i j : Nat) (v : Int32) : Mem := (fun f' i' j' => if f' = f ∧ i' = i ∧ j' = j then v else μ.1 f' i' j', μ.2)
def rdL (μ : Mem) : Int64 := μ.2
def upL (μ : Mem) (w : Int64) : Mem := (μ.1, w)
/-- a row of places written at once, as System.arraycopy does -/
def cpyM (μ : Mem) (f i j i2 j2 n : Nat) : Mem := (fun f' i' k => if f' = f ∧ i' = i2 then va_cpy (μ.1 f i) (μ.1 f i2) j j2 n k else μ.1 f' i' k, μ.2)
abbrev ix (i : Int32) : Nat := i.toNatClampNeg
abbrev inb (i : Int32) (n : Nat) : Prop := ¬ (i < 0 ∨ n ≤ ix i)
def irm (x y : Int32) : Int32 := x - x / y * y
def lrm (x y : Int64) : Int64 := x - x / y * y
def shl (x y : Int32) : Int32 := x <<< (y &&& 31)
def shr (x y : Int32) : Int32 := x >>> (y &&& 31)
def ush (x y : Int32) : Int32 := (x.toUInt32 >>> (y.toUInt32 &&& Int32.toUInt32 31)).toInt32
def b8 (x : Int32) : Int32 := x.toInt8.toInt32
def b16 (x : Int32) : Int32 := x.toInt16.toInt32
def imx (x y : Int32) : Int32 := if x < y then y else x
def imn (x y : Int32) : Int32 := if y < x then y else x
def slen (i : Nat) : Int32 := nI (lenJS.getD i 0)
def schr (i k : Nat) : Int32 := (bytJS.getD i []).getD k 0
def nm2 {α β γ : Type} (e : α × β) (k : α → β → γ) : γ := k e.1 e.2
def bnd2 {α β γ : Type} (e : Option (α × β)) (k : α → β → Option γ) : Option γ := match e with | none => none | some x => k x.1 x.2
theorem nm2_out {α β γ : Type} {e : α × β} {k : α → β → γ} {z : γ} (h : nm2 e k = z) : ∃ x y, e = (x, y) ∧ k x y = z := ⟨e.1, e.2, rfl, h⟩
theorem bnd2_out {α β γ : Type} {e : Option (α × β)} {k : α → β → Option γ} {z : γ} (h : bnd2 e k = some z) : ∃ x y, e = some (x, y) ∧ k x y = some z := by
  cases e with
  | none => cases h
  | some x => exact ⟨x.1, x.2, rfl, h⟩
theorem inb_lt {i : Int32} {n : Nat} (h : inb i n) : ix i < n := Nat.not_le.mp fun z => h (Or.inr z)
def nm {α : Type} {β : Type} (e : α) (k : α → β) : β := k e
def chk {α : Type} (c : Prop) [Decidable c] (k : Option α) : Option α := if c then k else none
def bnd {α β : Type} (e : Option α) (k : α → Option β) : Option β := match e with | none => none | some x => k x
theorem nm_out {α β : Type} {e : α} {k : α → β} {z : β} (h : nm e k = z) : ∃ x, e = x ∧ k x = z := ⟨e, rfl, h⟩
theorem chk_out {α : Type} {c : Prop} [Decidable c] {k : Option α} {z : α} (h : chk c k = some z) : c ∧ k = some z := by
  unfold chk at h
  by_cases hc : c
  · rw [if_pos hc] at h; exact ⟨hc, h⟩
  · rw [if_neg hc] at h; cases h
theorem bnd_out {α β : Type} {e : Option α} {k : α → Option β} {z : β} (h : bnd e k = some z) : ∃ x, e = some x ∧ k x = some z := by
  cases e with
  | none => cases h
  | some x => exact ⟨x, rfl, h⟩
theorem t_out {α : Type} {c : Prop} [Decidable c] {a b z : α} (h : (if c then a else b) = z) (hc : c) : a = z := by rw [if_pos hc] at h; exact h
theorem f_out {α : Type} {c : Prop} [Decidable c] {a b z : α} (h : (if c then a else b) = z) (hc : ¬ c) : b = z := by rw [if_neg hc] at h; exact h
theorem r2_out {α β : Type} {a x : α} {b y : β} (h : some (a, b) = some (x, y)) : a = x ∧ b = y := by cases h; exact ⟨rfl, rfl⟩
theorem r1_out {α : Type} {a x : α} (h : some a = some x) : a = x := by cases h; rfl
theorem p2_out {α β : Type} {a x : α} {b y : β} (h : (a, b) = (x, y)) : a = x ∧ b = y := by cases h; exact ⟨rfl, rfl⟩
theorem up_row (μ : Mem) (f i k : Nat) (x : Int32) : (up μ f i k x).1 f i = upd (μ.1 f i) k x := by
  funext j
  simp [up, upd]
theorem up_off (μ : Mem) {f i k f' i' : Nat} (x : Int32) (h : ¬ (f' = f ∧ i' = i)) : (up μ f i k x).1 f' i' = μ.1 f' i' := by
  funext j
  simp only [up]
  rw [if_neg (fun q => h ⟨q.1, q.2.1⟩)]
abbrev vwCl : List vw_C := [(RX0, TX0, 5), (RX1, TX1, 5), (RX2, TX2, 10), (RX3, TX3, 4), (RX4, TX4, 5), (RX5, TX5, 3), (RX6, TX6, 6), (RX7, TX7, 3), (RX8, TX8, 4), (RX9, TX9, 12), (RX10, TX10, 50)]
/-! ===== the words, the same for all ===== -/
def lw_G : List Cond := lw_tbl.filter goodWord
theorem mG {w : Cond} (i : Nat) (h : lw_tbl[i]? = some w) (hg : goodWord w = true) : w ∈ lw_G := List.mem_filter.mpr ⟨List.mem_of_getElem? h, hg⟩
theorem lw_G_good : ∀ w ∈ lw_G, (w.onTables && w.keeps) = true ∨ ∃ ty, w = .arrayClass ty := fun _ h => good_of_word (List.mem_filter.mp h).2
/-! ===== the world ===== -/
/-- the cells of a world (family, which), and what stands in each -/
abbrev Wld : Type := List (Nat × Nat) × ((Nat → Nat → Nat) → (Nat → ClassId) → (Nat → Int32) → Int64 → Nat → Nat → va_E)
/-- where a run's cells lie: addresses, the classes, the array classes, the texts, the one static array -/
abbrev Glo : Type := (Nat → Nat → Nat) × va_G × (Nat → ClassId) × (Nat → Nat) × (Nat → Nat) × Nat
def wl (Ω : Wld) (G : Glo) (μ : Mem) : va_W := Ω.1.map (fun q => (G.1 q.1 q.2, Ω.2 G.1 G.2.2.1 (μ.1 q.1 q.2) μ.2 q.2 q.1))
def Aw (Ω : Wld) (G : Glo) : Nat → Prop := fun q => ∃ c, c ∈ Ω.1 ∧ q = G.1 c.1 c.2
def Apart (Ω : Wld) (G : Glo) : Prop := ∀ c ∈ Ω.1, ∀ c' ∈ Ω.1, G.1 c.1 c.2 = G.1 c'.1 c'.2 → c = c'
def tysOf (G : Glo) : List (ClassId × FieldType) := [(G.2.2.1 0, .int), (G.2.2.1 1, .boolean), (G.2.2.1 2, .object "SewnUp$Groom"), (G.2.2.1 3, .object "SewnUp$Text"), (G.2.2.1 4, .object "SewnUp$Sheet"), (G.2.2.1 5, .array .int)]
def Wd (Ω : Wld) (G : Glo) (μ : Mem) (H : Heap) : Prop := va_P G.2.1 vwCl (wl Ω G μ) H
theorem wl_get {Ω : Wld} {G : Glo} {μ : Mem} {f i : Nat} (hm : (f, i) ∈ Ω.1) : ∃ k : Nat, Ω.1[k]? = some (f, i) ∧ (wl Ω G μ)[k]? = some (G.1 f i, Ω.2 G.1 G.2.2.1 (μ.1 f i) μ.2 i f) := by
  obtain ⟨k, hk⟩ := List.getElem?_of_mem hm
  exact ⟨k, hk, by simp [wl, hk]⟩
theorem wl_D {Ω : Wld} {G : Glo} {μ : Mem} (hn : Ω.1.Nodup) (ha : Apart Ω G) : va_D (Aw Ω G) (wl Ω G μ) := by
  have key : ∀ (k : Nat) (q : Nat × va_E), (wl Ω G μ)[k]? = some q → ∃ c, Ω.1[k]? = some c ∧ q.1 = G.1 c.1 c.2 := by
    intro k q hk
    simp only [wl, List.getElem?_map] at hk
    cases hc : Ω.1[k]? with
    | none => rw [hc] at hk; cases hk
    | some c => rw [hc] at hk; cases hk; exact ⟨c, rfl, rfl⟩
  refine ⟨fun i j p q hi hj e => ?_, fun k q hk => ?_⟩
  · obtain ⟨c, h1, h2⟩ := key i p hi
    obtain ⟨c', h3, h4⟩ := key j q hj
    have hc := ha c (List.mem_of_getElem? h1) c' (List.mem_of_getElem? h3) (h2.symm.trans (e.trans h4))
    subst hc
    have l1 := (List.getElem?_eq_some_iff.mp h1).1
    exact (List.getElem?_inj l1 hn).mp (h1.trans h3.symm)
  · obtain ⟨c, h1, h2⟩ := key k q hk
    exact ⟨c, List.mem_of_getElem? h1, h2⟩
theorem wl_set {Ω : Wld} {G : Glo} {μ μ' : Mem} {f i k : Nat} {e : va_E} (hn : Ω.1.Nodup) (hk : Ω.1[k]? = some (f, i)) (he : Ω.2 G.1 G.2.2.1 (μ'.1 f i) μ'.2 i f = e) (ho : ∀ f' i' : Nat, (f', i') ∈ Ω.1 → (f', i') ≠ (f, i) → Ω.2 G.1 G.2.2.1 (μ'.1 f' i') μ'.2 i' f' = Ω.2 G.1 G.2.2.1 (μ.1 f' i') μ.2 i' f') : (wl Ω G μ).set k (G.1 f i, e) = wl Ω G μ' := by
  apply List.ext_getElem?
  intro j
  have hl := (List.getElem?_eq_some_iff.mp hk).1
  by_cases hj : j = k
  · subst hj
    rw [List.getElem?_set_self (by simpa [wl] using hl)]
    simp [wl, hk, he]
  · rw [List.getElem?_set_ne (Ne.symm hj)]
    simp only [wl, List.getElem?_map]
    cases hc : Ω.1[j]? with
    | none => rfl
    | some c =>
      obtain ⟨f', i'⟩ := c
      have hne : (f', i') ≠ (f, i) := fun q => hj ((List.getElem?_inj (List.getElem?_eq_some_iff.mp hc).1 hn).mp (hc.trans (by rw [q]; exact hk.symm)))
      simp only [Option.map_some]
      rw [ho f' i' (List.mem_of_getElem? hc) hne]
/-- what of the world is the same in every state of a run -/
def Cx (Ω : Wld) (G : Glo) (U : State) (H : Heap) : Prop :=
  va_K G.2.1 vwCl (tysOf G) U ∧ (Ω.1.Nodup ∧ Apart Ω G) ∧
  (va_Z "SewnUp" "UNDER" "[I" (.ref G.2.2.2.2.2) (Aw Ω G) U H ∧ va_T .int G.2.2.2.2.2 6 (fun j => .int (([-1, 0, 0, 1, 2, 0] : List Int32).getD j 0)) (Aw Ω G) U H) ∧
  (vk_S nJS lenJS bytJS G.2.2.2.1 G.2.2.2.2.1 (Aw Ω G) U H ∧ (∀ i : Nat, i < nJS → vk_R (ownJS i) (idxJS i) (txJS i) (G.2.2.2.1 i) U) ∧ va_Z "java/lang/String" "COMPACT_STRINGS" "Z" (.int 1) (Aw Ω G) U H ∧ va_Zq "jdk/internal/util/Preconditions" "SIOOBE_FORMATTER" "Ljava/util/function/BiFunction;" (Aw Ω G) U H) ∧
  va_Nw (.methodLinkNest "SewnUp$Man" 52 yX9_within "SewnUp") U
theorem Cx.calling {Ω : Wld} {G : Glo} {U : State} (g : JFrame) (mk : MethodId) (a : Array Value) (h : Cx Ω G U U.heap) : Cx Ω G (U.calling g mk a) (U.calling g mk a).heap := by
  obtain ⟨h1, h2, ⟨h3, h4⟩, ⟨h5, h6, h7, h9⟩, h8⟩ := h
  have hv : U.vm.Alike (U.calling g mk a).vm := Vm.Alike.refl U.vm
  exact ⟨va_K.moved hv h1, h2, ⟨h3.moved hv, h4.moved hv⟩, ⟨h5.moved hv, fun i hi => (h6 i hi).same rfl, h7.moved hv, h9.moved hv⟩, h8.same rfl rfl⟩
theorem Cx.at {Ω : Wld} {G : Glo} {s U : State} {A : Nat → Prop} {H : Heap} {locs : List Loc} (h : Cx Ω G s s.heap) (hW : s.WarmedH U.vm) (hA : ∀ q, A q → Aw Ω G q) (hS : va_S A s.heap H locs) (hU : U.heap = H) : Cx Ω G U U.heap := by
  obtain ⟨h1, h2, ⟨h3, h4⟩, ⟨h5, h6, h7, h9⟩, h8⟩ := h
  have hk : ∀ a : Nat, a < s.heap.size → ¬ Aw Ω G a → U.heap[a]? = s.heap[a]? := fun a l1 l2 => by rw [hU]; exact hS.2.1 a l1 (fun q => l2 (hA a q))
  exact ⟨va_K.moved hW.alike h1, h2, ⟨(h3.moved hW.alike).kept hk, (h4.moved hW.alike).kept hk⟩, ⟨(h5.moved hW.alike).kept hk, fun i hi => (h6 i hi).warm hW, (h7.moved hW.alike).kept hk, (h9.moved hW.alike).kept hk⟩, va_Nw.warmM hW h8⟩
/-! ===== locals by place ===== -/
def hasL (a : Array Slot) (nL : Nat) (L : List (Option Value)) : Prop := a.size = nL ∧ lv_wf a ∧ ∀ (i : Nat) (v : Value), L[i]? = some (some v) → a[i]? = some (.val v)
def padS : List Value → List (Option Value)
  | [] => []
  | v :: vs => if v.category = 2 then some v :: none :: padS vs else some v :: padS vs
def padL (vs : List Value) (n : Nat) : List (Option Value) := padS vs ++ List.replicate (n - (padS vs).length) none
def alL : Nat → List (Option Value) → List (Nat × Value)
  | _, [] => []
  | k, none :: r => alL (k + 1) r
  | k, some v :: r => (k, v) :: alL (k + 1) r
theorem alL_mem : ∀ (L : List (Option Value)) (k : Nat) (q : Nat × Value), q ∈ alL k L ↔ ∃ i, L[i]? = some (some q.2) ∧ q.1 = k + i := by
  intro L
  induction L with
  | nil => intro k q; simp [alL]
  | cons o L ih =>
    intro k q
    cases o with
    | none =>
      rw [alL, ih]
      constructor
      · rintro ⟨i, h1, h2⟩
        exact ⟨i + 1, by simpa using h1, by omega⟩
      · rintro ⟨i, h1, h2⟩
        cases i with
        | zero => simp at h1
        | succ i => exact ⟨i, by simpa using h1, by omega⟩
    | some v =>
      rw [alL, List.mem_cons, ih]
      constructor
      · rintro (rfl | ⟨i, h1, h2⟩)
        · exact ⟨0, rfl, rfl⟩
        · exact ⟨i + 1, by simpa using h1, by omega⟩
      · rintro ⟨i, h1, h2⟩
        cases i with
        | zero =>
          refine Or.inl ?_
          simp at h1
          obtain ⟨a, b⟩ := q
          simp at h1 h2
          rw [h1, h2]
        | succ i => exact Or.inr ⟨i, by simpa using h1, by omega⟩
theorem hasL_lv {a : Array Slot} {nL : Nat} {L : List (Option Value)} (h : hasL a nL L) : lv_has a nL (alL 0 L) := by
  refine ⟨h.1, h.2.1, fun q hq => ?_⟩
  obtain ⟨i, h1, h2⟩ := (alL_mem L 0 q).mp hq
  rw [h2, Nat.zero_add]
  exact h.2.2 i q.2 h1
theorem hasL_mono {a : Array Slot} {nL : Nat} {L L' : List (Option Value)} (h : hasL a nL L) (hm : ∀ (i : Nat) (v : Value), L'[i]? = some (some v) → L[i]? = some (some v)) : hasL a nL L' := ⟨h.1, h.2.1, fun i v q => h.2.2 i v (hm i v q)⟩
/-- only the masked places stay -/
def mskL : List (Option Value) → List Bool → List (Option Value)
  | [], _ => []
  | _ :: _, [] => []
  | o :: r, b :: bs => (if b then o else none) :: mskL r bs
theorem mskL_le : ∀ (L : List (Option Value)) (bs : List Bool) (i : Nat) (v : Value), (mskL L bs)[i]? = some (some v) → L[i]? = some (some v) := by
  intro L
  induction L with
  | nil => intro bs i v h; simp [mskL] at h
  | cons o L ih =>
    intro bs i v h
    cases bs with
    | nil => simp [mskL] at h
    | cons b bs =>
      cases i with
      | zero =>
        cases b <;> simp [mskL] at h ⊢
        exact h
      | succ i => simpa using ih bs i v (by simpa [mskL] using h)
/-- the place ahead holds no long -/
def okS (L : List (Option Value)) (i : Nat) : Bool := match i with
  | 0 => true
  | k + 1 => match L[k]? with
    | some (some v) => v.category == 1
    | _ => true
theorem hasL_set1 {a a' : Array Slot} {nL i : Nat} {L : List (Option Value)} {v : Value} (ho : okS L i = true) (h : lv_has a' nL ((i, v) :: (alL 0 L).filter (fun q => !(q.1 == i) && !(q.1 + 1 == i && q.2.category == 2)))) : hasL a' nL (L.set i (some v)) := by
  refine ⟨h.1, h.2.1, fun j x hj => ?_⟩
  by_cases e : j = i
  · subst e
    have hl : j < L.length := by
      have := (List.getElem?_eq_some_iff.mp hj).1
      simpa using this
    rw [List.getElem?_set_self hl] at hj
    cases hj
    exact h.2.2 (j, v) List.mem_cons_self
  · rw [List.getElem?_set_ne (Ne.symm e)] at hj
    refine h.2.2 (j, x) (List.mem_cons_of_mem _ (List.mem_filter.mpr ⟨(alL_mem L 0 (j, x)).mpr ⟨j, hj, by simp⟩, ?_⟩))
    by_cases e2 : j + 1 = i
    · subst e2
      simp only [okS, hj] at ho
      have hc : x.category = 1 := by simpa using ho
      simp [hc]
    · simp [e, e2]
theorem hasL_set2 {a a' : Array Slot} {nL i : Nat} {L : List (Option Value)} {v : Value} (ho : okS L i = true) (h : lv_has a' nL ((i, v) :: (alL 0 L).filter (fun q => !(q.1 == i) && (!(q.1 == i + 1) && !(q.1 + 1 == i && q.2.category == 2))))) : hasL a' nL ((L.set i (some v)).set (i + 1) none) := by
  refine ⟨h.1, h.2.1, fun j x hj => ?_⟩
  by_cases e1 : j = i + 1
  · subst e1
    have hl : i + 1 < ((L.set i (some v)).set (i + 1) none).length := (List.getElem?_eq_some_iff.mp hj).1
    rw [List.getElem?_set_self (by simpa using hl)] at hj
    cases hj
  · rw [List.getElem?_set_ne (Ne.symm e1)] at hj
    by_cases e : j = i
    · subst e
      have hl : j < L.length := by
        have := (List.getElem?_eq_some_iff.mp hj).1
        simpa using this
      rw [List.getElem?_set_self hl] at hj
      cases hj
      exact h.2.2 (j, v) List.mem_cons_self
    · rw [List.getElem?_set_ne (Ne.symm e)] at hj
      refine h.2.2 (j, x) (List.mem_cons_of_mem _ (List.mem_filter.mpr ⟨(alL_mem L 0 (j, x)).mpr ⟨j, hj, by simp⟩, ?_⟩))
      by_cases e2 : j + 1 = i
      · subst e2
        simp only [okS, hj] at ho
        have hc : x.category = 1 := by simpa using ho
        have h9 : ¬ j = j + 1 + 1 := by omega
        simp [hc, h9]
      · simp [e, e1, e2]
theorem padS_len : ∀ vs : List Value, (padS vs).length = (lg_sl vs).length := by
  intro vs
  induction vs with
  | nil => rfl
  | cons v vs ih =>
    by_cases h : v.category = 2 <;> simp [padS, lg_sl, h] <;> simpa [lg_sl] using ih
theorem padS_arg : ∀ (vs : List Value) (k i : Nat) (v : Value), (padS vs)[i]? = some (some v) → (k + i, v) ∈ lv_args k vs := by
  intro vs
  induction vs with
  | nil => intro k i v h; simp [padS] at h
  | cons w vs ih =>
    intro k i v h
    by_cases hc : w.category = 2
    · simp only [padS, hc, if_true] at h
      simp only [lv_args, hc, if_true]
      match i, h with
      | 0, h => simp at h; subst h; simp
      | 1, h => simp at h
      | i + 2, h =>
        have := ih (k + 2) i v (by simpa using h)
        rw [show k + (i + 2) = k + 2 + i by omega]
        exact List.mem_cons_of_mem _ this
    · simp only [padS, hc, if_false] at h
      simp only [lv_args, hc, if_false]
      match i, h with
      | 0, h => simp at h; subst h; simp
      | i + 1, h =>
        have := ih (k + 1) i v (by simpa using h)
        rw [show k + (i + 1) = k + 1 + i by omega]
        exact List.mem_cons_of_mem _ this
theorem hasL_entry (vs : List Value) {n : Nat} (h : (lg_sl vs).length ≤ n) : hasL ((lg_sl vs ++ List.replicate (n - (lg_sl vs).length) Slot.unset).toArray) n (padL vs n) := by
  have hl := lv_entry vs h
  refine ⟨hl.1, hl.2.1, fun i v q => ?_⟩
  have h2 : (padS vs)[i]? = some (some v) := by
    unfold padL at q
    by_cases hi : i < (padS vs).length
    · rwa [List.getElem?_append_left hi] at q
    · rw [List.getElem?_append_right (by omega), List.getElem?_replicate] at q
      split at q <;> cases q
  have := padS_arg vs 0 i v h2
  rw [Nat.zero_add] at this
  exact hl.2.2 (i, v) this
/-! ===== V: from here the method ends so; Ct: a method's contract ===== -/
abbrev Fr : Type := (Program × Launch × Env × State × MethodId × Array Value) × (List Frame × Method × Code × Glo)
def gl (φ : Fr) : Glo := φ.2.2.2.2
def rf (φ : Fr) (f i : Nat) : Value := .ref ((gl φ).1 f i)
def rmD (d : Nat) : Room := { frames := d + 1, cells := 0, slots := 0, locals := 100 * (d + 1) }
def Qr (Ω : Wld) (G : Glo) (ρ : Option Value × Mem) : Array Value → State → Outcome → State → Prop := fun _ st o t => (o = .returned ρ.1 ∧ Wd Ω G ρ.2 t.heap) ∧ va_F (Aw Ω G) st t
def V (φ : Fr) (Ω : Wld) (nL d pc : Nat) (L : List (Option Value)) (st : List Value) (μ : Mem) (ρ : Option Value × Mem) : Prop :=
  ∀ (H : Heap) (locs : List Loc) (a : Array Slot), Wd Ω (gl φ) μ H → va_S (Aw Ω (gl φ)) φ.1.2.2.2.1.heap H locs → hasL a nL L → W φ.1.1 φ.1.2.1 φ.1.2.2.1 (rmD d) φ.1.2.2.2.1 φ.1.2.2.2.2.1 φ.1.2.2.2.2.2 φ.2.1 φ.2.2.1 φ.2.2.2.1 H locs 0 0 (MQ φ.2.1 (Qr Ω (gl φ) ρ) φ.1.2.2.2.2.2 φ.1.2.2.2.1 0 0 (Aw Ω (gl φ))) (F0 φ.1.2.2.2.2.1 pc a st)
def Fx (φ : Fr) (Ω : Wld) (cc : ByteArray) (own : String) (nL : Nat) (ret : Option FieldType) : Prop :=
  φ.1.1.tables.exec = Jvm.exec ∧ φ.2.2.2.1.code = cc ∧ φ.2.2.2.1.maxLocals = nL ∧ φ.1.2.2.2.1.vm.findClass own = some φ.1.2.2.2.2.1.cls ∧ (∀ w ∈ lw_G, w.before φ.1.2.2.2.2.2 φ.1.2.2.2.1 = true) ∧ φ.2.2.1.sig.returnType = ret ∧ φ.2.2.1.locks = false ∧ Cx Ω (gl φ) φ.1.2.2.2.1 φ.1.2.2.2.1.heap
def Ct (l : Launch) (Ω : Wld) (G : Glo) (d : Nat) (y : MethodName) (b : ByteArray) (nL : Nat) (ret : Option FieldType) (args : List Value) (μ : Mem) (ρ : Option Value × Mem) : Prop :=
  Met l y (.code y b nL ret :: lw_G) (rmD d) (va_Pc args (fun U => Cx Ω G U U.heap ∧ Wd Ω G μ U.heap)) (Qr Ω G ρ) 0 0 (Aw Ω G)
theorem Ct.intro {l : Launch} {Ω : Wld} {G : Glo} {d : Nat} {y : MethodName} {b : ByteArray} {nL : Nat} {ret : Option FieldType} {args : List Value} {μ : Mem} {ρ : Option Value × Mem} (hy : plainName y.cls = true) (hl : (lg_sl args).length ≤ nL) (body : ∀ φ : Fr, φ.1.2.1 = l → gl φ = G → Fx φ Ω b y.cls nL ret → V φ Ω nL d 0 (padL args nL) [] μ ρ) : Ct l Ω G d y b nL ret args μ ρ := by
  refine Met.ofW (cc := b) (maxL := nL) (ret := ret) hy rfl ?_
  intro p e s m args' below meth c s₁ B hml hv
  obtain ⟨rfl, hC, hP⟩ := hv
  have hts := atoms_spec (ws := Cond.code y b nL ret :: lw_G) B.pre
  rw [lg_entry_eq]
  exact body ((p, l, e, s, m, args.toArray), (below, meth, c, G)) rfl rfl ⟨B.exec, B.bytes, hml, findClass_of_methodNamed B.named, fun w h => hts w (List.mem_cons_of_mem _ h), B.returns, B.notSynchronized, hC⟩ s.heap [] _ hP va_S.rf (hasL_entry args hl)
section VROWS
variable {φ : Fr} {Ω : Wld} {cc : ByteArray} {own : String} {nL : Nat} {ret : Option FieldType} {d pc : Nat} {L : List (Option Value)} {st rest : List Value} {μ : Mem} {ρ : Option Value × Mem}
theorem Fx.G {w : Cond} (F : Fx φ Ω cc own nL ret) (h : w ∈ lw_G) : w.before φ.1.2.2.2.2.2 φ.1.2.2.2.1 = true := F.2.2.2.2.1 w h
theorem Fx.C (F : Fx φ Ω cc own nL ret) : Cx Ω (gl φ) φ.1.2.2.2.1 φ.1.2.2.2.1.heap := F.2.2.2.2.2.2.2
theorem V.msk (bs : List Bool) {L' : List (Option Value)} (hL : mskL L bs = L') (k : V φ Ω nL d pc L' st μ ρ) : V φ Ω nL d pc L st μ ρ := fun H locs a hP hS hl => k H locs a hP hS (hasL_mono hl (by rw [← hL]; exact mskL_le L bs))
theorem V.eqv {st' : List Value} (e : st' = st) (k : V φ Ω nL d pc L st' μ ρ) : V φ Ω nL d pc L st μ ρ := e ▸ k
theorem V.topi {x : Int32} (k : ∀ y : Int32, y = x → V φ Ω nL d pc L (.int y :: rest) μ ρ) : V φ Ω nL d pc L (.int x :: rest) μ ρ := k x rfl

theorem V.iconst {n : Int} {v : Int32} (F : Fx φ Ω cc own nL ret) (hd : decode cc pc = .ok (.iconst n, 1)) (hv : Int32.ofInt n = v) (k : V φ Ω nL d (pc + 1) L (.int v :: rest) μ ρ) : V φ Ω nL d pc L (rest) μ ρ := fun H locs a hP hS hl => lv_iconst F.1 F.2.1 hd hv (k H locs a hP hS hl)
theorem V.bipush {n : Int} {v : Int32} (F : Fx φ Ω cc own nL ret) (hd : decode cc pc = .ok (.bipush n, 2)) (hv : (Int8.ofInt n).toInt32 = v) (k : V φ Ω nL d (pc + 2) L (.int v :: rest) μ ρ) : V φ Ω nL d pc L (rest) μ ρ := fun H locs a hP hS hl => lv_bipush F.1 F.2.1 hd hv (k H locs a hP hS hl)
theorem V.sipush {n : Int} {v : Int32} (F : Fx φ Ω cc own nL ret) (hd : decode cc pc = .ok (.sipush n, 3)) (hv : (Int16.ofInt n).toInt32 = v) (k : V φ Ω nL d (pc + 3) L (.int v :: rest) μ ρ) : V φ Ω nL d pc L (rest) μ ρ := fun H locs a hP hS hl => lv_sipush F.1 F.2.1 hd hv (k H locs a hP hS hl)
theorem V.lconst {n : Fin 2} {v : Int64} (F : Fx φ Ω cc own nL ret) (hd : decode cc pc = .ok (.lconst n, 1)) (hv : Int64.ofNat (n : Nat) = v) (k : V φ Ω nL d (pc + 1) L (.long v :: rest) μ ρ) : V φ Ω nL d pc L (rest) μ ρ := fun H locs a hP hS hl => lv_lconst F.1 F.2.1 hd hv (k H locs a hP hS hl)
theorem V.iadd {x y : Int32} (F : Fx φ Ω cc own nL ret) (hd : decode cc pc = .ok (.iadd, 1))  (k : V φ Ω nL d (pc + 1) L (.int (x + y) :: rest) μ ρ) : V φ Ω nL d pc L (.int y :: .int x :: rest) μ ρ := fun H locs a hP hS hl => lv_iadd F.1 F.2.1 hd  (k H locs a hP hS hl)
theorem V.isub {x y : Int32} (F : Fx φ Ω cc own nL ret) (hd : decode cc pc = .ok (.isub, 1))  (k : V φ Ω nL d (pc + 1) L (.int (x - y) :: rest) μ ρ) : V φ Ω nL d pc L (.int y :: .int x :: rest) μ ρ := fun H locs a hP hS hl => lv_isub F.1 F.2.1 hd  (k H locs a hP hS hl)
theorem V.imul {x y : Int32} (F : Fx φ Ω cc own nL ret) (hd : decode cc pc = .ok (.imul, 1))  (k : V φ Ω nL d (pc + 1) L (.int (x * y) :: rest) μ ρ) : V φ Ω nL d pc L (.int y :: .int x :: rest) μ ρ := fun H locs a hP hS hl => lv_imul F.1 F.2.1 hd  (k H locs a hP hS hl)
theorem V.iand {x y : Int32} (F : Fx φ Ω cc own nL ret) (hd : decode cc pc = .ok (.iand, 1))  (k : V φ Ω nL d (pc + 1) L (.int (x &&& y) :: rest) μ ρ) : V φ Ω nL d pc L (.int y :: .int x :: rest) μ ρ := fun H locs a hP hS hl => lv_iand F.1 F.2.1 hd  (k H locs a hP hS hl)
theorem V.ior {x y : Int32} (F : Fx φ Ω cc own nL ret) (hd : decode cc pc = .ok (.ior, 1))  (k : V φ Ω nL d (pc + 1) L (.int (x ||| y) :: rest) μ ρ) : V φ Ω nL d pc L (.int y :: .int x :: rest) μ ρ := fun H locs a hP hS hl => lv_ior F.1 F.2.1 hd  (k H locs a hP hS hl)
theorem V.ixor {x y : Int32} (F : Fx φ Ω cc own nL ret) (hd : decode cc pc = .ok (.ixor, 1))  (k : V φ Ω nL d (pc + 1) L (.int (x ^^^ y) :: rest) μ ρ) : V φ Ω nL d pc L (.int y :: .int x :: rest) μ ρ := fun H locs a hP hS hl => lv_ixor F.1 F.2.1 hd  (k H locs a hP hS hl)
theorem V.idiv {x y : Int32} (F : Fx φ Ω cc own nL ret) (hd : decode cc pc = .ok (.idiv, 1)) (hn : ¬ y = 0) (k : V φ Ω nL d (pc + 1) L (.int (x / y) :: rest) μ ρ) : V φ Ω nL d pc L (.int y :: .int x :: rest) μ ρ := fun H locs a hP hS hl => lv_idiv F.1 F.2.1 hd hn (k H locs a hP hS hl)
theorem V.irem {x y : Int32} (F : Fx φ Ω cc own nL ret) (hd : decode cc pc = .ok (.irem, 1)) (hn : ¬ y = 0) (k : V φ Ω nL d (pc + 1) L (.int (irm x y) :: rest) μ ρ) : V φ Ω nL d pc L (.int y :: .int x :: rest) μ ρ := fun H locs a hP hS hl => lv_irem F.1 F.2.1 hd hn (k H locs a hP hS hl)
theorem V.ineg {x : Int32} (F : Fx φ Ω cc own nL ret) (hd : decode cc pc = .ok (.ineg, 1))  (k : V φ Ω nL d (pc + 1) L (.int (-x) :: rest) μ ρ) : V φ Ω nL d pc L (.int x :: rest) μ ρ := fun H locs a hP hS hl => lv_ineg F.1 F.2.1 hd  (k H locs a hP hS hl)
theorem V.ishl {x y : Int32} (F : Fx φ Ω cc own nL ret) (hd : decode cc pc = .ok (.ishl, 1))  (k : V φ Ω nL d (pc + 1) L (.int (shl x y) :: rest) μ ρ) : V φ Ω nL d pc L (.int y :: .int x :: rest) μ ρ := fun H locs a hP hS hl => lv_ishl F.1 F.2.1 hd  (k H locs a hP hS hl)
theorem V.ishr {x y : Int32} (F : Fx φ Ω cc own nL ret) (hd : decode cc pc = .ok (.ishr, 1))  (k : V φ Ω nL d (pc + 1) L (.int (shr x y) :: rest) μ ρ) : V φ Ω nL d pc L (.int y :: .int x :: rest) μ ρ := fun H locs a hP hS hl => lv_ishr F.1 F.2.1 hd  (k H locs a hP hS hl)
theorem V.iushr {x y : Int32} (F : Fx φ Ω cc own nL ret) (hd : decode cc pc = .ok (.iushr, 1))  (k : V φ Ω nL d (pc + 1) L (.int (ush x y) :: rest) μ ρ) : V φ Ω nL d pc L (.int y :: .int x :: rest) μ ρ := fun H locs a hP hS hl => lv_iushr F.1 F.2.1 hd rfl (k H locs a hP hS hl)
theorem V.i2l {x : Int32} (F : Fx φ Ω cc own nL ret) (hd : decode cc pc = .ok (.i2l, 1))  (k : V φ Ω nL d (pc + 1) L (.long x.toInt64 :: rest) μ ρ) : V φ Ω nL d pc L (.int x :: rest) μ ρ := fun H locs a hP hS hl => lv_i2l F.1 F.2.1 hd rfl (k H locs a hP hS hl)
theorem V.l2i {x : Int64} (F : Fx φ Ω cc own nL ret) (hd : decode cc pc = .ok (.l2i, 1))  (k : V φ Ω nL d (pc + 1) L (.int x.toInt32 :: rest) μ ρ) : V φ Ω nL d pc L (.long x :: rest) μ ρ := fun H locs a hP hS hl => lv_l2i F.1 F.2.1 hd rfl (k H locs a hP hS hl)
theorem V.i2b {x : Int32} (F : Fx φ Ω cc own nL ret) (hd : decode cc pc = .ok (.i2b, 1))  (k : V φ Ω nL d (pc + 1) L (.int (b8 x) :: rest) μ ρ) : V φ Ω nL d pc L (.int x :: rest) μ ρ := fun H locs a hP hS hl => lv_i2b F.1 F.2.1 hd rfl (k H locs a hP hS hl)
theorem V.i2s {x : Int32} (F : Fx φ Ω cc own nL ret) (hd : decode cc pc = .ok (.i2s, 1))  (k : V φ Ω nL d (pc + 1) L (.int (b16 x) :: rest) μ ρ) : V φ Ω nL d pc L (.int x :: rest) μ ρ := fun H locs a hP hS hl => lv_i2s F.1 F.2.1 hd rfl (k H locs a hP hS hl)
theorem V.ladd {x y : Int64} (F : Fx φ Ω cc own nL ret) (hd : decode cc pc = .ok (.ladd, 1))  (k : V φ Ω nL d (pc + 1) L (.long (x + y) :: rest) μ ρ) : V φ Ω nL d pc L (.long y :: .long x :: rest) μ ρ := fun H locs a hP hS hl => lv_ladd F.1 F.2.1 hd  (k H locs a hP hS hl)
theorem V.lsub {x y : Int64} (F : Fx φ Ω cc own nL ret) (hd : decode cc pc = .ok (.lsub, 1))  (k : V φ Ω nL d (pc + 1) L (.long (x - y) :: rest) μ ρ) : V φ Ω nL d pc L (.long y :: .long x :: rest) μ ρ := fun H locs a hP hS hl => lv_lsub F.1 F.2.1 hd  (k H locs a hP hS hl)
theorem V.lmul {x y : Int64} (F : Fx φ Ω cc own nL ret) (hd : decode cc pc = .ok (.lmul, 1))  (k : V φ Ω nL d (pc + 1) L (.long (x * y) :: rest) μ ρ) : V φ Ω nL d pc L (.long y :: .long x :: rest) μ ρ := fun H locs a hP hS hl => lv_lmul F.1 F.2.1 hd  (k H locs a hP hS hl)
theorem V.ldiv {x y : Int64} (F : Fx φ Ω cc own nL ret) (hd : decode cc pc = .ok (.ldiv, 1)) (hn : ¬ y = 0) (k : V φ Ω nL d (pc + 1) L (.long (x / y) :: rest) μ ρ) : V φ Ω nL d pc L (.long y :: .long x :: rest) μ ρ := fun H locs a hP hS hl => lv_ldiv F.1 F.2.1 hd hn (k H locs a hP hS hl)
theorem V.lrem {x y : Int64} (F : Fx φ Ω cc own nL ret) (hd : decode cc pc = .ok (.lrem, 1)) (hn : ¬ y = 0) (k : V φ Ω nL d (pc + 1) L (.long (lrm x y) :: rest) μ ρ) : V φ Ω nL d pc L (.long y :: .long x :: rest) μ ρ := fun H locs a hP hS hl => lv_lrem F.1 F.2.1 hd hn (k H locs a hP hS hl)
theorem V.lcmp {x y : Int64} (F : Fx φ Ω cc own nL ret) (hd : decode cc pc = .ok (.lcmp, 1))  (k : V φ Ω nL d (pc + 1) L (.int (lg_cmp x y) :: rest) μ ρ) : V φ Ω nL d pc L (.long y :: .long x :: rest) μ ρ := fun H locs a hP hS hl => W.lcmp F.1 F.2.1 hd  (k H locs a hP hS hl)
theorem V.dup {v : Value} (F : Fx φ Ω cc own nL ret) (hd : decode cc pc = .ok (.dup, 1)) (hv : v.category = 1) (k : V φ Ω nL d (pc + 1) L (v :: v :: rest) μ ρ) : V φ Ω nL d pc L (v :: rest) μ ρ := fun H locs a hP hS hl => lv_dup F.1 F.2.1 hd hv (k H locs a hP hS hl)
theorem V.pop {v : Value} (F : Fx φ Ω cc own nL ret) (hd : decode cc pc = .ok (.pop, 1)) (hv : v.category = 1) (k : V φ Ω nL d (pc + 1) L (rest) μ ρ) : V φ Ω nL d pc L (v :: rest) μ ρ := fun H locs a hP hS hl => lv_pop F.1 F.2.1 hd hv (k H locs a hP hS hl)
theorem V.dup2 {v u : Value} (F : Fx φ Ω cc own nL ret) (hd : decode cc pc = .ok (.dup2, 1)) (hv : v.category = 1) (hu : u.category = 1) (k : V φ Ω nL d (pc + 1) L (v :: u :: v :: u :: rest) μ ρ) : V φ Ω nL d pc L (v :: u :: rest) μ ρ := fun H locs a hP hS hl => lv_dup2_11 F.1 F.2.1 hd hv hu (k H locs a hP hS hl)
theorem V.null  (F : Fx φ Ω cc own nL ret) (hd : decode cc pc = .ok (.aconst_null, 1))  (k : V φ Ω nL d (pc + 1) L (.null :: rest) μ ρ) : V φ Ω nL d pc L (rest) μ ρ := fun H locs a hP hS hl => lv_null F.1 F.2.1 hd  (k H locs a hP hS hl)
theorem V.ldc {idx : Nat} {v : Int32} (F : Fx φ Ω cc own nL ret) (hw : Cond.constant own idx v ∈ lw_G) (hd : decode cc pc = .ok (.ldc idx, 2)) (k : V φ Ω nL d (pc + 2) L (.int v :: rest) μ ρ) : V φ Ω nL d pc L rest μ ρ := fun H locs a hP hS hl => lv_ldc F.1 F.2.1 F.2.2.2.1 (F.G hw) hd (k H locs a hP hS hl)
theorem V.ldcw {idx : Nat} {v : Int32} (F : Fx φ Ω cc own nL ret) (hw : Cond.constant own idx v ∈ lw_G) (hd : decode cc pc = .ok (.ldc_w idx, 3)) (k : V φ Ω nL d (pc + 3) L (.int v :: rest) μ ρ) : V φ Ω nL d pc L rest μ ρ := fun H locs a hP hS hl => lv_ldcw F.1 F.2.1 F.2.2.2.1 (F.G hw) hd (k H locs a hP hS hl)
theorem V.ldc2 {idx : Nat} {v : Int64} (F : Fx φ Ω cc own nL ret) (hw : Cond.constantLong own idx v ∈ lw_G) (hd : decode cc pc = .ok (.ldc2_w idx, 3)) (k : V φ Ω nL d (pc + 3) L (.long v :: rest) μ ρ) : V φ Ω nL d pc L rest μ ρ := fun H locs a hP hS hl => lv_ldc2 F.1 F.2.1 F.2.2.2.1 (F.G hw) hd (k H locs a hP hS hl)
theorem V.ldcS {idx i : Nat} (F : Fx φ Ω cc own nL ret) (hi : i < nJS) (ho : ownJS i = own) (hx : idxJS i = idx) (hd : decode cc pc = .ok (.ldc idx, 2)) (k : V φ Ω nL d (pc + 2) L (.ref ((gl φ).2.2.2.1 i) :: rest) μ ρ) : V φ Ω nL d pc L rest μ ρ := by
  subst ho; subst hx
  exact fun H locs a hP hS hl => va_ldcS F.1 F.2.1 F.2.2.2.1 (F.C.2.2.2.1.2.1 i hi) hd (k H locs a hP hS hl)
theorem V.iload_n {q : Fin 4} {i : Nat} {x : Int32} (F : Fx φ Ω cc own nL ret) (hd : decode cc pc = .ok (.iload_n q, 1)) (hi : (q : Nat) = i) (hx : L[i]? = some (some (.int x))) (k : V φ Ω nL d (pc + 1) L (.int x :: rest) μ ρ) : V φ Ω nL d pc L rest μ ρ := fun H locs a hP hS hl => lv_iload_n F.1 F.2.1 hd hi (hl.2.2 i _ hx) (k H locs a hP hS hl)
theorem V.iload {i : Nat} {x : Int32} (F : Fx φ Ω cc own nL ret) (hd : decode cc pc = .ok (.iload i, 2)) (hx : L[i]? = some (some (.int x))) (k : V φ Ω nL d (pc + 2) L (.int x :: rest) μ ρ) : V φ Ω nL d pc L rest μ ρ := fun H locs a hP hS hl => lv_iload F.1 F.2.1 hd (hl.2.2 i _ hx) (k H locs a hP hS hl)
theorem V.lload_n {q : Fin 4} {i : Nat} {x : Int64} (F : Fx φ Ω cc own nL ret) (hd : decode cc pc = .ok (.lload_n q, 1)) (hi : (q : Nat) = i) (hx : L[i]? = some (some (.long x))) (k : V φ Ω nL d (pc + 1) L (.long x :: rest) μ ρ) : V φ Ω nL d pc L rest μ ρ := fun H locs a hP hS hl => lv_lload_n F.1 F.2.1 hd hi (hl.2.2 i _ hx) (k H locs a hP hS hl)
theorem V.lload {i : Nat} {x : Int64} (F : Fx φ Ω cc own nL ret) (hd : decode cc pc = .ok (.lload i, 2)) (hx : L[i]? = some (some (.long x))) (k : V φ Ω nL d (pc + 2) L (.long x :: rest) μ ρ) : V φ Ω nL d pc L rest μ ρ := fun H locs a hP hS hl => lv_lload F.1 F.2.1 hd (hl.2.2 i _ hx) (k H locs a hP hS hl)
theorem V.aload_n {q : Fin 4} {i : Nat} {x : Nat} (F : Fx φ Ω cc own nL ret) (hd : decode cc pc = .ok (.aload_n q, 1)) (hi : (q : Nat) = i) (hx : L[i]? = some (some (.ref x))) (k : V φ Ω nL d (pc + 1) L (.ref x :: rest) μ ρ) : V φ Ω nL d pc L rest μ ρ := fun H locs a hP hS hl => lv_aload_n F.1 F.2.1 hd hi (hl.2.2 i _ hx) (k H locs a hP hS hl)
theorem V.aload {i : Nat} {x : Nat} (F : Fx φ Ω cc own nL ret) (hd : decode cc pc = .ok (.aload i, 2)) (hx : L[i]? = some (some (.ref x))) (k : V φ Ω nL d (pc + 2) L (.ref x :: rest) μ ρ) : V φ Ω nL d pc L rest μ ρ := fun H locs a hP hS hl => lv_aload F.1 F.2.1 hd (hl.2.2 i _ hx) (k H locs a hP hS hl)
theorem V.rload_n {q : Fin 4} {i f j : Nat} (F : Fx φ Ω cc own nL ret) (hd : decode cc pc = .ok (.aload_n q, 1)) (hi : (q : Nat) = i) (hx : L[i]? = some (some (rf φ f j))) (k : V φ Ω nL d (pc + 1) L (rf φ f j :: rest) μ ρ) : V φ Ω nL d pc L rest μ ρ := V.aload_n F hd hi hx k
theorem V.rload {i f j : Nat} (F : Fx φ Ω cc own nL ret) (hd : decode cc pc = .ok (.aload i, 2)) (hx : L[i]? = some (some (rf φ f j))) (k : V φ Ω nL d (pc + 2) L (rf φ f j :: rest) μ ρ) : V φ Ω nL d pc L rest μ ρ := V.aload F hd hx k
theorem V.istore_n {q : Fin 4} {i : Nat} {x y : Int32} {L' : List (Option Value)} (F : Fx φ Ω cc own nL ret) (hd : decode cc pc = .ok (.istore_n q, 1)) (hi : (q : Nat) = i) (hn : i < nL) (ho : okS L i = true) (e : x = y) (hL : L.set i (some (.int y)) = L') (k : V φ Ω nL d (pc + 1) L' rest μ ρ) : V φ Ω nL d pc L (.int x :: rest) μ ρ := e ▸ fun H locs a hP hS hl => lv_istore_n F.1 F.2.1 hd hi (hasL_lv hl) hn rfl (fun a' h' => k H locs a' hP hS (hL ▸ hasL_set1 (a := a) ho h'))
theorem V.istore {i : Nat} {x y : Int32} {L' : List (Option Value)} (F : Fx φ Ω cc own nL ret) (hd : decode cc pc = .ok (.istore i, 2)) (hn : i < nL) (ho : okS L i = true) (e : x = y) (hL : L.set i (some (.int y)) = L') (k : V φ Ω nL d (pc + 2) L' rest μ ρ) : V φ Ω nL d pc L (.int x :: rest) μ ρ := e ▸ fun H locs a hP hS hl => lv_istore F.1 F.2.1 hd (hasL_lv hl) hn rfl (fun a' h' => k H locs a' hP hS (hL ▸ hasL_set1 (a := a) ho h'))
theorem V.lstore_n {q : Fin 4} {i : Nat} {x y : Int64} {L' : List (Option Value)} (F : Fx φ Ω cc own nL ret) (hd : decode cc pc = .ok (.lstore_n q, 1)) (hi : (q : Nat) = i) (hn : i + 1 < nL) (ho : okS L i = true) (e : x = y) (hL : (L.set i (some (.long y))).set (i + 1) none = L') (k : V φ Ω nL d (pc + 1) L' rest μ ρ) : V φ Ω nL d pc L (.long x :: rest) μ ρ := e ▸ fun H locs a hP hS hl => lv_lstore_n F.1 F.2.1 hd hi (hasL_lv hl) hn rfl (fun a' h' => k H locs a' hP hS (hL ▸ hasL_set2 (a := a) ho h'))
theorem V.lstore {i : Nat} {x y : Int64} {L' : List (Option Value)} (F : Fx φ Ω cc own nL ret) (hd : decode cc pc = .ok (.lstore i, 2)) (hn : i + 1 < nL) (ho : okS L i = true) (e : x = y) (hL : (L.set i (some (.long y))).set (i + 1) none = L') (k : V φ Ω nL d (pc + 2) L' rest μ ρ) : V φ Ω nL d pc L (.long x :: rest) μ ρ := e ▸ fun H locs a hP hS hl => lv_lstore F.1 F.2.1 hd (hasL_lv hl) hn rfl (fun a' h' => k H locs a' hP hS (hL ▸ hasL_set2 (a := a) ho h'))
theorem V.astore_n {q : Fin 4} {i : Nat} {x y : Nat} {L' : List (Option Value)} (F : Fx φ Ω cc own nL ret) (hd : decode cc pc = .ok (.astore_n q, 1)) (hi : (q : Nat) = i) (hn : i < nL) (ho : okS L i = true) (e : x = y) (hL : L.set i (some (.ref y)) = L') (k : V φ Ω nL d (pc + 1) L' rest μ ρ) : V φ Ω nL d pc L (.ref x :: rest) μ ρ := e ▸ fun H locs a hP hS hl => lv_astore_n F.1 F.2.1 hd hi (hasL_lv hl) hn rfl (fun a' h' => k H locs a' hP hS (hL ▸ hasL_set1 (a := a) ho h'))
theorem V.astore {i : Nat} {x y : Nat} {L' : List (Option Value)} (F : Fx φ Ω cc own nL ret) (hd : decode cc pc = .ok (.astore i, 2)) (hn : i < nL) (ho : okS L i = true) (e : x = y) (hL : L.set i (some (.ref y)) = L') (k : V φ Ω nL d (pc + 2) L' rest μ ρ) : V φ Ω nL d pc L (.ref x :: rest) μ ρ := e ▸ fun H locs a hP hS hl => lv_astore F.1 F.2.1 hd (hasL_lv hl) hn rfl (fun a' h' => k H locs a' hP hS (hL ▸ hasL_set1 (a := a) ho h'))
theorem V.rstore_n {q : Fin 4} {i f j : Nat} {L' : List (Option Value)} (F : Fx φ Ω cc own nL ret) (hd : decode cc pc = .ok (.astore_n q, 1)) (hi : (q : Nat) = i) (hn : i < nL) (ho : okS L i = true) (hL : L.set i (some (rf φ f j)) = L') (k : V φ Ω nL d (pc + 1) L' rest μ ρ) : V φ Ω nL d pc L (rf φ f j :: rest) μ ρ := V.astore_n F hd hi hn ho rfl hL k
theorem V.rstore {i f j : Nat} {L' : List (Option Value)} (F : Fx φ Ω cc own nL ret) (hd : decode cc pc = .ok (.astore i, 2)) (hn : i < nL) (ho : okS L i = true) (hL : L.set i (some (rf φ f j)) = L') (k : V φ Ω nL d (pc + 2) L' rest μ ρ) : V φ Ω nL d pc L (rf φ f j :: rest) μ ρ := V.astore F hd hn ho rfl hL k
theorem alL_at {i : Nat} {v : Value} (h : L[i]? = some (some v)) : ∃ k : Nat, (alL 0 L)[k]? = some (i, v) := List.getElem?_of_mem ((alL_mem L 0 (i, v)).mpr ⟨i, h, by simp⟩)
theorem V.iinc {i : Nat} {n : Int} {x v z : Int32} {L' : List (Option Value)} (F : Fx φ Ω cc own nL ret) (hd : decode cc pc = .ok (.iinc i n, 3)) (hx : L[i]? = some (some (.int x))) (hz : Int32.ofInt n = z) (hv : x + z = v) (hn : i < nL) (ho : okS L i = true) (hL : L.set i (some (.int v)) = L') (k : V φ Ω nL d (pc + 3) L' rest μ ρ) : V φ Ω nL d pc L rest μ ρ := by
  obtain ⟨q, hq⟩ := alL_at hx
  subst hz
  exact fun H locs a hP hS hl => lv_iinc F.1 F.2.1 hd (hasL_lv hl) hq hv hn rfl (fun a' h' => k H locs a' hP hS (hL ▸ hasL_set1 (a := a) ho h'))
theorem i_ge {x y : Int32} (h : x ≥ y) : ¬ x < y := Int32.not_lt.mpr h
theorem i_nge {x y : Int32} (h : ¬ x ≥ y) : x < y := Int32.not_le.mp h
theorem i_le {x y : Int32} (h : x ≤ y) : ¬ y < x := Int32.not_lt.mpr h
theorem i_nle {x y : Int32} (h : ¬ x ≤ y) : y < x := Int32.not_le.mp h
theorem V.if_eq {x : Int32} {off : Int} {tgt : Nat} (F : Fx φ Ω cc own nL ret) (hd : decode cc pc = .ok (.ifCond .eq off, 3)) (ht : (pc : Int) + off = (tgt : Int)) (kt : x = 0 → V φ Ω nL d tgt L rest μ ρ) (kf : ¬ x = 0 → V φ Ω nL d (pc + 3) L rest μ ρ) : V φ Ω nL d pc L (.int x :: rest) μ ρ := fun H locs a hP hS hl => lv_if_eq F.1 F.2.1 hd ht (fun h => kt h H locs a hP hS hl) (fun h => kf h H locs a hP hS hl)
theorem V.icmp_eq {x y : Int32} {off : Int} {tgt : Nat} (F : Fx φ Ω cc own nL ret) (hd : decode cc pc = .ok (.if_icmp .eq off, 3)) (ht : (pc : Int) + off = (tgt : Int)) (kt : x = y → V φ Ω nL d tgt L rest μ ρ) (kf : ¬ x = y → V φ Ω nL d (pc + 3) L rest μ ρ) : V φ Ω nL d pc L (.int y :: .int x :: rest) μ ρ := fun H locs a hP hS hl => lv_icmp_eq F.1 F.2.1 hd ht (fun h => kt h H locs a hP hS hl) (fun h => kf h H locs a hP hS hl)
theorem V.if_ne {x : Int32} {off : Int} {tgt : Nat} (F : Fx φ Ω cc own nL ret) (hd : decode cc pc = .ok (.ifCond .ne off, 3)) (ht : (pc : Int) + off = (tgt : Int)) (kt : ¬ x = 0 → V φ Ω nL d tgt L rest μ ρ) (kf : x = 0 → V φ Ω nL d (pc + 3) L rest μ ρ) : V φ Ω nL d pc L (.int x :: rest) μ ρ := fun H locs a hP hS hl => lv_if_ne F.1 F.2.1 hd ht (fun h => kt h H locs a hP hS hl) (fun h => kf h H locs a hP hS hl)
theorem V.icmp_ne {x y : Int32} {off : Int} {tgt : Nat} (F : Fx φ Ω cc own nL ret) (hd : decode cc pc = .ok (.if_icmp .ne off, 3)) (ht : (pc : Int) + off = (tgt : Int)) (kt : ¬ x = y → V φ Ω nL d tgt L rest μ ρ) (kf : x = y → V φ Ω nL d (pc + 3) L rest μ ρ) : V φ Ω nL d pc L (.int y :: .int x :: rest) μ ρ := fun H locs a hP hS hl => lv_icmp_ne F.1 F.2.1 hd ht (fun h => kt h H locs a hP hS hl) (fun h => kf h H locs a hP hS hl)
theorem V.if_lt {x : Int32} {off : Int} {tgt : Nat} (F : Fx φ Ω cc own nL ret) (hd : decode cc pc = .ok (.ifCond .lt off, 3)) (ht : (pc : Int) + off = (tgt : Int)) (kt : x < 0 → V φ Ω nL d tgt L rest μ ρ) (kf : ¬ x < 0 → V φ Ω nL d (pc + 3) L rest μ ρ) : V φ Ω nL d pc L (.int x :: rest) μ ρ := fun H locs a hP hS hl => lv_if_lt F.1 F.2.1 hd ht (fun h => kt h H locs a hP hS hl) (fun h => kf h H locs a hP hS hl)
theorem V.icmp_lt {x y : Int32} {off : Int} {tgt : Nat} (F : Fx φ Ω cc own nL ret) (hd : decode cc pc = .ok (.if_icmp .lt off, 3)) (ht : (pc : Int) + off = (tgt : Int)) (kt : x < y → V φ Ω nL d tgt L rest μ ρ) (kf : ¬ x < y → V φ Ω nL d (pc + 3) L rest μ ρ) : V φ Ω nL d pc L (.int y :: .int x :: rest) μ ρ := fun H locs a hP hS hl => lv_icmp_lt F.1 F.2.1 hd ht (fun h => kt h H locs a hP hS hl) (fun h => kf h H locs a hP hS hl)
theorem V.if_ge {x : Int32} {off : Int} {tgt : Nat} (F : Fx φ Ω cc own nL ret) (hd : decode cc pc = .ok (.ifCond .ge off, 3)) (ht : (pc : Int) + off = (tgt : Int)) (kt : ¬ x < 0 → V φ Ω nL d tgt L rest μ ρ) (kf : x < 0 → V φ Ω nL d (pc + 3) L rest μ ρ) : V φ Ω nL d pc L (.int x :: rest) μ ρ := fun H locs a hP hS hl => lv_if_ge F.1 F.2.1 hd ht (fun h => kt (i_ge h) H locs a hP hS hl) (fun h => kf (i_nge h) H locs a hP hS hl)
theorem V.icmp_ge {x y : Int32} {off : Int} {tgt : Nat} (F : Fx φ Ω cc own nL ret) (hd : decode cc pc = .ok (.if_icmp .ge off, 3)) (ht : (pc : Int) + off = (tgt : Int)) (kt : ¬ x < y → V φ Ω nL d tgt L rest μ ρ) (kf : x < y → V φ Ω nL d (pc + 3) L rest μ ρ) : V φ Ω nL d pc L (.int y :: .int x :: rest) μ ρ := fun H locs a hP hS hl => lv_icmp_ge F.1 F.2.1 hd ht (fun h => kt (i_ge h) H locs a hP hS hl) (fun h => kf (i_nge h) H locs a hP hS hl)
theorem V.if_gt {x : Int32} {off : Int} {tgt : Nat} (F : Fx φ Ω cc own nL ret) (hd : decode cc pc = .ok (.ifCond .gt off, 3)) (ht : (pc : Int) + off = (tgt : Int)) (kt : 0 < x → V φ Ω nL d tgt L rest μ ρ) (kf : ¬ 0 < x → V φ Ω nL d (pc + 3) L rest μ ρ) : V φ Ω nL d pc L (.int x :: rest) μ ρ := fun H locs a hP hS hl => lv_if_gt F.1 F.2.1 hd ht (fun h => kt h H locs a hP hS hl) (fun h => kf h H locs a hP hS hl)
theorem V.icmp_gt {x y : Int32} {off : Int} {tgt : Nat} (F : Fx φ Ω cc own nL ret) (hd : decode cc pc = .ok (.if_icmp .gt off, 3)) (ht : (pc : Int) + off = (tgt : Int)) (kt : y < x → V φ Ω nL d tgt L rest μ ρ) (kf : ¬ y < x → V φ Ω nL d (pc + 3) L rest μ ρ) : V φ Ω nL d pc L (.int y :: .int x :: rest) μ ρ := fun H locs a hP hS hl => lv_icmp_gt F.1 F.2.1 hd ht (fun h => kt h H locs a hP hS hl) (fun h => kf h H locs a hP hS hl)
theorem V.if_le {x : Int32} {off : Int} {tgt : Nat} (F : Fx φ Ω cc own nL ret) (hd : decode cc pc = .ok (.ifCond .le off, 3)) (ht : (pc : Int) + off = (tgt : Int)) (kt : ¬ 0 < x → V φ Ω nL d tgt L rest μ ρ) (kf : 0 < x → V φ Ω nL d (pc + 3) L rest μ ρ) : V φ Ω nL d pc L (.int x :: rest) μ ρ := fun H locs a hP hS hl => lv_if_le F.1 F.2.1 hd ht (fun h => kt (i_le h) H locs a hP hS hl) (fun h => kf (i_nle h) H locs a hP hS hl)
theorem V.icmp_le {x y : Int32} {off : Int} {tgt : Nat} (F : Fx φ Ω cc own nL ret) (hd : decode cc pc = .ok (.if_icmp .le off, 3)) (ht : (pc : Int) + off = (tgt : Int)) (kt : ¬ y < x → V φ Ω nL d tgt L rest μ ρ) (kf : y < x → V φ Ω nL d (pc + 3) L rest μ ρ) : V φ Ω nL d pc L (.int y :: .int x :: rest) μ ρ := fun H locs a hP hS hl => lv_icmp_le F.1 F.2.1 hd ht (fun h => kt (i_le h) H locs a hP hS hl) (fun h => kf (i_nle h) H locs a hP hS hl)
theorem V.goto {off : Int} {tgt : Nat} (F : Fx φ Ω cc own nL ret) (hd : decode cc pc = .ok (.goto off, 3)) (ht : (pc : Int) + off = (tgt : Int)) (k : V φ Ω nL d tgt L rest μ ρ) : V φ Ω nL d pc L rest μ ρ := fun H locs a hP hS hl => lv_goto F.1 F.2.1 hd ht (k H locs a hP hS hl)
theorem V.tabOut {dflt lo hi : Int} {offs : Array Int} {len : Nat} {x : Int32} {tgt : Nat} (F : Fx φ Ω cc own nL ret) (hd : decode cc pc = .ok (.tableswitch dflt lo hi offs, len)) (h : x.toInt < lo ∨ hi < x.toInt) (ht : (pc : Int) + dflt = (tgt : Int)) (k : V φ Ω nL d tgt L rest μ ρ) : V φ Ω nL d pc L (.int x :: rest) μ ρ := fun H locs a hP hS hl => lv_tableOut F.1 F.2.1 hd h ht (k H locs a hP hS hl)
theorem V.tabIn {dflt lo hi : Int} {offs : Array Int} {len : Nat} {x : Int32} {off : Int} {tgt : Nat} (F : Fx φ Ω cc own nL ret) (hd : decode cc pc = .ok (.tableswitch dflt lo hi offs, len)) (h1 : ¬ x.toInt < lo) (h2 : ¬ hi < x.toInt) (ho : offs[(x.toInt - lo).toNat]? = some off) (ht : (pc : Int) + off = (tgt : Int)) (k : V φ Ω nL d tgt L rest μ ρ) : V φ Ω nL d pc L (.int x :: rest) μ ρ := fun H locs a hP hS hl => lv_tableIn F.1 F.2.1 hd h1 h2 ho ht (k H locs a hP hS hl)
theorem V.lookup {dflt : Int} {ps : Array (Int × Int)} {len : Nat} {x : Int32} {off : Int} {tgt : Nat} (F : Fx φ Ω cc own nL ret) (hd : decode cc pc = .ok (.lookupswitch dflt ps, len)) (hp : (ps.toList.zip (ps.toList.drop 1)).all (fun (a, next) => a.1 < next.1) = true) (ho : Op.lookupswitch.offset ps.toList dflt x.toInt = off) (ht : (pc : Int) + off = (tgt : Int)) (k : V φ Ω nL d tgt L rest μ ρ) : V φ Ω nL d pc L (.int x :: rest) μ ρ := fun H locs a hP hS hl => lv_lookup F.1 F.2.1 hd hp ho ht (k H locs a hP hS hl)
theorem V.iret {v : Int32} (F : Fx φ Ω cc own nL (some .int)) (hd : decode cc pc = .ok (.ireturn, 1)) : V φ Ω nL d pc L [.int v] μ (some (.int v), μ) := fun H locs a hP hS hl => W.iret F.1 F.2.1 F.2.2.2.2.2.1 (fun t ht hW => ⟨⟨rfl, by rw [ht]; exact hP⟩, hS.F ht⟩) hS.2.2 hd F.2.2.2.2.2.2.1
theorem V.zret {v : Int32} (F : Fx φ Ω cc own nL (some .boolean)) (hv : v = 0 ∨ v = 1) (hd : decode cc pc = .ok (.ireturn, 1)) : V φ Ω nL d pc L [.int v] μ (some (.int v), μ) := fun H locs a hP hS hl => W.zret F.1 F.2.1 F.2.2.2.2.2.1 (by rcases hv with rfl | rfl <;> rfl) (fun t ht hW => ⟨⟨rfl, by rw [ht]; exact hP⟩, hS.F ht⟩) hS.2.2 hd F.2.2.2.2.2.2.1
theorem V.vret (F : Fx φ Ω cc own nL none) (hd : decode cc pc = .ok (.return_, 1)) : V φ Ω nL d pc L [] μ (none, μ) := fun H locs a hP hS hl => W.vret F.1 F.2.1 F.2.2.2.2.2.1 (fun t ht hW => ⟨⟨rfl, by rw [ht]; exact hP⟩, hS.F ht⟩) hS.2.2 hd F.2.2.2.2.2.2.1
theorem V.lret {v : Int64} (F : Fx φ Ω cc own nL (some .long)) (hd : decode cc pc = .ok (.lreturn, 1)) : V φ Ω nL d pc L [.long v] μ (some (.long v), μ) := fun H locs a hP hS hl => W.lret F.1 F.2.1 F.2.2.2.2.2.1 (fun t ht hW => ⟨⟨rfl, by rw [ht]; exact hP⟩, hS.F ht⟩) hS.2.2 hd F.2.2.2.2.2.2.1
theorem V.aret {q : Nat} {rt : FieldType} (F : Fx φ Ω cc own nL (some rt)) (hrt : (∃ n, rt = .object n) ∨ ∃ t, rt = .array t) (hd : decode cc pc = .ok (.areturn, 1)) : V φ Ω nL d pc L [.ref q] μ (some (.ref q), μ) := fun H locs a hP hS hl => W.aret F.1 F.2.1 F.2.2.2.2.2.1 hrt (Or.inr ⟨q, rfl⟩) (fun t ht hW => ⟨⟨rfl, by rw [ht]; exact hP⟩, hS.F ht⟩) hS.2.2 hd F.2.2.2.2.2.2.1

theorem V.getf {f i k ci idx N : Nat} {C : String} {T : u_T} {fs : List Value} {v : Value} (F : Fx φ Ω cc own nL ret) (hm : (f, i) ∈ Ω.1) (he : Ω.2 (gl φ).1 (gl φ).2.2.1 (μ.1 f i) μ.2 i f = .inr (ci, fs)) (hc : vwCl[ci]? = some (C, T, N)) (hk : k < N) (hin : ∀ w ∈ u_ws C T N, w ∈ lw_G) (hlink : Cond.fieldLink own idx (T k).1 (T k).2.1 (T k).2.2.1 ∈ lw_G) (hv : fs[k]? = some v) (hd : decode cc pc = .ok (.getfield idx, 3))
    (kk : V φ Ω nL d (pc + 3) L (v :: rest) μ ρ) : V φ Ω nL d pc L (rf φ f i :: rest) μ ρ := by
  intro H locs a hP hS hl
  obtain ⟨q, hq, hw⟩ := wl_get (Ω := Ω) (G := gl φ) (μ := μ) hm
  rw [he] at hw
  exact va_get F.1 F.2.1 F.2.2.2.2.1 hin F.2.2.2.1 F.C.1 hP q hw hc k hk (F.G hlink) (fun _ h => h) hv hd (kk H locs a hP hS hl)
theorem V.putf {f i k ci idx N : Nat} {C : String} {T : u_T} {fs : List Value} {v : Value} {ty : FieldType} {μ' : Mem} (F : Fx φ Ω cc own nL ret) (hm : (f, i) ∈ Ω.1) (he : Ω.2 (gl φ).1 (gl φ).2.2.1 (μ.1 f i) μ.2 i f = .inr (ci, fs)) (hc : vwCl[ci]? = some (C, T, N)) (hk : k < N) (hin : ∀ w ∈ u_ws C T N, w ∈ lw_G) (ty0 : Nat → FieldType) (hty : ∀ k, k < N → parseFieldDescriptor (T k).2.2.1 = some (ty0 k)) (hnm : ∀ a, a < N → ∀ b, b < N → a ≠ b → (T a).2.1 ≠ (T b).2.1) (hlink : Cond.fieldLink own idx (T k).1 (T k).2.1 (T k).2.2.1 ∈ lw_G) (hfin : (T k).2.2.2 = false) (hdt : parseFieldDescriptor (T k).2.2.1 = some ty) (hnar : narrow ty v = v) (hfit : fits ty v = true) (hlen : k < fs.length)
    (he' : Ω.2 (gl φ).1 (gl φ).2.2.1 (μ'.1 f i) μ'.2 i f = .inr (ci, fs.set k v)) (ho : ∀ f' i' : Nat, (f', i') ∈ Ω.1 → (f', i') ≠ (f, i) → Ω.2 (gl φ).1 (gl φ).2.2.1 (μ'.1 f' i') μ'.2 i' f' = Ω.2 (gl φ).1 (gl φ).2.2.1 (μ.1 f' i') μ.2 i' f') (hd : decode cc pc = .ok (.putfield idx, 3))
    (kk : V φ Ω nL d (pc + 3) L rest μ' ρ) : V φ Ω nL d pc L (v :: rf φ f i :: rest) μ ρ := by
  intro H locs a hP hS hl
  obtain ⟨q, hq, hw⟩ := wl_get (Ω := Ω) (G := gl φ) (μ := μ) hm
  rw [he] at hw
  refine va_put F.1 F.2.1 F.2.2.2.2.1 hin ty0 hty hnm F.2.2.2.1 F.C.1 hP (wl_D F.C.2.1.1 F.C.2.1.2) hS q hw hc k hk (F.G hlink) (fun _ h => h) hfin hdt hnar hfit hlen hd (fun H1 locs1 hP1 hD1 hS1 => ?_)
  rw [wl_set (μ' := μ') F.C.2.1.1 hq he' ho] at hP1
  exact kk H1 locs1 a hP1 hS1 hl
theorem V.puti {f i k ci idx N : Nat} {C : String} {T : u_T} {fs : List Value} {x : Int32} {ty : FieldType} (F : Fx φ Ω cc own nL ret) (hm : (f, i) ∈ Ω.1) (he : Ω.2 (gl φ).1 (gl φ).2.2.1 (μ.1 f i) μ.2 i f = .inr (ci, fs)) (hc : vwCl[ci]? = some (C, T, N)) (hk : k < N) (hin : ∀ w ∈ u_ws C T N, w ∈ lw_G) (ty0 : Nat → FieldType) (hty : ∀ k, k < N → parseFieldDescriptor (T k).2.2.1 = some (ty0 k)) (hnm : ∀ a, a < N → ∀ b, b < N → a ≠ b → (T a).2.1 ≠ (T b).2.1) (hlink : Cond.fieldLink own idx (T k).1 (T k).2.1 (T k).2.2.1 ∈ lw_G) (hfin : (T k).2.2.2 = false) (hdt : parseFieldDescriptor (T k).2.2.1 = some ty) (hnar : narrow ty (.int x) = .int x) (hfit : fits ty (.int x) = true) (hlen : k < fs.length)
    (he' : Ω.2 (gl φ).1 (gl φ).2.2.1 (upd (μ.1 f i) k x) μ.2 i f = .inr (ci, fs.set k (.int x))) {μ' : Mem} (eμ : up μ f i k x = μ') (hd : decode cc pc = .ok (.putfield idx, 3))
    (kk : V φ Ω nL d (pc + 3) L rest μ' ρ) : V φ Ω nL d pc L (.int x :: rf φ f i :: rest) μ ρ := by
  subst eμ
  exact V.putf F hm he hc hk hin ty0 hty hnm hlink hfin hdt hnar hfit hlen (by rw [up_row]; exact he') (fun f' i' _ h => by rw [up_off μ x (fun q => h (by rw [q.1, q.2]))]; rfl) hd kk
theorem V.iald {f i n t0 : Nat} {cA : ClassId} {j : Int32} (F : Fx φ Ω cc own nL ret) (hm : (f, i) ∈ Ω.1) (he : Ω.2 (gl φ).1 (gl φ).2.2.1 (μ.1 f i) μ.2 i f = .inl (cA, n, .inl (μ.1 f i))) (ht : (tysOf (gl φ))[t0]? = some (cA, .int)) (hj : inb j n) (hd : decode cc pc = .ok (.iaload, 1))
    (kk : V φ Ω nL d (pc + 1) L (.int (rd μ f i (ix j)) :: rest) μ ρ) : V φ Ω nL d pc L (.int j :: rf φ f i :: rest) μ ρ := by
  intro H locs a hP hS hl
  obtain ⟨q, hq, hw⟩ := wl_get (Ω := Ω) (G := gl φ) (μ := μ) hm
  rw [he] at hw
  exact va_iald F.1 F.2.1 F.C.1 hP q t0 hw ht hj hd (kk H locs a hP hS hl)
theorem V.zald {f i n t0 : Nat} {cA : ClassId} {j : Int32} (F : Fx φ Ω cc own nL ret) (hm : (f, i) ∈ Ω.1) (he : Ω.2 (gl φ).1 (gl φ).2.2.1 (μ.1 f i) μ.2 i f = .inl (cA, n, .inl (μ.1 f i))) (ht : (tysOf (gl φ))[t0]? = some (cA, .boolean)) (hj : inb j n) (hd : decode cc pc = .ok (.baload, 1))
    (kk : V φ Ω nL d (pc + 1) L (.int (rd μ f i (ix j)) :: rest) μ ρ) : V φ Ω nL d pc L (.int j :: rf φ f i :: rest) μ ρ := by
  intro H locs a hP hS hl
  obtain ⟨q, hq, hw⟩ := wl_get (Ω := Ω) (G := gl φ) (μ := μ) hm
  rw [he] at hw
  exact va_zald F.1 F.2.1 F.C.1 hP q t0 hw ht hj hd (kk H locs a hP hS hl)
theorem V.iast {f i n t0 : Nat} {cA : ClassId} {j x : Int32} (F : Fx φ Ω cc own nL ret) (hm : (f, i) ∈ Ω.1) (he : ∀ r : Nat → Int32, Ω.2 (gl φ).1 (gl φ).2.2.1 r μ.2 i f = .inl (cA, n, .inl r)) (ht : (tysOf (gl φ))[t0]? = some (cA, .int)) (hj : inb j n) {μ' : Mem} (eμ : up μ f i (ix j) x = μ') (hd : decode cc pc = .ok (.iastore, 1))
    (kk : V φ Ω nL d (pc + 1) L rest μ' ρ) : V φ Ω nL d pc L (.int x :: .int j :: rf φ f i :: rest) μ ρ := by
  subst eμ
  intro H locs a hP hS hl
  obtain ⟨q, hq, hw⟩ := wl_get (Ω := Ω) (G := gl φ) (μ := μ) hm
  rw [he] at hw
  refine va_iast F.1 F.2.1 F.C.1 hP (wl_D F.C.2.1.1 F.C.2.1.2) hS q t0 hw ht hj hd (fun H1 locs1 hP1 hD1 hS1 => ?_)
  rw [wl_set (μ' := up μ f i (ix j) x) F.C.2.1.1 hq (by rw [up_row]; exact he _) (fun f' i' _ h => by rw [up_off μ x (fun q => h (by rw [q.1, q.2]))]; rfl)] at hP1
  exact kk H1 locs1 a hP1 hS1 hl
theorem V.zast {f i n t0 : Nat} {cA : ClassId} {j x : Int32} (F : Fx φ Ω cc own nL ret) (hm : (f, i) ∈ Ω.1) (he : ∀ r : Nat → Int32, Ω.2 (gl φ).1 (gl φ).2.2.1 r μ.2 i f = .inl (cA, n, .inl r)) (ht : (tysOf (gl φ))[t0]? = some (cA, .boolean)) (hj : inb j n) {μ' : Mem} (eμ : up μ f i (ix j) (vp_nar .boolean x) = μ') (hd : decode cc pc = .ok (.bastore, 1))
    (kk : V φ Ω nL d (pc + 1) L rest μ' ρ) : V φ Ω nL d pc L (.int x :: .int j :: rf φ f i :: rest) μ ρ := by
  subst eμ
  intro H locs a hP hS hl
  obtain ⟨q, hq, hw⟩ := wl_get (Ω := Ω) (G := gl φ) (μ := μ) hm
  rw [he] at hw
  refine va_zast F.1 F.2.1 F.C.1 hP (wl_D F.C.2.1.1 F.C.2.1.2) hS q t0 hw ht hj hd (fun H1 locs1 hP1 hD1 hS1 => ?_)
  rw [wl_set (μ' := up μ f i (ix j) (vp_nar .boolean x)) F.C.2.1.1 hq (by rw [up_row]; exact he _) (fun f' i' _ h => by rw [up_off μ (vp_nar .boolean x) (fun q => h (by rw [q.1, q.2]))]; rfl)] at hP1
  exact kk H1 locs1 a hP1 hS1 hl
theorem V.aald {f i n t0 : Nat} (f2 i2 : Nat) {cA : ClassId} {C : String} {j : Int32} {g : Nat → Option Nat} (F : Fx φ Ω cc own nL ret) (hm : (f, i) ∈ Ω.1) (he : Ω.2 (gl φ).1 (gl φ).2.2.1 (μ.1 f i) μ.2 i f = .inl (cA, n, .inr (.inr (.inr (.inr g))))) (ht : (tysOf (gl φ))[t0]? = some (cA, .object C)) (hj : inb j n) (hg : g (ix j) = some ((gl φ).1 f2 i2)) (hd : decode cc pc = .ok (.aaload, 1))
    (kk : V φ Ω nL d (pc + 1) L (rf φ f2 i2 :: rest) μ ρ) : V φ Ω nL d pc L (.int j :: rf φ f i :: rest) μ ρ := by
  intro H locs a hP hS hl
  obtain ⟨q, hq, hw⟩ := wl_get (Ω := Ω) (G := gl φ) (μ := μ) hm
  rw [he] at hw
  refine va_aldq F.1 F.2.1 F.C.1 hP q t0 hw ht hj hd ?_
  rw [show g j.toNatClampNeg = some ((gl φ).1 f2 i2) from hg]
  exact kk H locs a hP hS hl
theorem V.gald {f i n t0 : Nat} (f2 i2 : Nat) {cA : ClassId} {j : Int32} {g : Nat → Option Nat} (F : Fx φ Ω cc own nL ret) (hm : (f, i) ∈ Ω.1) (he : Ω.2 (gl φ).1 (gl φ).2.2.1 (μ.1 f i) μ.2 i f = .inl (cA, n, .inr (.inr (.inr (.inr g))))) (ht : (tysOf (gl φ))[t0]? = some (cA, .array .int)) (hj : inb j n) (hg : g (ix j) = some ((gl φ).1 f2 i2)) (hd : decode cc pc = .ok (.aaload, 1))
    (kk : V φ Ω nL d (pc + 1) L (rf φ f2 i2 :: rest) μ ρ) : V φ Ω nL d pc L (.int j :: rf φ f i :: rest) μ ρ := by
  intro H locs a hP hS hl
  obtain ⟨q, hq, hw⟩ := wl_get (Ω := Ω) (G := gl φ) (μ := μ) hm
  rw [he] at hw
  have hlt : ix j < n := Nat.not_le.mp fun z => hj (Or.inr z)
  have k2 := kk H locs a hP hS hl
  refine W.aald (v := va_rf (g j.toNatClampNeg)) (ty := .array .int) F.1 F.2.1 (hP q _ hw) ((F.C.1.2 t0 _ ht).1 n (fun j => va_rf (g j))) rfl (fun q => by cases q) (by show ¬ (j < 0 ∨ (arrV _ _ _).slots.size ≤ _); rw [arrV_size]; exact hj) (by show (arrV _ _ _).slots[_]? = _; rw [arrV_read _ _ hlt]) rfl rfl hd ?_
  rw [show g j.toNatClampNeg = some ((gl φ).1 f2 i2) from hg]
  exact k2
theorem V.under {idx : Nat} (F : Fx φ Ω cc own nL ret) (hw : Cond.fieldLink own idx "SewnUp" "UNDER" "[I" ∈ lw_G) (hd : decode cc pc = .ok (.getstatic idx, 3)) (kk : V φ Ω nL d (pc + 3) L (.ref (gl φ).2.2.2.2.2 :: rest) μ ρ) : V φ Ω nL d pc L rest μ ρ := fun H locs a hP hS hl => va_gets F.1 F.2.1 F.C.2.2.1.1 hS F.2.2.2.1 (F.G hw) (fun _ h => h) hd (kk H locs a hP hS hl)
def underT (n : Nat) : Int32 := ([-1, 0, 0, 1, 2, 0] : List Int32).getD n 0
theorem V.underAt {j : Int32} (F : Fx φ Ω cc own nL ret) (hj : inb j 6) (hd : decode cc pc = .ok (.iaload, 1)) (kk : V φ Ω nL d (pc + 1) L (.int (underT (ix j)) :: rest) μ ρ) : V φ Ω nL d pc L (.int j :: .ref (gl φ).2.2.2.2.2 :: rest) μ ρ := fun H locs a hP hS hl => va_ti F.1 F.2.1 F.C.2.2.1.2 hS hj rfl hd (kk H locs a hP hS hl)
/-- the words of a call -/
def CkV (own : String) (idx : Nat) (y : MethodName) (b : ByteArray) (n' : Nat) (r : Option FieldType) (n : Nat) : Prop := Cond.methodLink own idx y ∈ lw_G ∧ Cond.instanceMethod y ∈ lw_G ∧ Cond.selects y.cls y y ∈ lw_G ∧ Cond.initialized y.cls ∈ lw_G ∧ Cond.code y b n' r ∈ lw_G ∧ (y.cls ≠ "java/lang/invoke/MethodHandle" ∧ y.cls ≠ "java/lang/invoke/VarHandle" ∧ (parseMethodDescriptor y.desc).map (fun d => d.parameters.length) = some n)
def CkS (own : String) (idx : Nat) (y : MethodName) (b : ByteArray) (n' : Nat) (r : Option FieldType) (n : Nat) : Prop := Cond.methodLink own idx y ∈ lw_G ∧ Cond.static y ∈ lw_G ∧ Cond.initialized y.cls ∈ lw_G ∧ Cond.code y b n' r ∈ lw_G ∧ (y.cls ≠ "java/lang/invoke/MethodHandle" ∧ y.cls ≠ "java/lang/invoke/VarHandle" ∧ (parseMethodDescriptor y.desc).map (fun d => d.parameters.length) = some n)
theorem gi_code {y : MethodName} {b : ByteArray} {n' : Nat} {r : Option FieldType} (h : Cond.code y b n' r ∈ lw_G) : GoodIn lw_G (Cond.code y b n' r :: lw_G) := by
  intro w hw
  rcases List.mem_cons.mp hw with rfl | hw
  · exact ⟨h, lw_G_good _ h⟩
  · exact ⟨hw, lw_G_good _ hw⟩
theorem gi_V {own : String} {idx n n' : Nat} {y : MethodName} {b : ByteArray} {r : Option FieldType} (h : CkV own idx y b n' r n) : GoodIn lw_G (wsV own idx y.cls y (Cond.code y b n' r :: lw_G)) := by
  obtain ⟨h1, h2, h3, h4, h5, -⟩ := h
  intro w hw
  unfold wsV at hw
  rcases List.mem_append.mp hw with hw | hw
  · have hm : w ∈ lw_G := by
      simp only [List.mem_cons, List.not_mem_nil, or_false] at hw
      rcases hw with rfl | rfl | rfl | rfl
      · exact h1
      · exact h2
      · exact h3
      · exact h4
    exact ⟨hm, lw_G_good _ hm⟩
  · exact gi_code h5 w hw
theorem rm_fit {d' d n' : Nat} (hd : d' < d) (hn : n' ≤ 60) : (rmD d').frames + 1 ≤ (rmD d).frames ∧ 8 + (n' + 11) + (rmD d').locals ≤ (rmD d).locals := by
  simp only [rmD]
  omega
theorem Ct_blind {Ω : Wld} {G : Glo} {μ : Mem} {as : List Value} : FrameBlind (va_Pc as (fun U => Cx Ω G U U.heap ∧ Wd Ω G μ U.heap)) := fun a U g mk q => ⟨q.1, q.2.1.calling g mk a, q.2.2⟩
theorem V.run {μ1 : Mem} {r : Option Value} {as : Array Value} (hr : ∀ (H : Heap) (locs : List Loc) (a : Array Slot), Wd Ω (gl φ) μ H → va_S (Aw Ω (gl φ)) φ.1.2.2.2.1.heap H locs → hasL a nL L → va_Run φ.1.1 φ.1.2.1 φ.1.2.2.1 (rmD d) φ.1.2.2.2.1 φ.1.2.2.2.2.1 φ.1.2.2.2.2.2 φ.2.1 φ.2.2.1 φ.2.2.2.1 H locs 0 0 0 0 (F0 φ.1.2.2.2.2.1 pc a st) rest (Qr Ω (gl φ) (r, μ1) as) (Aw Ω (gl φ)))
    (k : V φ Ω nL d (pc + 3) L (r.toList ++ rest) μ1 ρ) : V φ Ω nL d pc L st μ ρ := by
  intro H locs a hP hS hl T hT X
  obtain ⟨v, st₀, t, T', L', h0, X', hL, e1, e2, ⟨⟨hv, hp⟩, hz, hk⟩, stp⟩ := hr H locs a hP hS hl T hT X
  cases hv
  rw [h0] at hz hk
  obtain ⟨t2, a1, b1⟩ := k T'.heap (locs ++ L') a (by rw [e1]; exact hp)
    ⟨Nat.le_trans hS.1 (by rw [e1]; exact hz), fun q h1 h2 => by rw [e1, hk q (Nat.lt_of_lt_of_le h1 hS.1) h2]; exact hS.2.1 q h1 h2, fun q hq => by
      rcases List.mem_append.mp hq with h | h
      · exact hS.2.2 q h
      · exact hL q h⟩ hl T' rfl X'
  exact ⟨t2, stp t2 a1, b1⟩
/-- a call of an object's method -/
theorem V.callV {As : List Value} {f i ci idx d' n n' N : Nat} {y : MethodName} {b : ByteArray} {rt : Option FieldType} {r : Option Value} {μ1 : Mem} {T : u_T} {fs : List Value} (F : Fx φ Ω cc own nL ret) (ck : CkV own idx y b n' rt n) (hc : Ct φ.1.2.1 Ω (gl φ) d' y b n' rt (rf φ f i :: As) μ (r, μ1)) (hd' : d' < d) (hn' : n' ≤ 60) (hn : As.length = n) (hm : (f, i) ∈ Ω.1) (he : Ω.2 (gl φ).1 (gl φ).2.2.1 (μ.1 f i) μ.2 i f = .inr (ci, fs)) (hcl : vwCl[ci]? = some (y.cls, T, N)) (hst : st = As.reverse ++ rf φ f i :: rest) (hrest : (rest.map fun v => v.category).sum ≤ 8) (hd : decode cc pc = .ok (.invokevirtual idx, 3))
    (k : V φ Ω nL d (pc + 3) L (r.toList ++ rest) μ1 ρ) : V φ Ω nL d pc L st μ ρ := by
  refine V.run (as := (Value.ref ((gl φ).1 f i) :: As).toArray) (fun H locs a hP hS hl => ?_) k
  obtain ⟨q, hq, hw⟩ := wl_get (Ω := Ω) (G := gl φ) (μ := μ) hm
  rw [he] at hw
  have cw := cwV (R := rmD d) (bytes := b) (maxL := n') (ret := rt) (rm := rmD d') (mc := 0) (ms := 0) n F.2.2.2.2.1 (gi_V ck) rfl rfl rfl ⟨rfl, ck.2.2.2.2.2⟩ (rm_fit hd' hn')
  exact va_runV (As := As) (rest := rest) (b := (gl φ).1 f i) ⟨F.1, F.2.1, F.2.2.1, F.2.2.2.1, F.2.2.2.2.1⟩ hc cw ⟨Ct_blind, va_recv F.C.1 hP hcl hw, fun U hU hW => ⟨rfl, F.C.at hW (fun _ h => h) hS hU, by rw [hU]; exact hP⟩⟩ rfl hn hl.1 hst (lv_room hrest) hd ⟨Nat.zero_le _, Nat.zero_le _⟩
/-- a call of a static method -/
theorem V.callS {As : List Value} {idx d' n n' : Nat} {y : MethodName} {b : ByteArray} {rt : Option FieldType} {r : Option Value} {μ1 : Mem} (F : Fx φ Ω cc own nL ret) (ck : CkS own idx y b n' rt n) (hc : Ct φ.1.2.1 Ω (gl φ) d' y b n' rt As μ (r, μ1)) (hd' : d' < d) (hn' : n' ≤ 60) (hn : As.length = n) (hst : st = As.reverse ++ rest) (hrest : (rest.map fun v => v.category).sum ≤ 8) (hd : decode cc pc = .ok (.invokestatic idx, 3))
    (k : V φ Ω nL d (pc + 3) L (r.toList ++ rest) μ1 ρ) : V φ Ω nL d pc L st μ ρ := by
  refine V.run (as := As.toArray) (fun H locs a hP hS hl => ?_) k
  obtain ⟨c1, c2, c3, c4, c5⟩ := ck
  have cw := callB_of (R := rmD d) (own := own) (index := idx) (bytes := b) (maxL := n') (ret := rt) (rm := rmD d') (mc := 0) (ms := 0) n F.2.2.2.2.1 (gi_code c4) rfl rfl rfl (F.G c3) (F.G c1) c5 (rm_fit hd' hn')
  exact va_runS (As := As) (rest := rest) ⟨F.1, F.2.1, F.2.2.1, F.2.2.2.1, F.2.2.2.2.1⟩ hc ⟨cw, F.G c2⟩ ⟨Ct_blind, fun U hU hW => ⟨rfl, F.C.at hW (fun _ h => h) hS hU, by rw [hU]; exact hP⟩⟩ rfl hn hl.1 hst (lv_room hrest) hd ⟨Nat.zero_le _, Nat.zero_le _⟩
/-- a call of a nest mate's private static method -/
theorem V.callSN {As : List Value} {idx d' n n' : Nat} {y : MethodName} {host : String} {b : ByteArray} {rt : Option FieldType} {r : Option Value} {μ1 : Mem} (F : Fx φ Ω cc own nL ret) (hNw : va_Nw (.methodLinkNest own idx y host) φ.1.2.2.2.1) (c2 : Cond.static y ∈ lw_G) (c3 : Cond.initialized y.cls ∈ lw_G) (c4 : Cond.code y b n' rt ∈ lw_G) (c5 : (y.cls ≠ "java/lang/invoke/MethodHandle" ∧ y.cls ≠ "java/lang/invoke/VarHandle" ∧ (parseMethodDescriptor y.desc).map (fun d => d.parameters.length) = some n)) (hc : Ct φ.1.2.1 Ω (gl φ) d' y b n' rt As μ (r, μ1)) (hd' : d' < d) (hn' : n' ≤ 60) (hn : As.length = n) (hst : st = As.reverse ++ rest) (hrest : (rest.map fun v => v.category).sum ≤ 8) (hd : decode cc pc = .ok (.invokestatic idx, 3))
    (k : V φ Ω nL d (pc + 3) L (r.toList ++ rest) μ1 ρ) : V φ Ω nL d pc L st μ ρ := by
  refine V.run (as := As.toArray) (fun H locs a hP hS hl => ?_) k
  have cw := va_cnB (R := rmD d) (bytes := b) (maxL := n') (ret := rt) (rm := rmD d') (mc := 0) (ms := 0) n F.2.2.2.2.1 (gi_code c4) rfl rfl rfl hNw (F.G c3) c5 (rm_fit hd' hn')
  exact va_runSN (As := As) (rest := rest) ⟨F.1, F.2.1, F.2.2.1, F.2.2.2.1, F.2.2.2.2.1⟩ hc ⟨cw, F.G c2, trivial⟩ ⟨Ct_blind, fun U hU hW => ⟨rfl, F.C.at hW (fun _ h => h) hS hU, by rw [hU]; exact hP⟩⟩ rfl hn hl.1 hst (lv_room hrest) hd ⟨Nat.zero_le _, Nat.zero_le _⟩
theorem V.mmax {x y : Int32} {idx : Nat} (F : Fx φ Ω cc own nL ret) (h1 : Cond.methodLink own idx Lib.Math.max.name ∈ lw_G) (h2 : Cond.static Lib.Math.max.name ∈ lw_G) (h3 : Cond.initialized "java/lang/Math" ∈ lw_G) (h4 : Cond.code Lib.Math.max.name Lib.Math.max.code 2 (some .int) ∈ lw_G) (hr : (rest.map fun v => v.category).sum ≤ 8) (hd : decode cc pc = .ok (.invokestatic idx, 3)) (k : V φ Ω nL d (pc + 3) L (.int (imx x y) :: rest) μ ρ) : V φ Ω nL d pc L (.int y :: .int x :: rest) μ ρ := fun H locs a hP hS hl => va_mmax F.1 F.2.1 (F.2.2.1.trans hl.1.symm) F.2.2.2.1 (F.G h1) (F.G h2) (F.G h3) (F.G h4) (by simp [rmD]) (by simp only [rmD]; omega) (Nat.zero_le _) (Nat.zero_le _) hd (k H locs a hP hS hl)
theorem V.mmin {x y : Int32} {idx : Nat} (F : Fx φ Ω cc own nL ret) (h1 : Cond.methodLink own idx Lib.Math.min.name ∈ lw_G) (h2 : Cond.static Lib.Math.min.name ∈ lw_G) (h3 : Cond.initialized "java/lang/Math" ∈ lw_G) (h4 : Cond.code Lib.Math.min.name Lib.Math.min.code 2 (some .int) ∈ lw_G) (hr : (rest.map fun v => v.category).sum ≤ 8) (hd : decode cc pc = .ok (.invokestatic idx, 3)) (k : V φ Ω nL d (pc + 3) L (.int (imn x y) :: rest) μ ρ) : V φ Ω nL d pc L (.int y :: .int x :: rest) μ ρ := fun H locs a hP hS hl => va_mmin F.1 F.2.1 (F.2.2.1.trans hl.1.symm) F.2.2.2.1 (F.G h1) (F.G h2) (F.G h3) (F.G h4) (by simp [rmD]) (by simp only [rmD]; omega) (Nat.zero_le _) (Nat.zero_le _) hd (k H locs a hP hS hl)
theorem cpy_row (μ : Mem) (f i j i2 j2 n : Nat) : (cpyM μ f i j i2 j2 n).1 f i2 = va_cpy (μ.1 f i) (μ.1 f i2) j j2 n := by
  funext q
  simp [cpyM]
theorem cpy_off (μ : Mem) {f i j i2 j2 n f' i' : Nat} (h : ¬ (f' = f ∧ i' = i2)) : (cpyM μ f i j i2 j2 n).1 f' i' = μ.1 f' i' := by
  funext q
  simp only [cpyM]
  rw [if_neg h]
theorem V.copy {f i i2 N t0 idx : Nat} {cA : ClassId} {sp dp n : Int32} (F : Fx φ Ω cc own nL ret) (w1 : Cond.methodLink own idx arraycopyName ∈ lw_G) (w2 : Cond.native arraycopyName ∈ lw_G) (w3 : Cond.static arraycopyName ∈ lw_G) (w4 : Cond.initialized "java/lang/System" ∈ lw_G) (hm : (f, i) ∈ Ω.1) (hm2 : (f, i2) ∈ Ω.1) (he : ∀ (r : Nat → Int32) (i : Nat), Ω.2 (gl φ).1 (gl φ).2.2.1 r μ.2 i f = .inl (cA, N, .inl r)) (ht : (tysOf (gl φ))[t0]? = some (cA, .int)) (h : ¬ sp < 0 ∧ ¬ dp < 0 ∧ ¬ n < 0 ∧ ix sp + ix n ≤ N ∧ ix dp + ix n ≤ N) (hr : (rest.map fun v => v.category).sum ≤ 8) {μ' : Mem} (eμ : cpyM μ f i (ix sp) i2 (ix dp) (ix n) = μ') (hd : decode cc pc = .ok (.invokestatic idx, 3))
    (kk : V φ Ω nL d (pc + 3) L rest μ' ρ) : V φ Ω nL d pc L (.int n :: .int dp :: rf φ f i2 :: .int sp :: rf φ f i :: rest) μ ρ := by
  subst eμ
  intro H locs a hP hS hl
  obtain ⟨q, hq, hw⟩ := wl_get (Ω := Ω) (G := gl φ) (μ := μ) hm
  obtain ⟨q2, hq2, hw2⟩ := wl_get (Ω := Ω) (G := gl φ) (μ := μ) hm2
  rw [he] at hw hw2
  refine va_copyi F.1 F.2.1 (F.2.2.1.trans hl.1.symm) F.2.2.2.1 (F.G w1) (F.G w2) (F.G w3) (F.G w4) F.C.1 hP (wl_D F.C.2.1.1 F.C.2.1.2) hS q q2 t0 t0 hw hw2 ht ht rfl h.1 h.2.1 h.2.2.1 h.2.2.2.1 h.2.2.2.2 (fun _ _ => rfl) (by simp [rmD]) ?_ hd (fun H1 locs1 hP1 hD1 hS1 => ?_)
  · have e : nativeFrameWords "java/lang/System" "arraycopy" 5 + 11 ≤ 80 := by decide +kernel
    simp only [rmD]
    omega
  · rw [wl_set (μ' := cpyM μ f i (ix sp) i2 (ix dp) (ix n)) F.C.2.1.1 hq2 (by rw [cpy_row]; exact he _ _) (fun f' i' _ h => by rw [cpy_off μ (fun q => h (by rw [q.1, q.2]))]; rfl)] at hP1
    exact kk H1 locs1 a hP1 hS1 hl
theorem V.callVi {As : List Value} {f i ci idx d' n n' N : Nat} {y : MethodName} {b : ByteArray} {rt : Option FieldType} {r : Int32} {μ1 : Mem} {T : u_T} {fs : List Value} (F : Fx φ Ω cc own nL ret) (ck : CkV own idx y b n' rt n) (hc : Ct φ.1.2.1 Ω (gl φ) d' y b n' rt (rf φ f i :: As) μ (some (.int r), μ1)) (hd' : d' < d) (hn' : n' ≤ 60) (hn : As.length = n) (hm : (f, i) ∈ Ω.1) (he : Ω.2 (gl φ).1 (gl φ).2.2.1 (μ.1 f i) μ.2 i f = .inr (ci, fs)) (hcl : vwCl[ci]? = some (y.cls, T, N)) (hst : st = As.reverse ++ rf φ f i :: rest) (hrest : (rest.map fun v => v.category).sum ≤ 8) (hd : decode cc pc = .ok (.invokevirtual idx, 3)) (k : V φ Ω nL d (pc + 3) L (.int r :: rest) μ1 ρ) : V φ Ω nL d pc L st μ ρ := V.callV F ck hc hd' hn' hn hm he hcl hst hrest hd k
theorem V.callVl {As : List Value} {f i ci idx d' n n' N : Nat} {y : MethodName} {b : ByteArray} {rt : Option FieldType} {r : Int64} {μ1 : Mem} {T : u_T} {fs : List Value} (F : Fx φ Ω cc own nL ret) (ck : CkV own idx y b n' rt n) (hc : Ct φ.1.2.1 Ω (gl φ) d' y b n' rt (rf φ f i :: As) μ (some (.long r), μ1)) (hd' : d' < d) (hn' : n' ≤ 60) (hn : As.length = n) (hm : (f, i) ∈ Ω.1) (he : Ω.2 (gl φ).1 (gl φ).2.2.1 (μ.1 f i) μ.2 i f = .inr (ci, fs)) (hcl : vwCl[ci]? = some (y.cls, T, N)) (hst : st = As.reverse ++ rf φ f i :: rest) (hrest : (rest.map fun v => v.category).sum ≤ 8) (hd : decode cc pc = .ok (.invokevirtual idx, 3)) (k : V φ Ω nL d (pc + 3) L (.long r :: rest) μ1 ρ) : V φ Ω nL d pc L st μ ρ := V.callV F ck hc hd' hn' hn hm he hcl hst hrest hd k
theorem V.callVv {As : List Value} {f i ci idx d' n n' N : Nat} {y : MethodName} {b : ByteArray} {rt : Option FieldType} {μ1 : Mem} {T : u_T} {fs : List Value} (F : Fx φ Ω cc own nL ret) (ck : CkV own idx y b n' rt n) (hc : Ct φ.1.2.1 Ω (gl φ) d' y b n' rt (rf φ f i :: As) μ (none, μ1)) (hd' : d' < d) (hn' : n' ≤ 60) (hn : As.length = n) (hm : (f, i) ∈ Ω.1) (he : Ω.2 (gl φ).1 (gl φ).2.2.1 (μ.1 f i) μ.2 i f = .inr (ci, fs)) (hcl : vwCl[ci]? = some (y.cls, T, N)) (hst : st = As.reverse ++ rf φ f i :: rest) (hrest : (rest.map fun v => v.category).sum ≤ 8) (hd : decode cc pc = .ok (.invokevirtual idx, 3)) (k : V φ Ω nL d (pc + 3) L rest μ1 ρ) : V φ Ω nL d pc L st μ ρ := V.callV F ck hc hd' hn' hn hm he hcl hst hrest hd k
theorem V.callVr {As : List Value} {f i ci idx d' n n' N : Nat} (f2 i2 : Nat) {y : MethodName} {b : ByteArray} {rt : Option FieldType} {μ1 : Mem} {T : u_T} {fs : List Value} (F : Fx φ Ω cc own nL ret) (ck : CkV own idx y b n' rt n) (hc : Ct φ.1.2.1 Ω (gl φ) d' y b n' rt (rf φ f i :: As) μ (some (rf φ f2 i2), μ1)) (hd' : d' < d) (hn' : n' ≤ 60) (hn : As.length = n) (hm : (f, i) ∈ Ω.1) (he : Ω.2 (gl φ).1 (gl φ).2.2.1 (μ.1 f i) μ.2 i f = .inr (ci, fs)) (hcl : vwCl[ci]? = some (y.cls, T, N)) (hst : st = As.reverse ++ rf φ f i :: rest) (hrest : (rest.map fun v => v.category).sum ≤ 8) (hd : decode cc pc = .ok (.invokevirtual idx, 3)) (k : V φ Ω nL d (pc + 3) L (rf φ f2 i2 :: rest) μ1 ρ) : V φ Ω nL d pc L st μ ρ := V.callV F ck hc hd' hn' hn hm he hcl hst hrest hd k
theorem V.callSi {As : List Value} {idx d' n n' : Nat} {y : MethodName} {b : ByteArray} {rt : Option FieldType} {r : Int32} {μ1 : Mem} (F : Fx φ Ω cc own nL ret) (ck : CkS own idx y b n' rt n) (hc : Ct φ.1.2.1 Ω (gl φ) d' y b n' rt As μ (some (.int r), μ1)) (hd' : d' < d) (hn' : n' ≤ 60) (hn : As.length = n) (hst : st = As.reverse ++ rest) (hrest : (rest.map fun v => v.category).sum ≤ 8) (hd : decode cc pc = .ok (.invokestatic idx, 3)) (k : V φ Ω nL d (pc + 3) L (.int r :: rest) μ1 ρ) : V φ Ω nL d pc L st μ ρ := V.callS F ck hc hd' hn' hn hst hrest hd k
theorem V.callSs {As : List Value} {idx d' n n' q : Nat} {y : MethodName} {b : ByteArray} {rt : Option FieldType} {μ1 : Mem} (F : Fx φ Ω cc own nL ret) (ck : CkS own idx y b n' rt n) (hc : Ct φ.1.2.1 Ω (gl φ) d' y b n' rt As μ (some (.ref q), μ1)) (hd' : d' < d) (hn' : n' ≤ 60) (hn : As.length = n) (hst : st = As.reverse ++ rest) (hrest : (rest.map fun v => v.category).sum ≤ 8) (hd : decode cc pc = .ok (.invokestatic idx, 3)) (k : V φ Ω nL d (pc + 3) L (.ref q :: rest) μ1 ρ) : V φ Ω nL d pc L st μ ρ := V.callS F ck hc hd' hn' hn hst hrest hd k
theorem V.callSv {As : List Value} {idx d' n n' : Nat} {y : MethodName} {b : ByteArray} {rt : Option FieldType} {μ1 : Mem} (F : Fx φ Ω cc own nL ret) (ck : CkS own idx y b n' rt n) (hc : Ct φ.1.2.1 Ω (gl φ) d' y b n' rt As μ (none, μ1)) (hd' : d' < d) (hn' : n' ≤ 60) (hn : As.length = n) (hst : st = As.reverse ++ rest) (hrest : (rest.map fun v => v.category).sum ≤ 8) (hd : decode cc pc = .ok (.invokestatic idx, 3)) (k : V φ Ω nL d (pc + 3) L rest μ1 ρ) : V φ Ω nL d pc L st μ ρ := V.callS F ck hc hd' hn' hn hst hrest hd k
theorem V.callSNi {As : List Value} {idx d' n n' : Nat} {y : MethodName} {host : String} {b : ByteArray} {rt : Option FieldType} {r : Int32} {μ1 : Mem} (F : Fx φ Ω cc own nL ret) (hNw : va_Nw (.methodLinkNest own idx y host) φ.1.2.2.2.1) (c2 : Cond.static y ∈ lw_G) (c3 : Cond.initialized y.cls ∈ lw_G) (c4 : Cond.code y b n' rt ∈ lw_G) (c5 : (y.cls ≠ "java/lang/invoke/MethodHandle" ∧ y.cls ≠ "java/lang/invoke/VarHandle" ∧ (parseMethodDescriptor y.desc).map (fun d => d.parameters.length) = some n)) (hc : Ct φ.1.2.1 Ω (gl φ) d' y b n' rt As μ (some (.int r), μ1)) (hd' : d' < d) (hn' : n' ≤ 60) (hn : As.length = n) (hst : st = As.reverse ++ rest) (hrest : (rest.map fun v => v.category).sum ≤ 8) (hd : decode cc pc = .ok (.invokestatic idx, 3)) (k : V φ Ω nL d (pc + 3) L (.int r :: rest) μ1 ρ) : V φ Ω nL d pc L st μ ρ := V.callSN F hNw c2 c3 c4 c5 hc hd' hn' hn hst hrest hd k
def inV (ad : Nat → Nat → Nat) (x : Int32) : Value := if x = -1 then .null else .ref (ad 5 (ix x))
theorem V.ifnull_in {x : Int32} {off : Int} {tgt : Nat} (F : Fx φ Ω cc own nL ret) (hd : decode cc pc = .ok (.ifnull off, 3)) (ht : (pc : Int) + off = (tgt : Int)) (kt : x = -1 → V φ Ω nL d tgt L rest μ ρ) (kf : ¬ x = -1 → V φ Ω nL d (pc + 3) L rest μ ρ) : V φ Ω nL d pc L (inV (gl φ).1 x :: rest) μ ρ := by
  intro H locs a hP hS hl
  by_cases h : x = -1
  · rw [inV, if_pos h]
    exact lv_ifnullN F.1 F.2.1 hd ht (kt h H locs a hP hS hl)
  · rw [inV, if_neg h]
    exact lv_ifnull F.1 F.2.1 hd (kf h H locs a hP hS hl)
theorem V.inref {x : Int32} (h : ¬ x = -1) (k : V φ Ω nL d pc L (rf φ 5 (ix x) :: rest) μ ρ) : V φ Ω nL d pc L (inV (gl φ).1 x :: rest) μ ρ := by
  rw [inV, if_neg h]
  exact k
theorem V.tabK {dflt lo hi v : Int} {offs : Array Int} {len : Nat} {x : Int32} {off : Int} {tgt : Nat} (F : Fx φ Ω cc own nL ret) (hd : decode cc pc = .ok (.tableswitch dflt lo hi offs, len)) (hv : x.toInt = v) (h1 : ¬ v < lo) (h2 : ¬ hi < v) (ho : offs[(v - lo).toNat]? = some off) (ht : (pc : Int) + off = (tgt : Int)) (k : V φ Ω nL d tgt L rest μ ρ) : V φ Ω nL d pc L (.int x :: rest) μ ρ := by
  subst hv
  exact V.tabIn F hd h1 h2 ho ht k
end VROWS

