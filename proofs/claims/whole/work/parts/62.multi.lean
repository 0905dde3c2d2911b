/-! ===== new int[6][6]: the machine's step, as a row ===== -/
section MULTI
variable {p : Program} {l : Launch} {e : Env} {R : Room} {s : State} {m : MethodId} {args : Array Value} {below : List Frame} {meth : Method} {c : Code} {H : Heap} {locs : List Loc} {cells slots : Nat} {Q : State → Prop}
theorem mm_alloc {E : CtlPost} {d : Bool} {acts : List Action} {u : State} {k comp : ClassId} {kk : Class} {ty : FieldType} {v : Value} (h1 : u.vm.classes[k]? = some kk) (h2 : kk.kind = .array comp ty) (hl : ¬ 6 > e.platform.arrayLengthLimit) (hh : ¬ 6 * componentBytes ty > e.platform.maxHeapBytes) (hf : fits ty v = true) (hd : v.isDefault = true) (r1 : u.heap.size + 1 ≤ e.platform.maxCells) (r2 : u.slotsUsed + 6 ≤ e.platform.maxSlots) {P : Addr → Pre} (hq : ∀ acts', P u.heap.size d acts' (u.pushCell (arrV k 6 (fun _ => v)))) : wp (Jvm.newArray k 6 v) P E e d acts u := by
  have ft : ∀ (i : Nat) (x : Value), (Array.replicate 6 v)[i]? = some x → u.fitsSlot k .none i x = true := by
    intro i x hx
    rw [Array.getElem?_replicate] at hx
    by_cases q : i < 6
    · rw [if_pos q] at hx
      cases hx
      simp [State.fitsSlot, State.slotType?, h1, h2, hf]
    · rw [if_neg q] at hx; cases hx
  simp only [Jvm.newArray, Jvm.arrayFits, wp_bind', Jvm.W.ask, Jvm.W.ite, hl, if_false, wp_pure', Jvm.W.theClass, h1, h2, hh, Jvm.W.alloc, Jvm.W.stop, Option.some.injEq, exists_eq_left', Array.size_replicate]
  rw [if_neg (by omega)]
  refine ⟨by omega, r2, ft, ?_⟩
  rw [arrV_new]
  exact hq _
theorem W.mul2 {cc : ByteArray} (hexec : p.tables.exec = Jvm.exec) (hb : c.code = cc) {own : String} {index : Nat} (hown : s.vm.findClass own = some m.cls) (hclink : (Cond.classLink own index "[[I").before args s = true) (hover : (Cond.arrayOver (.array .int)).before args s = true) (harr : (Cond.arrayClass .int).before args s = true)
    {g : JFrame} (hg : g.method = m) (hdg : decode cc g.pc = .ok (.multianewarray index 2, 4)) {rest : List Value} (hstack : g.stack = .int 6 :: .int 6 :: rest) (hcells : cells + 7 ≤ R.cells) (hslots : slots + 42 ≤ R.slots)
    (kk : ∀ (cA cI c0 : ClassId) (kA kI : Class) (H1 : Heap) (L : List Loc), s.vm.findClass "[[I" = some cA → s.vm.classes[cA]? = some kA → kA.kind = .array cI (.array .int) → s.vm.findClass "[I" = some cI → s.vm.classes[cI]? = some kI → kI.kind = .array c0 .int → H1.size = H.size + 7 → (∀ q : Nat, q < H.size → H1[q]? = H[q]?) → H1[H.size]? = some (arrV cA 6 (fun j => if j < 6 then .ref (H.size + 1 + j) else .null)) → (∀ j : Nat, j < 6 → H1[H.size + 1 + j]? = some (arrV cI 6 (fun _ => .int 0))) → (∀ x ∈ L, x.base = H.size) →
      W p l e R s m args below meth c H1 (locs ++ L) (cells + 7) (slots + 42) Q { g with pc := g.pc + 4, stack := .ref H.size :: rest }) : W p l e R s m args below meth c H locs cells slots Q g := by
  intro T hT X
  subst hT; subst hb; subst hg
  have hpl : e.platform.magicAccessors = ({} : Platform).magicAccessors := by rw [X.admits.platform]
  obtain ⟨cI, cA, kA, fI, -, gA, kindA, fA⟩ := arrayOverA_spec hover
  obtain ⟨cI', kI, c0, fI', gI, kindI⟩ := Cond.arrayClass_spec harr
  cases fI'.symm.trans fI
  obtain ⟨cc', fcc, hcl⟩ := Cond.classLink_spec hown hclink e.platform hpl
  cases fcc.symm.trans fA
  obtain ⟨hg₁, hwarm₁, hready₁⟩ := State.classEntry (e := e) X.warmed hcl
  generalize T.vm.noted g.method.cls index (.cls cA) = vm₁ at hg₁ hwarm₁ hready₁
  have hal : s.vm.Alike vm₁ := hwarm₁.alike
  obtain ⟨kA₁, gA₁, eA⟩ := hal.2.2 _ _ gA
  obtain ⟨kI₁, gI₁, eI⟩ := hal.2.2 _ _ gI
  have kindA₁ : kA₁.kind = .array cI (.array .int) := by rw [eA]; exact kindA
  have kindI₁ : kI₁.kind = .array c0 .int := by rw [eI]; exact kindI
  have X₁ := X.noted hwarm₁
  have hl : ¬ 6 > e.platform.arrayLengthLimit := by rw [Launch.admits_arrayLengthLimit X.admits]; omega
  have hh : ¬ 6 * 4 > e.platform.maxHeapBytes := by rw [Launch.admits_maxHeapBytes X.admits]; omega
  have n6 : (6 : Int32).toNatClampNeg = 6 := by decide
  -- the states of the filling
  let Fl : Nat → State → Prop := fun i T' => (∃ L : List Loc, (∀ x ∈ L, x.base = T.heap.size) ∧ Stand p l e R s g.method args below meth c T' (locs ++ L) (cells + 1 + i) (slots + 6 + i * 6)) ∧ T'.vm = vm₁ ∧ T'.heap.size = T.heap.size + 1 + i ∧ (∀ q : Nat, q < T.heap.size → T'.heap[q]? = T.heap[q]?) ∧ T'.heap[T.heap.size]? = some (arrV cA 6 (fun j => if j < i then .ref (T.heap.size + 1 + j) else .null)) ∧ ∀ j : Nat, j < i → T'.heap[T.heap.size + 1 + j]? = some (arrV cI 6 (fun _ => .int 0))
  have f0 : Fl 0 ((T.setVm vm₁).pushCell (arrV cA 6 (fun _ => .null))) := by
    refine ⟨⟨[], fun x hx => (by cases hx), ?_⟩, rfl, by simp, fun q hq => ?_, ?_, fun j hj => absurd hj (by omega)⟩
    · have h := X₁.pushed (arrV cA 6 (fun _ => .null))
      rw [arrV_size] at h
      simpa using h
    · exact State.heap_pushCell_of_lt _ _ hq
    · rw [show (T.heap.size) = (T.setVm vm₁).heap.size from rfl, State.heap_pushCell_size]
      congr 1
  have fs : ∀ (i : Nat) (T' : State), i < 6 → Fl i T' → Fl (i + 1) ((T'.pushCell (arrV cI 6 (fun _ => .int 0))).setCell T.heap.size ((arrV cA 6 (fun j => if j < i then .ref (T.heap.size + 1 + j) else .null)).setSlot i (.ref (T.heap.size + 1 + i)))) := by
    rintro i T' hi ⟨⟨L, l1, l2⟩, a1, a2, a3, a4, a5⟩
    have lt0 : T.heap.size < T'.heap.size := by omega
    have hc : (T'.pushCell (arrV cI 6 (fun _ => .int 0))).heap[T.heap.size]? = some (arrV cA 6 (fun j => if j < i then .ref (T.heap.size + 1 + j) else .null)) := by rw [State.heap_pushCell_of_lt (h := lt0)]; exact a4
    refine ⟨⟨L ++ [⟨T.heap.size, i⟩], fun x hx => ?_, ?_⟩, a1, ?_, fun q hq => ?_, ?_, fun j hj => ?_⟩
    · rcases List.mem_append.mp hx with w | w
      · exact l1 x w
      · rw [List.mem_singleton.mp w]
    · have h := (l2.pushed (arrV cI 6 (fun _ => .int 0))).stored hc i (.ref (T.heap.size + 1 + i))
      rw [arrV_size] at h
      rw [← List.append_assoc, show slots + 6 + (i + 1) * 6 = slots + 6 + i * 6 + 6 by omega]
      exact h
    · simp [State.setCell, a2]
      omega
    · rw [State.heap_setCell_other (Nat.ne_of_gt hq), State.heap_pushCell_of_lt (h := Nat.lt_trans hq lt0)]
      exact a3 q hq
    · rw [State.heap_setCell_self hc, arrV_store]
      congr 2
      funext j
      unfold updV
      by_cases w : j = i
      · rw [if_pos w, if_pos (by omega), w]
      · rw [if_neg w]
        show (if j < i then Value.ref (T.heap.size + 1 + j) else Value.null) = _
        by_cases w2 : j < i
        · rw [if_pos w2, if_pos (by omega)]
        · rw [if_neg w2, if_neg (by omega)]
    · rw [State.heap_setCell_other (show T.heap.size ≠ T.heap.size + 1 + j by omega)]
      by_cases w : j = i
      · subst w
        rw [← a2]
        exact State.heap_pushCell_size _ _
      · rw [State.heap_pushCell_of_lt (h := show T.heap.size + 1 + j < T'.heap.size by omega)]
        exact a5 j (by omega)
  have goal : ∀ T', Fl 6 T' → ∃ t, Steps p.tables e below (T'.setTop { g with pc := g.pc + 4, stack := .ref T.heap.size :: rest }) t ∧ Q t := by
    rintro T' ⟨⟨L, l1, l2⟩, a1, a2, a3, a4, a5⟩
    exact kk cA cI c0 kA kI T'.heap L fA gA kindA fI gI kindI a2 a3 a4 a5 l1 T' rfl l2
  -- one state is the last: it is built up by 'fs'
  obtain ⟨seq, hseq⟩ : ∃ seq : Nat → State, seq 0 = (T.setVm vm₁).pushCell (arrV cA 6 (fun _ => .null)) ∧ ∀ i, seq (i + 1) = ((seq i).pushCell (arrV cI 6 (fun _ => .int 0))).setCell T.heap.size ((arrV cA 6 (fun j => if j < i then .ref (T.heap.size + 1 + j) else .null)).setSlot i (.ref (T.heap.size + 1 + i))) := ⟨fun n => Nat.rec ((T.setVm vm₁).pushCell (arrV cA 6 (fun _ => .null))) (fun i u => (u.pushCell (arrV cI 6 (fun _ => .int 0))).setCell T.heap.size ((arrV cA 6 (fun j => if j < i then .ref (T.heap.size + 1 + j) else .null)).setSlot i (.ref (T.heap.size + 1 + i)))) n, rfl, fun _ => rfl⟩
  have all : ∀ i, i ≤ 6 → Fl i (seq i) := by
    intro i
    induction i with
    | zero => intro _; rw [hseq.1]; exact f0
    | succ i ih => intro hi; rw [hseq.2 i]; exact fs i _ (by omega) (ih (by omega))
  obtain ⟨t, st, hQ⟩ := goal (seq 6) (all 6 (Nat.le_refl 6))
  refine ⟨t, ?_, hQ⟩
  obtain ⟨hr1, hr2⟩ := X.roomAbove hcells hslots
  jvm_step X.here [hexec, hdg]
  simp only [multianewarray.sem, wp_bind', W.resolveClassAt_links (State.method?_setTop g X.here.top) hg₁]
  rw [Jvm.W.popN, if_neg (by decide)]
  refine ⟨g, State.topJava?_setTop' (s := T.setVm vm₁) g X.here.top, [.int 6, .int 6], rest, rfl, hstack, ?_⟩
  simp only [List.mapM_cons, List.mapM_nil, wp_bind', wp_pure']
  rw [show ((T.setTop g).setVm vm₁).setTop { g with stack := rest } = (T.setVm vm₁).setTop { g with stack := rest } from by
    show ((T.setVm vm₁).setTop g).setTop _ = _
    rw [State.setTop_setTop]]
  rw [multianewarray.make]
  simp only [wp_bind', Jvm.W.ite, show ¬ (6 : Int32) < 0 by decide, if_false, wp_pure', Jvm.W.theClass]
  refine ⟨kA₁, gA₁, ?_⟩
  simp only [kindA₁, n6]
  simp only [wp_bind', wp_pure']
  refine mm_alloc (comp := cI) (kk := kA₁) (ty := .array .int) gA₁ kindA₁ hl hh rfl rfl (by show T.heap.size + 1 ≤ _; omega) (by show T.slotsUsed + 6 ≤ _; omega) (fun acts1 => ?_)
  rw [if_neg (show ¬ ((6 : Int32) == 0) = true by decide)]
  simp only [wp_bind', wp_pure']
  rw [Std.Legacy.Range.forIn_eq_forIn_range', show ([:6] : Std.Legacy.Range).size = 6 from by simp [Std.Legacy.Range.size]]
  show wp (forIn (List.range' 0 6 1) PUnit.unit _) _ _ e true acts1 _
  have e0 : ((T.setVm vm₁).setTop { g with stack := rest }).pushCell (arrV cA 6 (fun _ => .null)) = (seq 0).setTop { g with stack := rest } := by
    rw [hseq.1, State.pushCell_setTop]
  rw [e0]
  refine wp_forIn_inv (fun r u => ∃ i, i ≤ 6 ∧ r = List.range' i (6 - i) ∧ u = (seq i).setTop { g with stack := rest }) _ _ ⟨0, by omega, rfl, rfl⟩ ?_ ?_
  · rintro x r u d' acts' Q' ⟨i, hi, hl', rfl⟩ hnext
    have hi6 : i < 6 := by
      rcases Nat.lt_or_ge i 6 with w | w
      · exact w
      · rw [show 6 - i = 0 by omega] at hl'
        cases hl'
    obtain ⟨rfl, hr⟩ : x = i ∧ r = List.range' (i + 1) (6 - (i + 1)) := by
      rw [show 6 - i = (6 - (i + 1)) + 1 by omega, List.range'_succ] at hl'
      exact ⟨(List.cons.inj hl').1, (List.cons.inj hl').2⟩
    obtain ⟨⟨L, l1, l2⟩, a1, a2, a3, a4, a5⟩ := all x hi
    obtain ⟨q1, q2⟩ := l2.roomAbove (a := 1) (b := 6) (by omega) (by omega)
    simp only [wp_bind']
    rw [multianewarray.make]
    simp only [wp_bind', Jvm.W.ite, show ¬ (6 : Int32) < 0 by decide, if_false, wp_pure', Jvm.W.theClass]
    refine ⟨kI₁, by show (seq x).vm.classes[cI]? = _; rw [a1]; exact gI₁, ?_⟩
    simp only [kindI₁, n6]
    refine mm_alloc (u := (seq x).setTop { g with stack := rest }) (comp := c0) (kk := kI₁) (ty := .int) (v := .int 0) (by show (seq x).vm.classes[cI]? = _; rw [a1]; exact gI₁) kindI₁ hl hh rfl rfl q1 q2 (fun acts2 => ?_)
    simp only [wp_bind', Jvm.W.writeLoc, wp_pure']
    have lt0 : T.heap.size < ((seq x).setTop { g with stack := rest }).heap.size := by show T.heap.size < (seq x).heap.size; omega
    refine ⟨arrV cA 6 (fun j => if j < x then .ref (T.heap.size + 1 + j) else .null), (State.heap_pushCell_of_lt _ _ lt0).trans a4, by simp [arrV], by rw [arrV_size]; exact hi6, ?_, hnext _ _ _ ⟨x + 1, hi6, hr, ?_⟩⟩
    · simp [State.fitsSlot, State.slotType?, arrV, a1, gA₁, kindA₁, fits]
    · rw [hseq.2 x, State.pushCell_setTop, State.setCell_setTop]
      rw [show ((seq x).setTop { g with stack := rest }).heap.size = T.heap.size + 1 + x from a2]
      rfl
  · rintro u d' acts' ⟨i, hi, hl', rfl⟩
    have : i = 6 := by
      rcases Nat.lt_or_ge i 6 with w | w
      · rw [show 6 - i = (6 - (i + 1)) + 1 by omega, List.range'_succ] at hl'
        cases hl'
      · omega
    subst this
    obtain ⟨⟨L, l1, l2⟩, -⟩ := all 6 (Nat.le_refl 6)
    simp only [wp_pure', wp_bind', Jvm.W.mark, Jvm.W.pushRef, State.topJava?_setTop' _ l2.here.top, Option.some.injEq, exists_eq_left', State.setTop_setTop]
    intro acts
    simp [jvm, l2.here.top]
    exact st
end MULTI
