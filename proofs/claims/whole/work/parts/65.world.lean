/-! ===== the two worlds' constructors: what they stand on ===== -/
/-- what of a run's state no call changes, as seen with the cells A left out -/
def CxA (A : Nat → Prop) (G : Glo) (U : State) (H : Heap) : Prop :=
  va_K G.2.1 vwCl (tysOf G) U ∧
  (va_Z "SewnUp" "UNDER" "[I" (.ref G.2.2.2.2.2) A U H ∧ va_T .int G.2.2.2.2.2 6 (fun j => .int (([-1, 0, 0, 1, 2, 0] : List Int32).getD j 0)) A U H) ∧
  (vk_S nJS lenJS bytJS G.2.2.2.1 G.2.2.2.2.1 A U H ∧ (∀ i : Nat, i < nJS → vk_R (ownJS i) (idxJS i) (txJS i) (G.2.2.2.1 i) U) ∧ va_Z "java/lang/String" "COMPACT_STRINGS" "Z" (.int 1) A U H ∧ va_Zq "jdk/internal/util/Preconditions" "SIOOBE_FORMATTER" "Ljava/util/function/BiFunction;" A U H) ∧
  va_Nw (.methodLinkNest "SewnUp$Man" 52 yX9_within "SewnUp") U
theorem CxA.cx {A : Nat → Prop} {G : Glo} {ad : Nat → Nat → Nat} {Ω : Wld} {U : State} {H : Heap} (h : CxA A G U H) (hn : Ω.1.Nodup) (hap : Apart Ω (ad, G.2)) (hA : ∀ q, Aw Ω (ad, G.2) q → A q) : Cx Ω (ad, G.2) U H := by
  obtain ⟨h1, ⟨h3, h4⟩, ⟨h5, h6, h7, h9⟩, h8⟩ := h
  exact ⟨h1, ⟨hn, hap⟩, ⟨h3.narrow hA, h4.narrow hA⟩, ⟨h5.narrow hA, h6, h7.narrow hA, h9.narrow hA⟩, h8⟩
theorem CxA.at {A A1 : Nat → Prop} {G : Glo} {s U : State} (h : CxA A G s s.heap) (hW : s.WarmedH U.vm) (hk : ∀ a : Nat, a < s.heap.size → ¬ A a → U.heap[a]? = s.heap[a]?) (hA : ∀ q, A1 q → A q) : CxA A1 G U U.heap := by
  obtain ⟨h1, ⟨h3, h4⟩, ⟨h5, h6, h7, h9⟩, h8⟩ := h
  exact ⟨va_K.moved hW.alike h1, ⟨((h3.moved hW.alike).kept hk).narrow hA, ((h4.moved hW.alike).kept hk).narrow hA⟩, ⟨((h5.moved hW.alike).kept hk).narrow hA, fun i hi => (h6 i hi).warm hW, ((h7.moved hW.alike).kept hk).narrow hA, ((h9.moved hW.alike).kept hk).narrow hA⟩, va_Nw.warmM hW h8⟩
theorem CxA.calling {A : Nat → Prop} {G : Glo} {U : State} (g : JFrame) (mk : MethodId) (a : Array Value) (h : CxA A G U U.heap) : CxA A G (U.calling g mk a) (U.calling g mk a).heap := by
  obtain ⟨h1, ⟨h3, h4⟩, ⟨h5, h6, h7, h9⟩, h8⟩ := h
  have hv : U.vm.Alike (U.calling g mk a).vm := Vm.Alike.refl U.vm
  exact ⟨va_K.moved hv h1, ⟨h3.moved hv, h4.moved hv⟩, ⟨h5.moved hv, fun i hi => (h6 i hi).same rfl, h7.moved hv, h9.moved hv⟩, h8.same rfl rfl⟩
theorem Cx.at2 {Ω : Wld} {G : Glo} {s U : State} {A : Nat → Prop} {H : Heap} {locs : List Loc} (h : Cx Ω G s s.heap) (hW : s.WarmedH U.vm) (hA : ∀ q : Nat, q < s.heap.size → A q → Aw Ω G q) (hS : va_S A s.heap H locs) (hU : U.heap = H) : Cx Ω G U U.heap := by
  obtain ⟨h1, h2, ⟨h3, h4⟩, ⟨h5, h6, h7, h9⟩, h8⟩ := h
  have hk : ∀ a : Nat, a < s.heap.size → ¬ Aw Ω G a → U.heap[a]? = s.heap[a]? := fun a l1 l2 => by rw [hU]; exact hS.2.1 a l1 (fun q => l2 (hA a l1 q))
  exact ⟨va_K.moved hW.alike h1, h2, ⟨(h3.moved hW.alike).kept hk, (h4.moved hW.alike).kept hk⟩, ⟨(h5.moved hW.alike).kept hk, fun i hi => (h6 i hi).warm hW, (h7.moved hW.alike).kept hk, (h9.moved hW.alike).kept hk⟩, va_Nw.warmM hW h8⟩
/-- the tables have int arrays' arrays -/
def va_AA (U : State) : Prop := (Cond.arrayOver (.array .int)).before #[] U = true
theorem va_AA.moved {u U : State} (hvm : u.vm.Alike U.vm) (h : va_AA u) : va_AA U := by
  obtain ⟨comp, c, k, h1, h2, h3, h4, h5⟩ := arrayOverA_spec h
  obtain ⟨k', hk', he⟩ := hvm.2.2 _ _ h3
  have e1 : U.vm.findClass (FieldType.array .int).toString = some comp := by rw [hvm.findClass]; exact h1
  have e2 : U.vm.findClass ("[" ++ (FieldType.array .int).toString) = some c := by rw [hvm.findClass]; exact h5
  have e3 : (U.vm.classes.findIdx? fun (x : Class) => match x.kind with | .array component _ => component == comp | _ => false) = some c := by
    rw [hvm.findIdx?_eq _ (fun _ => rfl)]
    exact h2
  have e4 : k'.kind = .array comp (.array .int) := by rw [he]; exact h4
  unfold va_AA Cond.before Cond.holds
  simp only [Cond.value]
  rw [e1, Option.bind_some]
  refine (congrArg (fun o : Option Nat => (o.bind (fun c => (U.vm.classes[c]?).map fun (k : Class) => match k.kind with | .array _ ty => decide (ty = FieldType.array .int) && decide (U.vm.findClass ("[" ++ (FieldType.array .int).toString) = some c) | _ => false) == some true)) e3).trans ?_
  simp [hk', e4, e2]
theorem va_AA.use {A : Array Value} {U : State} (h : va_AA U) : (Cond.arrayOver (.array .int)).before A U = true := h
theorem arrV_ext {c : ClassId} {N : Nat} {f g : Nat → Value} (h : ∀ j, j < N → f j = g j) : arrV c N f = arrV c N g := by
  unfold arrV
  congr 2
  funext j
  exact h j.val j.isLt
/-- int[6][6]: seven cells in a row -/
abbrev bMM (cy : Nat → ClassId) (a0 : Nat) : va_W := [(a0, .inl (cy 5, 6, .inr (.inr (.inr (.inr (fun j => some (a0 + 1 + j))))))), (a0 + 1, .inl (cy 0, 6, .inl (fun _ => 0))), (a0 + 2, .inl (cy 0, 6, .inl (fun _ => 0))), (a0 + 3, .inl (cy 0, 6, .inl (fun _ => 0))), (a0 + 4, .inl (cy 0, 6, .inl (fun _ => 0))), (a0 + 5, .inl (cy 0, 6, .inl (fun _ => 0))), (a0 + 6, .inl (cy 0, 6, .inl (fun _ => 0)))]
theorem bMM_ad {cy : Nat → ClassId} {a0 : Nat} {i : Nat} {p : Nat × va_E} (h : (bMM cy a0)[i]? = some p) : p.1 = a0 + i ∧ i < 7 := by
  have hl : i < 7 := (List.getElem?_eq_some_iff.mp h).1
  refine ⟨?_, hl⟩
  obtain rfl | rfl | rfl | rfl | rfl | rfl | rfl : i = 0 ∨ i = 1 ∨ i = 2 ∨ i = 3 ∨ i = 4 ∨ i = 5 ∨ i = 6 := by omega
  all_goals (cases h; rfl)
section NWROWS
variable {φ : Fr} {R : Room} {Q : State → Prop} {A : Nat → Prop} {ws : va_W} {k n nL pc : Nat} {cc : ByteArray} {own : String} {ret : Option FieldType} {L : List (Option Value)} {rest : List Value}
theorem NJ.mul2 {idx : Nat} (F : FK φ cc own nL A) (hO : va_AA φ.1.2.2.2.1) (hcl : Cond.classLink own idx "[[I" ∈ lw_G) (hw : Cond.arrayClass .int ∈ lw_G) (hk : k + 7 ≤ R.cells) (hn : n + 42 ≤ R.slots) (hd : decode cc pc = .ok (.multianewarray idx 2, 4)) (kk : ∀ q : Nat, NJ φ R Q (CI φ A (ws ++ bMM (gl φ).2.2.1 q)) (k + 7) (n + 42) nL (pc + 4) L (.ref q :: rest)) : NJ φ R Q (CI φ A ws) k n nL pc L (.int 6 :: .int 6 :: rest) := by
  intro H locs ls hI hl
  obtain ⟨hP, hD, hS⟩ := hI
  refine W.mul2 F.1.1 F.1.2.1 F.1.2.2.2.1 (F.1.G hcl) hO.use (F.1.G hw) rfl hd rfl hk hn (fun cA cI c0 kA kI H1 L1 fA gA kindA fI gI kindI z1 o1 e1 e2 hL => ?_)
  have xA : cA = (gl φ).2.2.1 5 := by
    have a : φ.1.2.2.2.1.vm.findClass ("[" ++ (FieldType.array .int).toString) = some ((gl φ).2.2.1 5) := (F.2.1.2 5 _ rfl).2
    exact Option.some.inj (fA.symm.trans a)
  have xI : cI = (gl φ).2.2.1 0 := by
    have a : φ.1.2.2.2.1.vm.findClass ("[" ++ (FieldType.int).toString) = some ((gl φ).2.2.1 0) := (F.2.1.2 0 _ rfl).2
    exact Option.some.inj (fI.symm.trans a)
  subst xA
  subst xI
  have aH : A H.size := F.2.2.1 _ hS.1
  have inner : ∀ j : Nat, j < 6 → va_at (gl φ).2.1 vwCl (H.size + 1 + j, .inl ((gl φ).2.2.1 0, 6, .inl (fun _ => 0))) H1 := fun j hj => e2 j hj
  have hB : va_P (gl φ).2.1 vwCl (bMM (gl φ).2.2.1 H.size) H1 := by
    intro i p hp
    obtain ⟨-, hi⟩ := bMM_ad hp
    obtain rfl | rfl | rfl | rfl | rfl | rfl | rfl : i = 0 ∨ i = 1 ∨ i = 2 ∨ i = 3 ∨ i = 4 ∨ i = 5 ∨ i = 6 := by omega
    · cases hp
      show H1[H.size]? = some (vp_cell _ _)
      rw [vp_cell_q, e1, arrV_ext (fun j hj => if_pos hj)]
      rfl
    · cases hp; exact inner 0 (by omega)
    · cases hp; exact inner 1 (by omega)
    · cases hp; exact inner 2 (by omega)
    · cases hp; exact inner 3 (by omega)
    · cases hp; exact inner 4 (by omega)
    · cases hp; exact inner 5 (by omega)
  refine kk H.size H1 _ ls ⟨(hP.kept (fun i x hx => o1 x.1 (hP i x hx).lt)).app hB, va_D.app hD ⟨fun i j p q hi hj e => ?_, fun i p hi => ?_⟩ (fun i j p q hi hj e => ?_), ⟨Nat.le_trans hS.1 (by omega), fun q h1 h2 => (o1 q (Nat.lt_of_lt_of_le h1 hS.1)).trans (hS.2.1 q h1 h2), fun x hx => ?_⟩⟩ hl
  · have a := bMM_ad hi
    have b := bMM_ad hj
    omega
  · rw [(bMM_ad hi).1]
    exact F.2.2.1 _ (Nat.le_trans hS.1 (by omega))
  · have a := (hP i p hi).lt
    have b := (bMM_ad hj).1
    omega
  · rcases List.mem_append.mp hx with h | h
    · exact hS.2.2 x h
    · rw [hL x h]; exact aH
theorem NJ.ldcS {I : Heap → List Loc → Prop} {idx : Nat} {tx : String} {q : Nat} (F : Fy φ cc own nL ret) (hR : vk_R own idx tx q φ.1.2.2.2.1) (hd : decode cc pc = .ok (.ldc idx, 2)) (kk : NJ φ R Q I k n nL (pc + 2) L (.ref q :: rest)) : NJ φ R Q I k n nL pc L rest := fun H locs ls hI hl => va_ldcS F.1 F.2.1 F.2.2.2.1 hR hd (kk H locs ls hI hl)
/-- a call of an object's method by its contract -/
theorem NJ.callV {I I' : Heap → List Loc → Prop} {Ω : Wld} {G' : Glo} {As st : List Value} {f i ci idx d' n0 n' N : Nat} {y : MethodName} {b : ByteArray} {rt : Option FieldType} {r : Option Value} {μ μ1 : Mem} {T : u_T} {fs : List Value} (F : Fy φ cc own nL ret) (hC : Cx Ω G' φ.1.2.2.2.1 φ.1.2.2.2.1.heap) (hA2 : ∀ q : Nat, q < φ.1.2.2.2.1.heap.size → A q → Aw Ω G' q) (hA3 : ∀ q : Nat, Aw Ω G' q → A q) (hI : ∀ H locs, I H locs → Wd Ω G' μ H ∧ va_S A φ.1.2.2.2.1.heap H locs) (hI' : ∀ H locs H1 locs1, I H locs → Wd Ω G' μ1 H1 → H.size ≤ H1.size → (∀ q : Nat, q < H.size → ¬ Aw Ω G' q → H1[q]? = H[q]?) → va_S A φ.1.2.2.2.1.heap H1 locs1 → I' H1 locs1) (ck : CkV own idx y b n' rt n0) (hc : Ct φ.1.2.1 Ω G' d' y b n' rt (.ref (G'.1 f i) :: As) μ (r, μ1)) (hR : (rmD d').frames + 1 ≤ R.frames ∧ 8 + (n' + 11) + (rmD d').locals ≤ R.locals) (hn : As.length = n0) (hm : (f, i) ∈ Ω.1) (he : Ω.2 G'.1 G'.2.2.1 (μ.1 f i) μ.2 i f = .inr (ci, fs)) (hcl : vwCl[ci]? = some (y.cls, T, N)) (hst : st = As.reverse ++ .ref (G'.1 f i) :: rest) (hrest : (rest.map fun v => v.category).sum ≤ 8) (hk : k ≤ R.cells) (hn2 : n ≤ R.slots) (hd : decode cc pc = .ok (.invokevirtual idx, 3)) (kk : NJ φ R Q I' k n nL (pc + 3) L (r.toList ++ rest)) : NJ φ R Q I k n nL pc L st := by
  intro H locs ls hI0 hl
  obtain ⟨hP, hS⟩ := hI H locs hI0
  obtain ⟨q, hq, hw⟩ := wl_get (Ω := Ω) (G := G') (μ := μ) hm
  rw [he] at hw
  have cw := cwV (R := R) (bytes := b) (maxL := n') (ret := rt) (rm := rmD d') (mc := 0) (ms := 0) n0 F.2.2.2.2.1 (gi_V ck) rfl rfl rfl ⟨rfl, ck.2.2.2.2.2⟩ hR
  have hr : va_Run φ.1.1 φ.1.2.1 φ.1.2.2.1 R φ.1.2.2.2.1 φ.1.2.2.2.2.1 φ.1.2.2.2.2.2 φ.2.1 φ.2.2.1 φ.2.2.2.1 H locs k n 0 0 (F0 φ.1.2.2.2.2.1 pc ls st) rest (Qr Ω G' (r, μ1) (Value.ref (G'.1 f i) :: As).toArray) (Aw Ω G') := va_runV (As := As) (rest := rest) (b := G'.1 f i) ⟨F.1, F.2.1, F.2.2.1, F.2.2.2.1, F.2.2.2.2.1⟩ hc cw ⟨Ct_blind, va_recv hC.1 hP hcl hw, fun U hU hW => ⟨rfl, hC.at2 hW hA2 hS hU, by rw [hU]; exact hP⟩⟩ rfl hn hl.1 hst (lv_room hrest) hd ⟨hk, hn2⟩
  intro T0 hT X
  obtain ⟨v, st₀, t, T', L', h0, X', hL, e1, e2, ⟨⟨hv, hp⟩, hz, hk0⟩, stp⟩ := hr T0 hT X
  cases hv
  rw [h0] at hz hk0
  have hS1 : va_S A φ.1.2.2.2.1.heap T'.heap (locs ++ L') := ⟨Nat.le_trans hS.1 (by rw [e1]; exact hz), fun q h1 h2 => by rw [e1, hk0 q (Nat.lt_of_lt_of_le h1 hS.1) (fun z => h2 (hA3 q z))]; exact hS.2.1 q h1 h2, fun q hq => by
      rcases List.mem_append.mp hq with h | h
      · exact hS.2.2 q h
      · exact hA3 _ (hL q h)⟩
  obtain ⟨t2, a1, b1⟩ := kk T'.heap (locs ++ L') ls (hI' H locs T'.heap (locs ++ L') hI0 (by rw [e1]; exact hp) (by rw [e1]; exact hz) (fun q h1 h2 => by rw [e1]; exact hk0 q h1 h2) hS1) hl T' rfl X'
  exact ⟨t2, stp t2 a1, b1⟩
end NWROWS
/-! ===== a constructor of a whole world ===== -/
def QW (Ω : Wld) (G : Glo) (In : Mem → Prop) (a0 : Nat) (A : Nat → Prop) : Array Value → State → Outcome → State → Prop := va_Qv (fun u : (Nat → Nat → Nat) × Mem => In u.2) (fun u t => Wd Ω (u.1, G.2) u.2 t.heap ∧ Apart Ω (u.1, G.2) ∧ (∀ q, Aw Ω (u.1, G.2) q → A q) ∧ u.1 0 0 = a0) A
def PW (G : Glo) (e0 : va_E) (a0 sz : Nat) (U : State) : Prop := U.heap.size = sz ∧ va_P G.2.1 vwCl [(a0, e0)] U.heap ∧ EX U ∧ va_AA U ∧ CxA (va_A [(a0, e0)] sz) G U U.heap
def CW (l : Launch) (G : Glo) (d mc ms : Nat) (y : MethodName) (b : ByteArray) (nL : Nat) (e0 : va_E) (Ω : Wld) (In : Mem → Prop) : Prop := ∀ a0 sz : Nat, Met l y (.code y b nL none :: lw_G) (rmC d mc ms) (va_Pc [.ref a0] (PW G e0 a0 sz)) (QW Ω G In a0 (va_A [(a0, e0)] sz)) mc ms (va_A [(a0, e0)] sz)
theorem PWb {a0 sz : Nat} {e0 : va_E} {G : Glo} : FrameBlind (va_Pc [.ref a0] (PW G e0 a0 sz)) := fun a U g mk q => ⟨q.1, q.2.1, q.2.2.1, q.2.2.2.1.calling g mk a, q.2.2.2.2.1.moved (Vm.Alike.refl U.vm), q.2.2.2.2.2.calling g mk a⟩
theorem CW.intro {l : Launch} {G : Glo} {d mc ms nL : Nat} {y : MethodName} {b : ByteArray} {e0 : va_E} {Ω : Wld} {In : Mem → Prop} (hy : plainName y.cls = true) (hyn : y.name = "<init>") (hl : 1 ≤ nL) (body : ∀ (φ : Fr) (a0 : Nat) (A : Nat → Prop), φ.1.2.1 = l → gl φ = G → FK φ b y.cls nL A → va_AA φ.1.2.2.2.1 → CxA A (gl φ) φ.1.2.2.2.1 φ.1.2.2.2.1.heap → (∀ q : Nat, q < φ.1.2.2.2.1.heap.size → A q → q = a0) → NJ φ (rmC d mc ms) (MQ φ.2.1 (QW Ω (gl φ) In a0 A) φ.1.2.2.2.2.2 φ.1.2.2.2.1 mc ms A) (CI φ A [(a0, e0)]) 0 0 nL 0 (padL [.ref a0] nL) []) : CW l G d mc ms y b nL e0 Ω In := by
  intro a0 sz
  refine Met.ofW (cc := b) (maxL := nL) (ret := none) hy rfl ?_
  intro p e s m args' below meth c s₁ B hml hv
  obtain ⟨rfl, rfl, hP, hE, hAA, hCx⟩ := hv
  have hts := atoms_spec (ws := Cond.code y b nL none :: lw_G) B.pre
  rw [lg_entry_eq]
  have hA0 : va_A [(a0, e0)] s.heap.size a0 := Or.inl ⟨0, e0, rfl⟩
  refine body ((p, l, e, s, m, (([.ref a0] : List Value)).toArray), (below, meth, c, G)) a0 (va_A [(a0, e0)] s.heap.size) rfl rfl ⟨⟨B.exec, B.bytes, hml, findClass_of_methodNamed B.named, fun w h => hts w (List.mem_cons_of_mem _ h), B.returns, B.notSynchronized⟩, hCx.1, fun q h => Or.inr h, (name_of_methodNamed B.named B.method).1.trans hyn, hE⟩ hAA hCx ?_ s.heap [] _ ⟨hP, va_D1 hA0, va_S.rf⟩ (hasL_entry [.ref a0] hl)
  rintro q hq (⟨j, e, hj⟩ | h)
  · have h1 : j < 1 := (List.getElem?_eq_some_iff.mp hj).1
    obtain rfl : j = 0 := by omega
    simp only [List.getElem?_cons_zero, Option.some.injEq, Prod.mk.injEq] at hj
    exact hj.1.symm
  · exact absurd h (Nat.not_le.mpr hq)
theorem NJ.wret {φ : Fr} {R : Room} {A : Nat → Prop} {k n nL pc : Nat} {cc : ByteArray} {own : String} {L : List (Option Value)} {Ω : Wld} {In : Mem → Prop} {a0 mc ms : Nat} {ad : Nat → Nat → Nat} {μ : Mem} (F : FK φ cc own nL A) (hIn : In μ) (hap : Apart Ω (ad, (gl φ).2)) (hA : ∀ q, Aw Ω (ad, (gl φ).2) q → A q) (h0 : ad 0 0 = a0) (hk : k ≤ mc) (hn : n ≤ ms) (hd : decode cc pc = .ok (.return_, 1)) : NJ φ R (MQ φ.2.1 (QW Ω (gl φ) In a0 A) φ.1.2.2.2.2.2 φ.1.2.2.2.1 mc ms A) (CI φ A (wl Ω (ad, (gl φ).2) μ)) k n nL pc L [] := fun H locs ls hI hl => W.widen hk hn (W.vret F.1.1 F.1.2.1 F.1.2.2.2.2.2.1 (fun t ht hW => ⟨⟨(ad, μ), rfl, hIn, by rw [ht]; exact hI.1, hap, hA, h0⟩, hI.2.2.F ht⟩) hI.2.2.2.2 hd F.1.2.2.2.2.2.2)
