/-! ===== NJ: from here the frame goes on so, whatever is known of the heap ===== -/
def rmC (d k n : Nat) : Room := { frames := d + 1, cells := k, slots := n, locals := 100 * (d + 1) }
def NJ (φ : Fr) (R : Room) (Q : State → Prop) (I : Heap → List Loc → Prop) (k n nL pc : Nat) (L : List (Option Value)) (st : List Value) : Prop :=
  ∀ (H : Heap) (locs : List Loc) (a : Array Slot), I H locs → hasL a nL L → W φ.1.1 φ.1.2.1 φ.1.2.2.1 R φ.1.2.2.2.1 φ.1.2.2.2.2.1 φ.1.2.2.2.2.2 φ.2.1 φ.2.2.1 φ.2.2.2.1 H locs k n Q (F0 φ.1.2.2.2.2.1 pc a st)
def Fy (φ : Fr) (cc : ByteArray) (own : String) (nL : Nat) (ret : Option FieldType) : Prop :=
  φ.1.1.tables.exec = Jvm.exec ∧ φ.2.2.2.1.code = cc ∧ φ.2.2.2.1.maxLocals = nL ∧ φ.1.2.2.2.1.vm.findClass own = some φ.1.2.2.2.2.1.cls ∧ (∀ w ∈ lw_G, w.before φ.1.2.2.2.2.2 φ.1.2.2.2.1 = true) ∧ φ.2.2.1.sig.returnType = ret ∧ φ.2.2.1.locks = false
section NJROWS
variable {φ : Fr} {R : Room} {Q : State → Prop} {I : Heap → List Loc → Prop} {k n nL pc : Nat} {cc : ByteArray} {own : String} {ret : Option FieldType} {L : List (Option Value)} {rest : List Value}
theorem Fy.G {w : Cond} (F : Fy φ cc own nL ret) (h : w ∈ lw_G) : w.before φ.1.2.2.2.2.2 φ.1.2.2.2.1 = true := F.2.2.2.2.1 w h
theorem NJ.msk (bs : List Bool) {L' : List (Option Value)} {st : List Value} (hL : mskL L bs = L') (kk : NJ φ R Q I k n nL pc L' st) : NJ φ R Q I k n nL pc L st := fun H locs a hI hl => kk H locs a hI (hasL_mono hl (by rw [← hL]; exact mskL_le L bs))
theorem NJ.inv {I' : Heap → List Loc → Prop} {st : List Value} (h : ∀ H locs, I H locs → I' H locs) (kk : NJ φ R Q I' k n nL pc L st) : NJ φ R Q I k n nL pc L st := fun H locs a hI hl => kk H locs a (h H locs hI) hl
theorem NJ.iconst {z : Int} {v : Int32} (F : Fy φ cc own nL ret) (hd : decode cc pc = .ok (.iconst z, 1)) (hv : Int32.ofInt z = v) (kk : NJ φ R Q I k n nL (pc + 1) L (.int v :: rest)) : NJ φ R Q I k n nL pc L rest := fun H locs a hI hl => lv_iconst F.1 F.2.1 hd hv (kk H locs a hI hl)
theorem NJ.bipush {z : Int} {v : Int32} (F : Fy φ cc own nL ret) (hd : decode cc pc = .ok (.bipush z, 2)) (hv : (Int8.ofInt z).toInt32 = v) (kk : NJ φ R Q I k n nL (pc + 2) L (.int v :: rest)) : NJ φ R Q I k n nL pc L rest := fun H locs a hI hl => lv_bipush F.1 F.2.1 hd hv (kk H locs a hI hl)
theorem NJ.sipush {z : Int} {v : Int32} (F : Fy φ cc own nL ret) (hd : decode cc pc = .ok (.sipush z, 3)) (hv : (Int16.ofInt z).toInt32 = v) (kk : NJ φ R Q I k n nL (pc + 3) L (.int v :: rest)) : NJ φ R Q I k n nL pc L rest := fun H locs a hI hl => lv_sipush F.1 F.2.1 hd hv (kk H locs a hI hl)
theorem NJ.null (F : Fy φ cc own nL ret) (hd : decode cc pc = .ok (.aconst_null, 1)) (kk : NJ φ R Q I k n nL (pc + 1) L (.null :: rest)) : NJ φ R Q I k n nL pc L rest := fun H locs a hI hl => lv_null F.1 F.2.1 hd (kk H locs a hI hl)
theorem NJ.dup {v : Value} (F : Fy φ cc own nL ret) (hd : decode cc pc = .ok (.dup, 1)) (hv : v.category = 1) (kk : NJ φ R Q I k n nL (pc + 1) L (v :: v :: rest)) : NJ φ R Q I k n nL pc L (v :: rest) := fun H locs a hI hl => lv_dup F.1 F.2.1 hd hv (kk H locs a hI hl)
theorem NJ.pop {v : Value} (F : Fy φ cc own nL ret) (hd : decode cc pc = .ok (.pop, 1)) (hv : v.category = 1) (kk : NJ φ R Q I k n nL (pc + 1) L rest) : NJ φ R Q I k n nL pc L (v :: rest) := fun H locs a hI hl => lv_pop F.1 F.2.1 hd hv (kk H locs a hI hl)
theorem NJ.iadd {x y : Int32} (F : Fy φ cc own nL ret) (hd : decode cc pc = .ok (.iadd, 1)) (kk : NJ φ R Q I k n nL (pc + 1) L (.int (x + y) :: rest)) : NJ φ R Q I k n nL pc L (.int y :: .int x :: rest) := fun H locs a hI hl => lv_iadd F.1 F.2.1 hd (kk H locs a hI hl)
theorem NJ.isub {x y : Int32} (F : Fy φ cc own nL ret) (hd : decode cc pc = .ok (.isub, 1)) (kk : NJ φ R Q I k n nL (pc + 1) L (.int (x - y) :: rest)) : NJ φ R Q I k n nL pc L (.int y :: .int x :: rest) := fun H locs a hI hl => lv_isub F.1 F.2.1 hd (kk H locs a hI hl)
theorem NJ.iand {x y : Int32} (F : Fy φ cc own nL ret) (hd : decode cc pc = .ok (.iand, 1)) (kk : NJ φ R Q I k n nL (pc + 1) L (.int (x &&& y) :: rest)) : NJ φ R Q I k n nL pc L (.int y :: .int x :: rest) := fun H locs a hI hl => lv_iand F.1 F.2.1 hd (kk H locs a hI hl)
theorem NJ.lcmp {x y : Int64} (F : Fy φ cc own nL ret) (hd : decode cc pc = .ok (.lcmp, 1)) (kk : NJ φ R Q I k n nL (pc + 1) L (.int (lg_cmp x y) :: rest)) : NJ φ R Q I k n nL pc L (.long y :: .long x :: rest) := fun H locs a hI hl => W.lcmp F.1 F.2.1 hd (kk H locs a hI hl)
theorem NJ.eqv {st st' : List Value} (e : st' = st) (kk : NJ φ R Q I k n nL pc L st') : NJ φ R Q I k n nL pc L st := e ▸ kk
theorem NJ.iload_n {q : Fin 4} {i : Nat} {x : Int32} (F : Fy φ cc own nL ret) (hd : decode cc pc = .ok (.iload_n q, 1)) (hi : (q : Nat) = i) (hx : L[i]? = some (some (.int x))) (kk : NJ φ R Q I k n nL (pc + 1) L (.int x :: rest)) : NJ φ R Q I k n nL pc L rest := fun H locs a hI hl => lv_iload_n F.1 F.2.1 hd hi (hl.2.2 i _ hx) (kk H locs a hI hl)
theorem NJ.aload_n {q : Fin 4} {i x : Nat} (F : Fy φ cc own nL ret) (hd : decode cc pc = .ok (.aload_n q, 1)) (hi : (q : Nat) = i) (hx : L[i]? = some (some (.ref x))) (kk : NJ φ R Q I k n nL (pc + 1) L (.ref x :: rest)) : NJ φ R Q I k n nL pc L rest := fun H locs a hI hl => lv_aload_n F.1 F.2.1 hd hi (hl.2.2 i _ hx) (kk H locs a hI hl)
theorem NJ.istore_n {q : Fin 4} {i : Nat} {x y : Int32} {L' : List (Option Value)} (F : Fy φ cc own nL ret) (hd : decode cc pc = .ok (.istore_n q, 1)) (hi : (q : Nat) = i) (hn : i < nL) (ho : okS L i = true) (e : x = y) (hL : L.set i (some (.int y)) = L') (kk : NJ φ R Q I k n nL (pc + 1) L' rest) : NJ φ R Q I k n nL pc L (.int x :: rest) := e ▸ fun H locs a hI hl => lv_istore_n F.1 F.2.1 hd hi (hasL_lv hl) hn rfl (fun a' h' => kk H locs a' hI (hL ▸ hasL_set1 (a := a) ho h'))
theorem NJ.astore_n {q : Fin 4} {i x : Nat} {L' : List (Option Value)} (F : Fy φ cc own nL ret) (hd : decode cc pc = .ok (.astore_n q, 1)) (hi : (q : Nat) = i) (hn : i < nL) (ho : okS L i = true) (hL : L.set i (some (.ref x)) = L') (kk : NJ φ R Q I k n nL (pc + 1) L' rest) : NJ φ R Q I k n nL pc L (.ref x :: rest) := fun H locs a hI hl => lv_astore_n F.1 F.2.1 hd hi (hasL_lv hl) hn rfl (fun a' h' => kk H locs a' hI (hL ▸ hasL_set1 (a := a) ho h'))
theorem NJ.iinc {i : Nat} {z' : Int} {x v z : Int32} {L' : List (Option Value)} (F : Fy φ cc own nL ret) (hd : decode cc pc = .ok (.iinc i z', 3)) (hx : L[i]? = some (some (.int x))) (hz : Int32.ofInt z' = z) (hv : x + z = v) (hn : i < nL) (ho : okS L i = true) (hL : L.set i (some (.int v)) = L') (kk : NJ φ R Q I k n nL (pc + 3) L' rest) : NJ φ R Q I k n nL pc L rest := by
  obtain ⟨q, hq⟩ := alL_at hx
  subst hz
  exact fun H locs a hI hl => lv_iinc F.1 F.2.1 hd (hasL_lv hl) hq hv hn rfl (fun a' h' => kk H locs a' hI (hL ▸ hasL_set1 (a := a) ho h'))
theorem NJ.goto {off : Int} {tgt : Nat} (F : Fy φ cc own nL ret) (hd : decode cc pc = .ok (.goto off, 3)) (ht : (pc : Int) + off = (tgt : Int)) (kk : NJ φ R Q I k n nL tgt L rest) : NJ φ R Q I k n nL pc L rest := fun H locs a hI hl => lv_goto F.1 F.2.1 hd ht (kk H locs a hI hl)
theorem NJ.icmp_ge {x y : Int32} {off : Int} {tgt : Nat} (F : Fy φ cc own nL ret) (hd : decode cc pc = .ok (.if_icmp .ge off, 3)) (ht : (pc : Int) + off = (tgt : Int)) (kt : x ≥ y → NJ φ R Q I k n nL tgt L rest) (kf : ¬ x ≥ y → NJ φ R Q I k n nL (pc + 3) L rest) : NJ φ R Q I k n nL pc L (.int y :: .int x :: rest) := fun H locs a hI hl => lv_icmp_ge F.1 F.2.1 hd ht (fun h => kt h H locs a hI hl) (fun h => kf h H locs a hI hl)
theorem NJ.icmp_gt {x y : Int32} {off : Int} {tgt : Nat} (F : Fy φ cc own nL ret) (hd : decode cc pc = .ok (.if_icmp .gt off, 3)) (ht : (pc : Int) + off = (tgt : Int)) (kt : x > y → NJ φ R Q I k n nL tgt L rest) (kf : ¬ x > y → NJ φ R Q I k n nL (pc + 3) L rest) : NJ φ R Q I k n nL pc L (.int y :: .int x :: rest) := fun H locs a hI hl => lv_icmp_gt F.1 F.2.1 hd ht (fun h => kt h H locs a hI hl) (fun h => kf h H locs a hI hl)
theorem NJ.icmp_eq {x y : Int32} {off : Int} {tgt : Nat} (F : Fy φ cc own nL ret) (hd : decode cc pc = .ok (.if_icmp .eq off, 3)) (ht : (pc : Int) + off = (tgt : Int)) (kt : x = y → NJ φ R Q I k n nL tgt L rest) (kf : ¬ x = y → NJ φ R Q I k n nL (pc + 3) L rest) : NJ φ R Q I k n nL pc L (.int y :: .int x :: rest) := fun H locs a hI hl => lv_icmp_eq F.1 F.2.1 hd ht (fun h => kt h H locs a hI hl) (fun h => kf h H locs a hI hl)
theorem NJ.if_eq {x : Int32} {off : Int} {tgt : Nat} (F : Fy φ cc own nL ret) (hd : decode cc pc = .ok (.ifCond .eq off, 3)) (ht : (pc : Int) + off = (tgt : Int)) (kt : x = 0 → NJ φ R Q I k n nL tgt L rest) (kf : ¬ x = 0 → NJ φ R Q I k n nL (pc + 3) L rest) : NJ φ R Q I k n nL pc L (.int x :: rest) := fun H locs a hI hl => lv_if_eq F.1 F.2.1 hd ht (fun h => kt h H locs a hI hl) (fun h => kf h H locs a hI hl)
theorem NJ.tabIn {dflt lo hi : Int} {offs : Array Int} {len : Nat} {x : Int32} {off : Int} {tgt : Nat} (F : Fy φ cc own nL ret) (hd : decode cc pc = .ok (.tableswitch dflt lo hi offs, len)) (h1 : ¬ x.toInt < lo) (h2 : ¬ hi < x.toInt) (ho : offs[(x.toInt - lo).toNat]? = some off) (ht : (pc : Int) + off = (tgt : Int)) (kk : NJ φ R Q I k n nL tgt L rest) : NJ φ R Q I k n nL pc L (.int x :: rest) := fun H locs a hI hl => lv_tableIn F.1 F.2.1 hd h1 h2 ho ht (kk H locs a hI hl)
theorem NJ.tabOut {dflt lo hi : Int} {offs : Array Int} {len : Nat} {x : Int32} {tgt : Nat} (F : Fy φ cc own nL ret) (hd : decode cc pc = .ok (.tableswitch dflt lo hi offs, len)) (h : x.toInt < lo ∨ hi < x.toInt) (ht : (pc : Int) + dflt = (tgt : Int)) (kk : NJ φ R Q I k n nL tgt L rest) : NJ φ R Q I k n nL pc L (.int x :: rest) := fun H locs a hI hl => lv_tableOut F.1 F.2.1 hd h ht (kk H locs a hI hl)
end NJROWS
/-! ===== constructors ===== -/
/-- what a constructor needs of the tables beside lw_G -/
def nestL : List Cond := [.methodLinkNest "SewnUp$House" 30 yX0_init "SewnUp", .methodLinkNest "SewnUp" 35 yX4_init "SewnUp", .methodLinkNest "SewnUp$Reader" 11 yX6_init "SewnUp", .methodLinkNest "SewnUp" 48 yX2_init "SewnUp", .methodLinkNest "SewnUp" 55 yX8_init "SewnUp", .methodLinkNest "SewnUp" 62 yX3_init "SewnUp", .methodLinkNest "SewnUp" 76 yX7_init "SewnUp", .methodLinkNest "SewnUp" 77 yX5_init "SewnUp"]
def EX (U : State) : Prop := (∀ w ∈ nestL, va_Nw w U) ∧ va_AO "SewnUp$Groom" U ∧ va_AO "SewnUp$Text" U ∧ va_AO "SewnUp$Sheet" U
theorem EX.calling {U : State} (g : JFrame) (mk : MethodId) (a : Array Value) (h : EX U) : EX (U.calling g mk a) := by
  refine ⟨fun w hw => ?_, h.2.1.moved (Vm.Alike.refl U.vm), h.2.2.1.moved (Vm.Alike.refl U.vm), h.2.2.2.moved (Vm.Alike.refl U.vm)⟩
  have := h.1 w hw
  simp only [nestL, List.mem_cons, List.not_mem_nil, or_false] at hw
  rcases hw with rfl | rfl | rfl | rfl | rfl | rfl | rfl | rfl <;> exact this.same rfl rfl
theorem EX.warm {s U : State} (hW : s.WarmedH U.vm) (h : EX s) : EX U := by
  refine ⟨fun w hw => ?_, h.2.1.moved hW.alike, h.2.2.1.moved hW.alike, h.2.2.2.moved hW.alike⟩
  have := h.1 w hw
  simp only [nestL, List.mem_cons, List.not_mem_nil, or_false] at hw
  rcases hw with rfl | rfl | rfl | rfl | rfl | rfl | rfl | rfl <;> exact va_Nw.warmM hW this
def FK (φ : Fr) (cc : ByteArray) (own : String) (nL : Nat) (A : Nat → Prop) : Prop := Fy φ cc own nL none ∧ va_K (gl φ).2.1 vwCl (tysOf (gl φ)) φ.1.2.2.2.1 ∧ (∀ q : Nat, φ.1.2.2.2.1.heap.size ≤ q → A q) ∧ φ.2.2.1.name = "<init>" ∧ EX φ.1.2.2.2.1
def CI (φ : Fr) (A : Nat → Prop) (ws : va_W) : Heap → List Loc → Prop := fun H locs => va_P (gl φ).2.1 vwCl ws H ∧ va_D A ws ∧ va_S A φ.1.2.2.2.1.heap H locs
def refL (l : List (Option Nat)) : Nat → Option Nat := fun j => l.getD j none
theorem refL_up {l : List (Option Nat)} {i v : Nat} (h : i < l.length) : va_up (refL l) i (some v) = refL (l.set i (some v)) := by
  funext j
  unfold va_up refL
  rw [List.getD_eq_getElem?_getD, List.getD_eq_getElem?_getD, List.getElem?_set]
  by_cases q : j = i
  · subst q; rw [if_pos rfl, if_pos rfl, if_pos h]; rfl
  · rw [if_neg q, if_neg (Ne.symm q)]
section NKROWS
variable {φ : Fr} {R : Room} {Q : State → Prop} {A : Nat → Prop} {ws : va_W} {k n nL pc : Nat} {cc : ByteArray} {own : String} {L : List (Option Value)} {rest : List Value}
theorem NJ.world {ws' : va_W} {st : List Value} (e : ws = ws') (kk : NJ φ R Q (CI φ A ws') k n nL pc L st) : NJ φ R Q (CI φ A ws) k n nL pc L st := e ▸ kk
theorem NJ.objInit {idx : Nat} {a : Nat} (F : FK φ cc own nL A) (h1 : Cond.methodLink own idx Lib.objectInit ∈ lw_G) (h2 : Cond.instanceMethod Lib.objectInit ∈ lw_G) (h3 : Cond.code Lib.objectInit ⟨#[0xb1]⟩ 1 none ∈ lw_G) (hd : decode cc pc = .ok (.invokespecial idx, 3)) (hR : 1 ≤ R.frames) (hR2 : (rest.map fun v => v.category).sum + 12 ≤ R.locals) (kk : NJ φ R Q (CI φ A ws) k n nL (pc + 3) L rest) : NJ φ R Q (CI φ A ws) k n nL pc L (.ref a :: rest) := fun H locs ls hI hl => W.objInit F.1.1 F.1.2.1 F.1.2.2.2.1 (F.1.G h1) (F.1.G h2) (F.1.G h3) rfl (hl.1.trans F.1.2.2.1.symm) rfl hd hR (by show 2 * 0 + _ + 12 ≤ _; omega) (kk H locs ls hI hl)
theorem NJ.get {q0 ci idx kf N a : Nat} {C : String} {T : u_T} {fs : List Value} {v : Value} (F : FK φ cc own nL A) (he : ws[q0]? = some (a, .inr (ci, fs))) (hc : vwCl[ci]? = some (C, T, N)) (hk : kf < N) (hin : ∀ w ∈ u_ws C T N, w ∈ lw_G) (hlink : Cond.fieldLink own idx (T kf).1 (T kf).2.1 (T kf).2.2.1 ∈ lw_G) (hv : fs[kf]? = some v) (hd : decode cc pc = .ok (.getfield idx, 3)) (kk : NJ φ R Q (CI φ A ws) k n nL (pc + 3) L (v :: rest)) : NJ φ R Q (CI φ A ws) k n nL pc L (.ref a :: rest) := fun H locs ls hI hl => va_get F.1.1 F.1.2.1 F.1.2.2.2.2.1 hin F.1.2.2.2.1 F.2.1 hI.1 q0 he hc kf hk (F.1.G hlink) (fun _ h => h) hv hd (kk H locs ls hI hl)
theorem NJ.put {q0 ci idx kf N a : Nat} {C : String} {T : u_T} {fs : List Value} {v : Value} {ty : FieldType} {ws' : va_W} (F : FK φ cc own nL A) (he : ws[q0]? = some (a, .inr (ci, fs))) (hc : vwCl[ci]? = some (C, T, N)) (hk : kf < N) (hin : ∀ w ∈ u_ws C T N, w ∈ lw_G) (ty0 : Nat → FieldType) (hty : ∀ k, k < N → parseFieldDescriptor (T k).2.2.1 = some (ty0 k)) (hnm : ∀ a, a < N → ∀ b, b < N → a ≠ b → (T a).2.1 ≠ (T b).2.1) (hlink : Cond.fieldLink own idx (T kf).1 (T kf).2.1 (T kf).2.2.1 ∈ lw_G) (hfin : (T kf).2.2.2 = false) (hdt : parseFieldDescriptor (T kf).2.2.1 = some ty) (hnar : narrow ty v = v) (hfit : fits ty v = true) (hlen : kf < fs.length) (e : ws.set q0 (a, .inr (ci, fs.set kf v)) = ws') (hd : decode cc pc = .ok (.putfield idx, 3)) (kk : NJ φ R Q (CI φ A ws') k n nL (pc + 3) L rest) : NJ φ R Q (CI φ A ws) k n nL pc L (v :: .ref a :: rest) := by
  subst e
  exact fun H locs ls hI hl => va_put F.1.1 F.1.2.1 F.1.2.2.2.2.1 hin ty0 hty hnm F.1.2.2.2.1 F.2.1 hI.1 hI.2.1 hI.2.2 q0 he hc kf hk (F.1.G hlink) (fun _ h => h) hfin hdt hnar hfit hlen hd (fun H1 locs1 hP hD hS => kk H1 locs1 ls ⟨hP, hD, hS⟩ hl)
theorem NJ.putF {q0 ci idx kf N a : Nat} {C : String} {T : u_T} {fs : List Value} {v : Value} {ty : FieldType} {ws' : va_W} (F : FK φ cc own nL A) (he : ws[q0]? = some (a, .inr (ci, fs))) (hc : vwCl[ci]? = some (C, T, N)) (hk : kf < N) (hin : ∀ w ∈ u_ws C T N, w ∈ lw_G) (ty0 : Nat → FieldType) (hty : ∀ k, k < N → parseFieldDescriptor (T k).2.2.1 = some (ty0 k)) (hnm : ∀ a, a < N → ∀ b, b < N → a ≠ b → (T a).2.1 ≠ (T b).2.1) (hlink : Cond.fieldLink own idx (T kf).1 (T kf).2.1 (T kf).2.2.1 ∈ lw_G) (hfin : (T kf).2.2.2 = true) (hdecl : (T kf).1 = own) (hdt : parseFieldDescriptor (T kf).2.2.1 = some ty) (hnar : narrow ty v = v) (hfit : fits ty v = true) (hlen : kf < fs.length) (e : ws.set q0 (a, .inr (ci, fs.set kf v)) = ws') (hd : decode cc pc = .ok (.putfield idx, 3)) (kk : NJ φ R Q (CI φ A ws') k n nL (pc + 3) L rest) : NJ φ R Q (CI φ A ws) k n nL pc L (v :: .ref a :: rest) := by
  subst e
  exact fun H locs ls hI hl => va_putF F.1.1 F.1.2.1 F.1.2.2.2.2.1 hin ty0 hty hnm F.1.2.2.2.1 F.2.1 hI.1 hI.2.1 hI.2.2 q0 he hc kf hk (F.1.G hlink) (fun _ h => h) hfin F.2.2.2.1 hdecl hdt hnar hfit hlen hd (fun H1 locs1 hP hD hS => kk H1 locs1 ls ⟨hP, hD, hS⟩ hl)
theorem NJ.new {ci idx N : Nat} {C : String} {T : u_T} {fs : List Value} (F : FK φ cc own nL A) (ty : Nat → FieldType) (hc : vwCl[ci]? = some (C, T, N)) (hin : ∀ w ∈ u_ws C T N, w ∈ lw_G) (hty : ∀ k, k < N → parseFieldDescriptor (T k).2.2.1 = some (ty k)) (hcl : Cond.classLink own idx C ∈ lw_G) (hinst : Cond.instantiable C N ∈ lw_G) (hini : Cond.initialized C ∈ lw_G) (hfs : ∀ j, j < N → defaultValue (ty j) = vp_V fs j) (hk : k + 1 ≤ R.cells) (hn : n + N ≤ R.slots) (hd : decode cc pc = .ok (.new idx, 3)) (kk : ∀ q : Nat, NJ φ R Q (CI φ A (ws ++ [(q, .inr (ci, fs))])) (k + 1) (n + N) nL (pc + 3) L (.ref q :: rest)) : NJ φ R Q (CI φ A ws) k n nL pc L rest := fun H locs ls hI hl => va_new F.1.1 F.1.2.1 F.1.2.2.2.2.1 hin ty hty F.1.2.2.2.1 (F.1.G hcl) (F.1.G hinst) (F.1.G hini) F.2.1 hI.1 hI.2.1 hI.2.2 F.2.2.1 hc hfs hk hn hd (fun q H1 hP hD hS => kk q H1 locs ls ⟨hP, hD, hS⟩ hl)
theorem va_one {D : va_G} {tys : List (ClassId × FieldType)} {U : State} {c c' : ClassId} {ty : FieldType} {t : Nat} (h : va_K D vwCl tys U) (ht : tys[t]? = some (c, ty)) (h' : va_K D vwCl (tys ++ [(c', ty)]) U) : c' = c := by
  have a := (h.2 t _ ht).2
  have b := (h'.2 tys.length (c', ty) (by simp)).2
  cases ty with
  | object C =>
    obtain ⟨-, -, -, -, -, e1⟩ := a
    obtain ⟨-, -, -, -, -, e2⟩ := b
    exact Option.some.inj (e2.symm.trans e1)
  | _ => exact Option.some.inj (Eq.trans (Eq.symm b) a)
theorem NJ.newi {z : Int32} {N : Nat} (F : FK φ cc own nL A) (hw : Cond.arrayClass .int ∈ lw_G) (hz : ¬ z < 0) (hN : z.toNatClampNeg = N) (hb : N * 4 ≤ 536870912) (hk : k + 1 ≤ R.cells) (hn : n + N ≤ R.slots) (hd : decode cc pc = .ok (.newarray .int, 2)) (kk : ∀ q : Nat, NJ φ R Q (CI φ A (ws ++ [(q, .inl ((gl φ).2.2.1 0, N, .inl (fun _ => 0)))])) (k + 1) (n + N) nL (pc + 2) L (.ref q :: rest)) : NJ φ R Q (CI φ A ws) k n nL pc L (.int z :: rest) := fun H locs ls hI hl => va_newa (atype := .int) F.1.1 F.1.2.1 (F.1.G hw) rfl F.2.1 hI.1 hI.2.1 hI.2.2 F.2.2.1 (a0 := (N, .inl (fun _ => 0))) (fun _ => rfl) hz hN hb hk hn hd (fun q cA H1 hK hP hD hS => by
  have e := va_one (t := 0) F.2.1 rfl hK
  subst e
  exact kk q H1 locs ls ⟨hP, hD, hS⟩ hl)
theorem NJ.newz {z : Int32} {N : Nat} (F : FK φ cc own nL A) (hw : Cond.arrayClass .boolean ∈ lw_G) (hz : ¬ z < 0) (hN : z.toNatClampNeg = N) (hb : N * 1 ≤ 536870912) (hk : k + 1 ≤ R.cells) (hn : n + N ≤ R.slots) (hd : decode cc pc = .ok (.newarray .boolean, 2)) (kk : ∀ q : Nat, NJ φ R Q (CI φ A (ws ++ [(q, .inl ((gl φ).2.2.1 1, N, .inl (fun _ => 0)))])) (k + 1) (n + N) nL (pc + 2) L (.ref q :: rest)) : NJ φ R Q (CI φ A ws) k n nL pc L (.int z :: rest) := fun H locs ls hI hl => va_newa (atype := .boolean) F.1.1 F.1.2.1 (F.1.G hw) rfl F.2.1 hI.1 hI.2.1 hI.2.2 F.2.2.1 (a0 := (N, .inl (fun _ => 0))) (fun _ => rfl) hz hN hb hk hn hd (fun q cA H1 hK hP hD hS => by
  have e := va_one (t := 1) F.2.1 rfl hK
  subst e
  exact kk q H1 locs ls ⟨hP, hD, hS⟩ hl)
theorem NJ.newq {z : Int32} {N t idx : Nat} {C : String} (F : FK φ cc own nL A) (hcl : Cond.classLink own idx C ∈ lw_G) (hover : va_AO C φ.1.2.2.2.1) (ht : (tysOf (gl φ))[t]? = some ((gl φ).2.2.1 t, .object C)) (hz : ¬ z < 0) (hN : z.toNatClampNeg = N) (hb : N * 4 ≤ 536870912) (hk : k + 1 ≤ R.cells) (hn : n + N ≤ R.slots) (hd : decode cc pc = .ok (.anewarray idx, 3)) (kk : ∀ q : Nat, NJ φ R Q (CI φ A (ws ++ [(q, .inl ((gl φ).2.2.1 t, N, .inr (.inr (.inr (.inr (fun _ => none))))))])) (k + 1) (n + N) nL (pc + 3) L (.ref q :: rest)) : NJ φ R Q (CI φ A ws) k n nL pc L (.int z :: rest) := fun H locs ls hI hl => va_newq F.1.1 F.1.2.1 F.1.2.2.2.1 (F.1.G hcl) hover F.2.1 hI.1 hI.2.1 hI.2.2 F.2.2.1 hz hN hb hk hn hd (fun q cA H1 hK hP hD hS => by
  have e := va_one (t := t) F.2.1 ht hK
  subst e
  exact kk q H1 locs ls ⟨hP, hD, hS⟩ hl)
theorem NJ.astq {q0 qk t ci i N a v : Nat} {cA : ClassId} {r : vw_C} {vs : List Value} {l : List (Option Nat)} {ws' : va_W} (F : FK φ cc own nL A) (ha : ws[q0]? = some (a, .inl (cA, N, .inr (.inr (.inr (.inr (refL l))))))) (ht : (tysOf (gl φ))[t]? = some (cA, .object r.1)) (hv : ws[qk]? = some (v, .inr (ci, vs))) (hc : vwCl[ci]? = some r) (hi : i < N) (hN : N < 2 ^ 31) (hl2 : i < l.length) (e : ws.set q0 (a, .inl (cA, N, .inr (.inr (.inr (.inr (refL (l.set i (some v)))))))) = ws') (hd : decode cc pc = .ok (.aastore, 1)) (kk : NJ φ R Q (CI φ A ws') k n nL (pc + 1) L rest) : NJ φ R Q (CI φ A ws) k n nL pc L (.ref v :: .int (nI i) :: .ref a :: rest) := by
  subst e
  refine fun H locs ls hI hl => va_astq F.1.1 F.1.2.1 F.2.1 hI.1 hI.2.1 hI.2.2 q0 t qk ci ha ht hv hc (inb_nI hi hN) hd (fun H1 locs1 hP hD hS => ?_)
  rw [show (nI i).toNatClampNeg = i from nI_clamp (by omega), refL_up hl2] at hP hD
  exact kk H1 locs1 ls ⟨hP, hD, hS⟩ hl
end NKROWS
/-- a constructor's contract: from its object as it was made to a block of cells, the object and what it made -/
def CQ (G : Glo) (blk : Nat → (Nat → Nat) → va_W) (a0 : Nat) (A : Nat → Prop) : Array Value → State → Outcome → State → Prop := va_Qv (fun _ : Nat → Nat => True) (fun u t => va_P G.2.1 vwCl (blk a0 u) t.heap ∧ va_D A (blk a0 u)) A
def Cc (l : Launch) (G : Glo) (d mc ms : Nat) (y : MethodName) (b : ByteArray) (nL : Nat) (e0 : va_E) (blk : Nat → (Nat → Nat) → va_W) : Prop := ∀ a0 sz : Nat, Met l y (.code y b nL none :: lw_G) (rmC d mc ms) (va_Pc [.ref a0] (fun U => U.heap.size = sz ∧ va_K G.2.1 vwCl (tysOf G) U ∧ va_P G.2.1 vwCl [(a0, e0)] U.heap ∧ EX U)) (CQ G blk a0 (va_A [(a0, e0)] sz)) mc ms (va_A [(a0, e0)] sz)
theorem va_D1 {A : Nat → Prop} {a : Nat} {e : va_E} (h : A a) : va_D A [(a, e)] := by
  refine ⟨fun i j p q hi hj _ => ?_, fun k q hk => ?_⟩
  · have h1 : i < 1 := (List.getElem?_eq_some_iff.mp hi).1
    have h2 : j < 1 := (List.getElem?_eq_some_iff.mp hj).1
    omega
  · have h1 : k < 1 := (List.getElem?_eq_some_iff.mp hk).1
    obtain rfl : k = 0 := by omega
    cases hk
    exact h
theorem Cc.intro {l : Launch} {G : Glo} {d mc ms nL : Nat} {y : MethodName} {b : ByteArray} {e0 : va_E} {blk : Nat → (Nat → Nat) → va_W} (hy : plainName y.cls = true) (hyn : y.name = "<init>") (hl : 1 ≤ nL) (body : ∀ (φ : Fr) (a0 : Nat) (A : Nat → Prop), φ.1.2.1 = l → gl φ = G → FK φ b y.cls nL A → NJ φ (rmC d mc ms) (MQ φ.2.1 (CQ (gl φ) blk a0 A) φ.1.2.2.2.2.2 φ.1.2.2.2.1 mc ms A) (CI φ A [(a0, e0)]) 0 0 nL 0 (padL [.ref a0] nL) []) : Cc l G d mc ms y b nL e0 blk := by
  intro a0 sz
  refine Met.ofW (cc := b) (maxL := nL) (ret := none) hy rfl ?_
  intro p e s m args' below meth c s₁ B hml hv
  obtain ⟨rfl, rfl, hK, hP, hE⟩ := hv
  have hts := atoms_spec (ws := Cond.code y b nL none :: lw_G) B.pre
  rw [lg_entry_eq]
  have hA0 : va_A [(a0, e0)] s.heap.size a0 := Or.inl ⟨0, e0, rfl⟩
  exact body ((p, l, e, s, m, (([.ref a0] : List Value)).toArray), (below, meth, c, G)) a0 (va_A [(a0, e0)] s.heap.size) rfl rfl ⟨⟨B.exec, B.bytes, hml, findClass_of_methodNamed B.named, fun w h => hts w (List.mem_cons_of_mem _ h), B.returns, B.notSynchronized⟩, hK, fun q h => Or.inr h, (name_of_methodNamed B.named B.method).1.trans hyn, hE⟩ s.heap [] _ ⟨hP, va_D1 hA0, va_S.rf⟩ (hasL_entry [.ref a0] hl)
section NCROWS
variable {φ : Fr} {R : Room} {Q : State → Prop} {A : Nat → Prop} {ws : va_W} {k n nL pc : Nat} {cc : ByteArray} {own : String} {L : List (Option Value)} {rest : List Value}
theorem NJ.vret {blk : Nat → (Nat → Nat) → va_W} {a0 mc ms : Nat} (u : Nat → Nat) (F : FK φ cc own nL A) (hk : k ≤ mc) (hn : n ≤ ms) (hd : decode cc pc = .ok (.return_, 1)) : NJ φ R (MQ φ.2.1 (CQ (gl φ) blk a0 A) φ.1.2.2.2.2.2 φ.1.2.2.2.1 mc ms A) (CI φ A (blk a0 u)) k n nL pc L [] := fun H locs ls hI hl => W.widen hk hn (W.vret F.1.1 F.1.2.1 F.1.2.2.2.2.2.1 (fun t ht hW => ⟨⟨u, rfl, trivial, by rw [ht]; exact hI.1, hI.2.1⟩, hI.2.2.F ht⟩) hI.2.2.2.2 hd F.1.2.2.2.2.2.2)
theorem CI.join {e0 : va_E} {q : Nat} {w1 : va_W} {H H1 : Heap} (hP : va_P (gl φ).2.1 vwCl (ws ++ [(q, e0)]) H) (hD : va_D A (ws ++ [(q, e0)])) (hk : ∀ x : Nat, x < H.size → ¬ va_A [(q, e0)] H.size x → H1[x]? = H[x]?) (hF : ∀ x, va_A [(q, e0)] H.size x → A x) (hP1 : va_P (gl φ).2.1 vwCl w1 H1) (hD1 : va_D (va_A [(q, e0)] H.size) w1) : va_P (gl φ).2.1 vwCl (ws ++ w1) H1 ∧ va_D A (ws ++ w1) := by
  have lastQ : (ws ++ [(q, e0)])[ws.length]? = some (q, e0) := by simp
  have frt : ∀ (i : Nat) (x : Nat × va_E), ws[i]? = some x → (ws ++ [(q, e0)])[i]? = some x := fun i x hx => by
    rw [List.getElem?_append_left (List.getElem?_eq_some_iff.mp hx).1]; exact hx
  have apart : ∀ (i : Nat) (x : Nat × va_E), ws[i]? = some x → x.1 < H.size ∧ ¬ va_A [(q, e0)] H.size x.1 := by
    intro i x hx
    have hl := (hP i x (frt i x hx)).lt
    refine ⟨hl, ?_⟩
    rintro (⟨j, e, hj⟩ | h)
    · have h1 : j < 1 := (List.getElem?_eq_some_iff.mp hj).1
      obtain rfl : j = 0 := by omega
      simp only [List.getElem?_cons_zero, Option.some.injEq, Prod.mk.injEq] at hj
      have := hD.1 i ws.length x (q, e0) (frt i x hx) lastQ hj.1.symm
      have h2 := (List.getElem?_eq_some_iff.mp hx).1
      omega
    · omega
  refine ⟨va_P.app (fun i x hx => ?_) hP1, va_D.app ⟨fun i j x y hi hj e => hD.1 i j x y (frt i x hi) (frt j y hj) e, fun i x hx => hD.2 i x (frt i x hx)⟩ (hD1.weaken (fun _ x _ h => hF x.1 h)) (fun i j x y hx hy e => ?_)⟩
  · obtain ⟨g1, g2⟩ := apart i x hx
    exact (hP i x (frt i x hx)).kept (hk x.1 g1 g2)
  · exact (apart i x hx).2 (by rw [e]; exact hD1.2 j y hy)
theorem EXb {a0 sz : Nat} {e0 : va_E} {G : Glo} : FrameBlind (va_Pc [.ref a0] (fun U => U.heap.size = sz ∧ va_K G.2.1 vwCl (tysOf G) U ∧ va_P G.2.1 vwCl [(a0, e0)] U.heap ∧ EX U)) := fun a U g mk q => ⟨q.1, q.2.1, va_K.moved (u := U) (U := U.calling g mk a) (Vm.Alike.refl U.vm) q.2.2.1, q.2.2.2.1, q.2.2.2.2.calling g mk a⟩
theorem rmC_fit {d' d k' n' k n m' : Nat} (hd : d' < d) (hm : m' ≤ 60) : (rmC d' k' n').frames + 1 ≤ (rmC d k n).frames ∧ 8 + (m' + 11) + (rmC d' k' n').locals ≤ (rmC d k n).locals := by
  simp only [rmC]
  omega
/-- what a call of a constructor stands on, the link apart -/
theorem NJ.ctor {blk : Nat → (Nat → Nat) → va_W} {e0 : va_E} {q d' mc ms m' idx : Nat} {y : MethodName} {b : ByteArray} (F : FK φ cc own nL A) (hc : Cc φ.1.2.1 (gl φ) d' mc ms y b m' e0 blk) (hlink : Cond.methodLink own idx y ∈ lw_G) (h2 : Cond.instanceMethod y ∈ lw_G) (h3 : Cond.initialized y.cls ∈ lw_G) (h4 : Cond.code y b m' none ∈ lw_G) (hy : y.name = "<init>") (h5 : (y.cls ≠ "java/lang/invoke/MethodHandle" ∧ y.cls ≠ "java/lang/invoke/VarHandle" ∧ (parseMethodDescriptor y.desc).map (fun d => d.parameters.length) = some 0)) (hR : (rmC d' mc ms).frames + 1 ≤ R.frames ∧ 8 + (m' + 11) + (rmC d' mc ms).locals ≤ R.locals) (hrest : (rest.map fun v => v.category).sum ≤ 8) (hk : k + mc ≤ R.cells) (hn : n + ms ≤ R.slots) (hd : decode cc pc = .ok (.invokespecial idx, 3)) (kk : ∀ u : Nat → Nat, NJ φ R Q (CI φ A (ws ++ blk q u)) (k + mc) (n + ms) nL (pc + 3) L rest) : NJ φ R Q (CI φ A (ws ++ [(q, e0)])) k n nL pc L (.ref q :: rest) := by
  intro H locs ls hI hl
  obtain ⟨hP, hD, hS⟩ := hI
  have hq : (ws ++ [(q, e0)])[ws.length]? = some (q, e0) := by simp
  have hF : ∀ x, va_A [(q, e0)] H.size x → A x := by
    rintro x (⟨j, e, hj⟩ | h)
    · have h1 : j < 1 := (List.getElem?_eq_some_iff.mp hj).1
      obtain rfl : j = 0 := by omega
      simp only [List.getElem?_cons_zero, Option.some.injEq, Prod.mk.injEq] at hj
      rw [← hj.1]
      exact hD.2 _ _ hq
    · exact F.2.2.1 x (Nat.le_trans hS.1 h)
  have hP1 : va_P (gl φ).2.1 vwCl [(q, e0)] H := fun j x hx => by
    have h1 : j < 1 := (List.getElem?_eq_some_iff.mp hx).1
    obtain rfl : j = 0 := by omega
    cases hx
    exact hP _ _ hq
  exact va_callv (va_runI (As := []) (rest := rest) ⟨F.1.1, F.1.2.1, F.1.2.2.1, F.1.2.2.2.1, F.1.2.2.2.2.1⟩ (hc q H.size) (cwI 0 F.1.2.2.2.2.1 (gi_code h4) rfl rfl rfl (F.1.G h3) (F.1.G hlink) (F.1.G h2) hy h5 hR) ⟨EXb, fun U hU hW => ⟨rfl, by rw [hU], va_K.moved hW.alike F.2.1, by rw [hU]; exact hP1, F.2.2.2.2.warm hW⟩⟩ rfl rfl hl.1 rfl (lv_room hrest) hd ⟨hk, hn⟩) hS (fun x _ h => hF x h) hF (fun u t H1 locs1 ht hvm hw hB hz1 hk1 hS1 => by
    obtain ⟨b1, b2⟩ := hB
    rw [ht] at b1
    obtain ⟨j1, j2⟩ := CI.join hP hD hk1 hF b1 b2
    exact kk u H1 locs1 ls ⟨j1, j2, hS1⟩ hl)
theorem NJ.ctorN {blk : Nat → (Nat → Nat) → va_W} {e0 : va_E} {q d' mc ms m' idx : Nat} {y : MethodName} {b : ByteArray} {host : String} (F : FK φ cc own nL A) (hc : Cc φ.1.2.1 (gl φ) d' mc ms y b m' e0 blk) (hlink : Cond.methodLinkNest own idx y host ∈ nestL) (h2 : Cond.instanceMethod y ∈ lw_G) (h3 : Cond.initialized y.cls ∈ lw_G) (h4 : Cond.code y b m' none ∈ lw_G) (hy : y.name = "<init>") (h5 : (y.cls ≠ "java/lang/invoke/MethodHandle" ∧ y.cls ≠ "java/lang/invoke/VarHandle" ∧ (parseMethodDescriptor y.desc).map (fun d => d.parameters.length) = some 0)) (hR : (rmC d' mc ms).frames + 1 ≤ R.frames ∧ 8 + (m' + 11) + (rmC d' mc ms).locals ≤ R.locals) (hrest : (rest.map fun v => v.category).sum ≤ 8) (hk : k + mc ≤ R.cells) (hn : n + ms ≤ R.slots) (hd : decode cc pc = .ok (.invokespecial idx, 3)) (kk : ∀ u : Nat → Nat, NJ φ R Q (CI φ A (ws ++ blk q u)) (k + mc) (n + ms) nL (pc + 3) L rest) : NJ φ R Q (CI φ A (ws ++ [(q, e0)])) k n nL pc L (.ref q :: rest) := by
  intro H locs ls hI hl
  obtain ⟨hP, hD, hS⟩ := hI
  have hq : (ws ++ [(q, e0)])[ws.length]? = some (q, e0) := by simp
  have hF : ∀ x, va_A [(q, e0)] H.size x → A x := by
    rintro x (⟨j, e, hj⟩ | h)
    · have h1 : j < 1 := (List.getElem?_eq_some_iff.mp hj).1
      obtain rfl : j = 0 := by omega
      simp only [List.getElem?_cons_zero, Option.some.injEq, Prod.mk.injEq] at hj
      rw [← hj.1]
      exact hD.2 _ _ hq
    · exact F.2.2.1 x (Nat.le_trans hS.1 h)
  have hP1 : va_P (gl φ).2.1 vwCl [(q, e0)] H := fun j x hx => by
    have h1 : j < 1 := (List.getElem?_eq_some_iff.mp hx).1
    obtain rfl : j = 0 := by omega
    cases hx
    exact hP _ _ hq
  exact va_callv (va_runIN (As := []) (rest := rest) ⟨F.1.1, F.1.2.1, F.1.2.2.1, F.1.2.2.2.1, F.1.2.2.2.2.1⟩ (hc q H.size) ⟨va_cnB 0 F.1.2.2.2.2.1 (gi_code h4) rfl rfl rfl (F.2.2.2.2.1 _ hlink) (F.1.G h3) h5 hR, hy, F.1.G h2⟩ ⟨EXb, fun U hU hW => ⟨rfl, by rw [hU], va_K.moved hW.alike F.2.1, by rw [hU]; exact hP1, F.2.2.2.2.warm hW⟩⟩ rfl rfl hl.1 rfl (lv_room hrest) hd ⟨hk, hn⟩) hS (fun x _ h => hF x h) hF (fun u t H1 locs1 ht hvm hw hB hz1 hk1 hS1 => by
    obtain ⟨b1, b2⟩ := hB
    rw [ht] at b1
    obtain ⟨j1, j2⟩ := CI.join hP hD hk1 hF b1 b2
    exact kk u H1 locs1 ls ⟨j1, j2, hS1⟩ hl)
end NCROWS
