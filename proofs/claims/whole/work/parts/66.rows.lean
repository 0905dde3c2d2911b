/-! ===== the first rows of the two worlds' constructors (laid by wip/whole/g67.py) ===== -/
section NSROWS
variable {φ : Fr} {R : Room} {Q : State → Prop} {A : Nat → Prop} {x : Nat × va_E} {W : va_W} {k n nL pc : Nat} {cc : ByteArray} {own : String} {L : List (Option Value)} {rest : List Value}
theorem NJ.putFS {ci idx kf N a : Nat} {C : String} {T : u_T} {fs : List Value} {v : Value} {ty : FieldType} (F : FK φ cc own nL A) (hc : vwCl[ci]? = some (C, T, N)) (hk : kf < N) (hin : ∀ w ∈ u_ws C T N, w ∈ lw_G) (ty0 : Nat → FieldType) (hty : ∀ k, k < N → parseFieldDescriptor (T k).2.2.1 = some (ty0 k)) (hnm : ∀ a, a < N → ∀ b, b < N → a ≠ b → (T a).2.1 ≠ (T b).2.1) (hlink : Cond.fieldLink own idx (T kf).1 (T kf).2.1 (T kf).2.2.1 ∈ lw_G) (hfin : (T kf).2.2.2 = true) (hdecl : (T kf).1 = own) (hdt : parseFieldDescriptor (T kf).2.2.1 = some ty) (hnar : narrow ty v = v) (hfit : fits ty v = true) (hlen : kf < fs.length) (hd : decode cc pc = .ok (.putfield idx, 3)) (kk : NJ φ R Q (CI φ A ((a, .inr (ci, fs.set kf v)) :: W)) k n nL (pc + 3) L rest) : NJ φ R Q (CI φ A ((a, .inr (ci, fs)) :: W)) k n nL pc L (v :: .ref a :: rest) := NJ.putF (q0 := 0) F rfl hc hk hin ty0 hty hnm hlink hfin hdecl hdt hnar hfit hlen rfl hd kk
theorem NJ.putS {ci idx kf N a : Nat} {C : String} {T : u_T} {fs : List Value} {v : Value} {ty : FieldType} (F : FK φ cc own nL A) (hc : vwCl[ci]? = some (C, T, N)) (hk : kf < N) (hin : ∀ w ∈ u_ws C T N, w ∈ lw_G) (ty0 : Nat → FieldType) (hty : ∀ k, k < N → parseFieldDescriptor (T k).2.2.1 = some (ty0 k)) (hnm : ∀ a, a < N → ∀ b, b < N → a ≠ b → (T a).2.1 ≠ (T b).2.1) (hlink : Cond.fieldLink own idx (T kf).1 (T kf).2.1 (T kf).2.2.1 ∈ lw_G) (hfin : (T kf).2.2.2 = false) (hdt : parseFieldDescriptor (T kf).2.2.1 = some ty) (hnar : narrow ty v = v) (hfit : fits ty v = true) (hlen : kf < fs.length) (hd : decode cc pc = .ok (.putfield idx, 3)) (kk : NJ φ R Q (CI φ A ((a, .inr (ci, fs.set kf v)) :: W)) k n nL (pc + 3) L rest) : NJ φ R Q (CI φ A ((a, .inr (ci, fs)) :: W)) k n nL pc L (v :: .ref a :: rest) := NJ.put (q0 := 0) F rfl hc hk hin ty0 hty hnm hlink hfin hdt hnar hfit hlen rfl hd kk
theorem NJ.newiS {z : Int32} {N : Nat} (F : FK φ cc own nL A) (hw : Cond.arrayClass .int ∈ lw_G) (hz : ¬ z < 0) (hN : z.toNatClampNeg = N) (hb : N * 4 ≤ 536870912) (hk : k + 1 ≤ R.cells) (hn : n + N ≤ R.slots) (hd : decode cc pc = .ok (.newarray .int, 2)) (kk : ∀ q : Nat, NJ φ R Q (CI φ A (x :: (W ++ [(q, .inl ((gl φ).2.2.1 0, N, .inl (fun _ => 0)))]))) (k + 1) (n + N) nL (pc + 2) L (.ref q :: rest)) : NJ φ R Q (CI φ A (x :: W)) k n nL pc L (.int z :: rest) := NJ.newi F hw hz hN hb hk hn hd kk
theorem NJ.newzS {z : Int32} {N : Nat} (F : FK φ cc own nL A) (hw : Cond.arrayClass .boolean ∈ lw_G) (hz : ¬ z < 0) (hN : z.toNatClampNeg = N) (hb : N * 1 ≤ 536870912) (hk : k + 1 ≤ R.cells) (hn : n + N ≤ R.slots) (hd : decode cc pc = .ok (.newarray .boolean, 2)) (kk : ∀ q : Nat, NJ φ R Q (CI φ A (x :: (W ++ [(q, .inl ((gl φ).2.2.1 1, N, .inl (fun _ => 0)))]))) (k + 1) (n + N) nL (pc + 2) L (.ref q :: rest)) : NJ φ R Q (CI φ A (x :: W)) k n nL pc L (.int z :: rest) := NJ.newz F hw hz hN hb hk hn hd kk
theorem NJ.newqS {z : Int32} {N t idx : Nat} {C : String} {l : List (Option Nat)} (e : (fun _ => none : Nat → Option Nat) = refL l) (F : FK φ cc own nL A) (hcl : Cond.classLink own idx C ∈ lw_G) (hover : va_AO C φ.1.2.2.2.1) (ht : (tysOf (gl φ))[t]? = some ((gl φ).2.2.1 t, .object C)) (hz : ¬ z < 0) (hN : z.toNatClampNeg = N) (hb : N * 4 ≤ 536870912) (hk : k + 1 ≤ R.cells) (hn : n + N ≤ R.slots) (hd : decode cc pc = .ok (.anewarray idx, 3)) (kk : ∀ q : Nat, NJ φ R Q (CI φ A (x :: (W ++ [(q, .inl ((gl φ).2.2.1 t, N, .inr (.inr (.inr (.inr (refL l))))))]))) (k + 1) (n + N) nL (pc + 3) L (.ref q :: rest)) : NJ φ R Q (CI φ A (x :: W)) k n nL pc L (.int z :: rest) := NJ.newq F hcl hover ht hz hN hb hk hn hd (fun q => NJ.world (by rw [e]; rfl) (kk q))
theorem NJ.mul2S {idx : Nat} (F : FK φ cc own nL A) (hO : va_AA φ.1.2.2.2.1) (hcl : Cond.classLink own idx "[[I" ∈ lw_G) (hw : Cond.arrayClass .int ∈ lw_G) (hk : k + 7 ≤ R.cells) (hn : n + 42 ≤ R.slots) (hd : decode cc pc = .ok (.multianewarray idx 2, 4)) (kk : ∀ q : Nat, NJ φ R Q (CI φ A (x :: (W ++ bMM (gl φ).2.2.1 q))) (k + 7) (n + 42) nL (pc + 4) L (.ref q :: rest)) : NJ φ R Q (CI φ A (x :: W)) k n nL pc L (.int 6 :: .int 6 :: rest) := NJ.mul2 F hO hcl hw hk hn hd (fun q => NJ.world (List.cons_append) (kk q))
theorem NJ.mkS {ci idx idx2 N d' mc ms m' : Nat} {C : String} {T : u_T} {fs : List Value} {blk : Nat → (Nat → Nat) → va_W} {y : MethodName} {b : ByteArray} {host : String} (F : FK φ cc own nL A) (ty : Nat → FieldType) (hc : vwCl[ci]? = some (C, T, N)) (hin : ∀ w ∈ u_ws C T N, w ∈ lw_G) (hty : ∀ k, k < N → parseFieldDescriptor (T k).2.2.1 = some (ty k)) (hcl : Cond.classLink own idx C ∈ lw_G) (hinst : Cond.instantiable C N ∈ lw_G) (hini : Cond.initialized C ∈ lw_G) (hfs : ∀ j, j < N → defaultValue (ty j) = vp_V fs j) (hd : decode cc pc = .ok (.new idx, 3)) (hd2 : decode cc (pc + 3) = .ok (.dup, 1)) (hC : Cc φ.1.2.1 (gl φ) d' mc ms y b m' (.inr (ci, fs)) blk) (hlink : Cond.methodLinkNest own idx2 y host ∈ nestL) (h2 : Cond.instanceMethod y ∈ lw_G) (h3 : Cond.initialized y.cls ∈ lw_G) (h4 : Cond.code y b m' none ∈ lw_G) (hy : y.name = "<init>") (h5 : (y.cls ≠ "java/lang/invoke/MethodHandle" ∧ y.cls ≠ "java/lang/invoke/VarHandle" ∧ (parseMethodDescriptor y.desc).map (fun d => d.parameters.length) = some 0)) (hR : (rmC d' mc ms).frames + 1 ≤ R.frames ∧ 8 + (m' + 11) + (rmC d' mc ms).locals ≤ R.locals) (q1 : (rest.map fun v => v.category).sum ≤ 7) (hk : k + 1 + mc ≤ R.cells) (hn : n + N + ms ≤ R.slots) (hd3 : decode cc (pc + 3 + 1) = .ok (.invokespecial idx2, 3)) (kk : ∀ (q : Nat) (u : Nat → Nat), NJ φ R Q (CI φ A (x :: (W ++ blk q u))) (k + 1 + mc) (n + N + ms) nL (pc + 3 + 1 + 3) L (.ref q :: rest)) : NJ φ R Q (CI φ A (x :: W)) k n nL pc L rest := NJ.new F ty hc hin hty hcl hinst hini hfs (by omega) (by omega) hd (fun q => NJ.dup F.1 hd2 rfl (NJ.ctorN F hC hlink h2 h3 h4 hy h5 hR (by simp only [List.map_cons, List.sum_cons]; exact Nat.le_trans (Nat.add_le_add_left q1 _) (Nat.le_of_ble_eq_true rfl)) hk hn hd3 (fun u => NJ.world (List.cons_append) (kk q u))))
theorem NJ.mkT {ci idx idx2 N d' mc ms m' : Nat} {C : String} {T : u_T} {fs : List Value} {blk : Nat → (Nat → Nat) → va_W} {y : MethodName} {b : ByteArray} (F : FK φ cc own nL A) (ty : Nat → FieldType) (hc : vwCl[ci]? = some (C, T, N)) (hin : ∀ w ∈ u_ws C T N, w ∈ lw_G) (hty : ∀ k, k < N → parseFieldDescriptor (T k).2.2.1 = some (ty k)) (hcl : Cond.classLink own idx C ∈ lw_G) (hinst : Cond.instantiable C N ∈ lw_G) (hini : Cond.initialized C ∈ lw_G) (hfs : ∀ j, j < N → defaultValue (ty j) = vp_V fs j) (hd : decode cc pc = .ok (.new idx, 3)) (hd2 : decode cc (pc + 3) = .ok (.dup, 1)) (hC : Cc φ.1.2.1 (gl φ) d' mc ms y b m' (.inr (ci, fs)) blk) (hlink : Cond.methodLink own idx2 y ∈ lw_G) (h2 : Cond.instanceMethod y ∈ lw_G) (h3 : Cond.initialized y.cls ∈ lw_G) (h4 : Cond.code y b m' none ∈ lw_G) (hy : y.name = "<init>") (h5 : (y.cls ≠ "java/lang/invoke/MethodHandle" ∧ y.cls ≠ "java/lang/invoke/VarHandle" ∧ (parseMethodDescriptor y.desc).map (fun d => d.parameters.length) = some 0)) (hR : (rmC d' mc ms).frames + 1 ≤ R.frames ∧ 8 + (m' + 11) + (rmC d' mc ms).locals ≤ R.locals) (q1 : (rest.map fun v => v.category).sum ≤ 7) (hk : k + 1 + mc ≤ R.cells) (hn : n + N + ms ≤ R.slots) (hd3 : decode cc (pc + 3 + 1) = .ok (.invokespecial idx2, 3)) (kk : ∀ (q : Nat) (u : Nat → Nat), NJ φ R Q (CI φ A (x :: (W ++ blk q u))) (k + 1 + mc) (n + N + ms) nL (pc + 3 + 1 + 3) L (.ref q :: rest)) : NJ φ R Q (CI φ A (x :: W)) k n nL pc L rest := NJ.new F ty hc hin hty hcl hinst hini hfs (by omega) (by omega) hd (fun q => NJ.dup F.1 hd2 rfl (NJ.ctor F hC hlink h2 h3 h4 hy h5 hR (by simp only [List.map_cons, List.sum_cons]; exact Nat.le_trans (Nat.add_le_add_left q1 _) (Nat.le_of_ble_eq_true rfl)) hk hn hd3 (fun u => NJ.world (List.cons_append) (kk q u))))
theorem NJ.getS {ci idx kf N a : Nat} {C : String} {T : u_T} {fs : List Value} {v : Value} (F : FK φ cc own nL A) (hc : vwCl[ci]? = some (C, T, N)) (hk : kf < N) (hin : ∀ w ∈ u_ws C T N, w ∈ lw_G) (hlink : Cond.fieldLink own idx (T kf).1 (T kf).2.1 (T kf).2.2.1 ∈ lw_G) (hv : fs[kf]? = some v) (hd : decode cc pc = .ok (.getfield idx, 3)) (kk : NJ φ R Q (CI φ A ((a, .inr (ci, fs)) :: W)) k n nL (pc + 3) L (v :: rest)) : NJ φ R Q (CI φ A ((a, .inr (ci, fs)) :: W)) k n nL pc L (.ref a :: rest) := NJ.get (q0 := 0) F rfl hc hk hin hlink hv hd kk
/-- an object made last put into an array that stands in the row -/
theorem NJ.astM {l1 l2 b : va_W} {t ci i N a v : Nat} {cA : ClassId} {r : vw_C} {vs : List Value} {l : List (Option Nat)} (F : FK φ cc own nL A) (ht : (tysOf (gl φ))[t]? = some (cA, .object r.1)) (hb : b[0]? = some (v, .inr (ci, vs))) (hc : vwCl[ci]? = some r) (hi : i < N) (hN : N < 2 ^ 31) (hl2 : i < l.length) (hd : decode cc pc = .ok (.aastore, 1)) (kk : NJ φ R Q (CI φ A (x :: (l1 ++ (a, .inl (cA, N, .inr (.inr (.inr (.inr (refL (l.set i (some v)))))))) :: (l2 ++ b)))) k n nL (pc + 1) L rest) : NJ φ R Q (CI φ A (x :: ((l1 ++ (a, .inl (cA, N, .inr (.inr (.inr (.inr (refL l)))))) :: l2) ++ b))) k n nL pc L (.ref v :: .int (nI i) :: .ref a :: rest) := by
  rw [show (l1 ++ (a, .inl (cA, N, .inr (.inr (.inr (.inr (refL l)))))) :: l2) ++ b = l1 ++ ((a, .inl (cA, N, .inr (.inr (.inr (.inr (refL l)))))) :: (l2 ++ b)) by simp]
  refine NJ.astq (vs := vs) (q0 := l1.length + 1) (qk := l1.length + (1 + l2.length) + 1) F ?_ ht ?_ hc hi hN hl2 ?_ hd kk
  · rw [List.getElem?_cons_succ, List.getElem?_append_right (Nat.le_refl _), Nat.sub_self]; rfl
  · rw [List.getElem?_cons_succ, List.getElem?_append_right (Nat.le_add_right _ _), show l1.length + (1 + l2.length) - l1.length = l2.length + 1 by omega, List.getElem?_cons_succ, List.getElem?_append_right (Nat.le_refl _), Nat.sub_self]; exact hb
  · rw [List.set_cons_succ, List.set_append_right _ _ (Nat.le_refl _), Nat.sub_self, List.set_cons_zero]
end NSROWS
theorem wd_24 : Cond.methodLink RX9 1 Lib.objectInit ∈ lw_G := mG 110 (by decide +kernel) rfl
theorem wd_27 : Cond.classLink RX9 7 RX1 ∈ lw_G := mG 113 (by decide +kernel) rfl
theorem wd_28 : Cond.instantiable RX1 5 ∈ lw_G := mG 114 (by decide +kernel) rfl
theorem wd_2 : Cond.initialized RX1 ∈ lw_G := mG 88 (by decide +kernel) rfl
theorem wd_29 : Cond.methodLink RX9 9 yX1_init ∈ lw_G := mG 115 (by decide +kernel) rfl
theorem wd_30 : Cond.instanceMethod yX1_init ∈ lw_G := mG 116 (by decide +kernel) rfl
theorem wd_31 : Cond.code yX1_init cX1_init 2 none ∈ lw_G := mG 117 (by decide +kernel) rfl
theorem wd_428 : Cond.fieldLink RX9 10 "SewnUp" "house" "LSewnUp$House;" ∈ lw_G := mG 514 (by decide +kernel) rfl
theorem wd_429 : Cond.fieldLink RX9 16 "SewnUp" "kept" "LSewnUp$House;" ∈ lw_G := mG 515 (by decide +kernel) rfl
theorem wd_430 : Cond.fieldLink RX9 19 "SewnUp" "isKept" "Z" ∈ lw_G := mG 516 (by decide +kernel) rfl
theorem wd_83 : Cond.classLink RX9 23 RX7 ∈ lw_G := mG 169 (by decide +kernel) rfl
theorem wd_431 : Cond.fieldLink RX9 25 "SewnUp" "texts" "[LSewnUp$Text;" ∈ lw_G := mG 517 (by decide +kernel) rfl
theorem wd_432 : Cond.fieldLink RX9 29 "SewnUp" "textCount" "I" ∈ lw_G := mG 518 (by decide +kernel) rfl
theorem wd_85 : Cond.classLink RX9 33 RX4 ∈ lw_G := mG 171 (by decide +kernel) rfl
theorem wd_86 : Cond.instantiable RX4 5 ∈ lw_G := mG 172 (by decide +kernel) rfl
theorem wd_4 : Cond.initialized RX4 ∈ lw_G := mG 90 (by decide +kernel) rfl
theorem wd_88 : Cond.instanceMethod yX4_init ∈ lw_G := mG 174 (by decide +kernel) rfl
theorem wd_89 : Cond.code yX4_init cX4_init 1 none ∈ lw_G := mG 175 (by decide +kernel) rfl
theorem wd_433 : Cond.fieldLink RX9 36 "SewnUp" "reader" "LSewnUp$Reader;" ∈ lw_G := mG 519 (by decide +kernel) rfl
theorem wd_140 : Cond.classLink RX9 40 RX5 ∈ lw_G := mG 226 (by decide +kernel) rfl
theorem wd_434 : Cond.fieldLink RX9 42 "SewnUp" "sheets" "[LSewnUp$Sheet;" ∈ lw_G := mG 520 (by decide +kernel) rfl
theorem wd_142 : Cond.classLink RX9 46 RX2 ∈ lw_G := mG 228 (by decide +kernel) rfl
theorem wd_143 : Cond.instantiable RX2 10 ∈ lw_G := mG 229 (by decide +kernel) rfl
theorem wd_6 : Cond.initialized RX2 ∈ lw_G := mG 92 (by decide +kernel) rfl
theorem wd_145 : Cond.instanceMethod yX2_init ∈ lw_G := mG 231 (by decide +kernel) rfl
theorem wd_146 : Cond.code yX2_init cX2_init 1 none ∈ lw_G := mG 232 (by decide +kernel) rfl
theorem wd_435 : Cond.fieldLink RX9 49 "SewnUp" "man" "LSewnUp$Man;" ∈ lw_G := mG 521 (by decide +kernel) rfl
theorem wd_188 : Cond.classLink RX9 53 RX8 ∈ lw_G := mG 274 (by decide +kernel) rfl
theorem wd_189 : Cond.instantiable RX8 4 ∈ lw_G := mG 275 (by decide +kernel) rfl
theorem wd_7 : Cond.initialized RX8 ∈ lw_G := mG 93 (by decide +kernel) rfl
theorem wd_191 : Cond.instanceMethod yX8_init ∈ lw_G := mG 277 (by decide +kernel) rfl
theorem wd_192 : Cond.code yX8_init cX8_init 1 none ∈ lw_G := mG 278 (by decide +kernel) rfl
theorem wd_436 : Cond.fieldLink RX9 56 "SewnUp" "ways" "LSewnUp$Ways;" ∈ lw_G := mG 522 (by decide +kernel) rfl
theorem wd_209 : Cond.classLink RX9 60 RX3 ∈ lw_G := mG 295 (by decide +kernel) rfl
theorem wd_210 : Cond.instantiable RX3 4 ∈ lw_G := mG 296 (by decide +kernel) rfl
theorem wd_8 : Cond.initialized RX3 ∈ lw_G := mG 94 (by decide +kernel) rfl
theorem wd_212 : Cond.instanceMethod yX3_init ∈ lw_G := mG 298 (by decide +kernel) rfl
theorem wd_213 : Cond.code yX3_init cX3_init 1 none ∈ lw_G := mG 299 (by decide +kernel) rfl
theorem wd_437 : Cond.fieldLink RX9 63 "SewnUp" "pockets" "LSewnUp$Pockets;" ∈ lw_G := mG 523 (by decide +kernel) rfl
theorem wd_232 : Cond.classLink RX9 67 "[[I" ∈ lw_G := mG 318 (by decide +kernel) rfl
theorem wd_438 : Cond.fieldLink RX9 69 "SewnUp" "tempers" "[[I" ∈ lw_G := mG 524 (by decide +kernel) rfl
theorem wd_439 : Cond.fieldLink RX9 72 "SewnUp" "fitting" "[I" ∈ lw_G := mG 525 (by decide +kernel) rfl
theorem wd_234 : Cond.instantiable RX7 3 ∈ lw_G := mG 320 (by decide +kernel) rfl
theorem wd_9 : Cond.initialized RX7 ∈ lw_G := mG 95 (by decide +kernel) rfl
theorem wd_236 : Cond.instanceMethod yX7_init ∈ lw_G := mG 322 (by decide +kernel) rfl
theorem wd_237 : Cond.code yX7_init cX7_init 1 none ∈ lw_G := mG 323 (by decide +kernel) rfl
theorem wd_251 : Cond.instantiable RX5 3 ∈ lw_G := mG 337 (by decide +kernel) rfl
theorem wd_10 : Cond.initialized RX5 ∈ lw_G := mG 96 (by decide +kernel) rfl
theorem wd_253 : Cond.instanceMethod yX5_init ∈ lw_G := mG 339 (by decide +kernel) rfl
theorem wd_254 : Cond.code yX5_init cX5_init 1 none ∈ lw_G := mG 340 (by decide +kernel) rfl
theorem wd_839 : Cond.methodLink RX10 7 Lib.objectInit ∈ lw_G := mG 925 (by decide +kernel) rfl
theorem wd_844 : Cond.fieldLink RX10 13 "SewnUpModel" "texts" "[I" ∈ lw_G := mG 930 (by decide +kernel) rfl
theorem wd_845 : Cond.fieldLink RX10 17 "SewnUpModel" "textSize" "[I" ∈ lw_G := mG 931 (by decide +kernel) rfl
theorem wd_848 : Cond.fieldLink RX10 20 "SewnUpModel" "tape" "[I" ∈ lw_G := mG 934 (by decide +kernel) rfl
theorem wd_851 : Cond.fieldLink RX10 23 "SewnUpModel" "limit" "I" ∈ lw_G := mG 937 (by decide +kernel) rfl
theorem wd_852 : Cond.fieldLink RX10 26 "SewnUpModel" "kinds" "[I" ∈ lw_G := mG 938 (by decide +kernel) rfl
theorem wd_853 : Cond.fieldLink RX10 29 "SewnUpModel" "rows" "[I" ∈ lw_G := mG 939 (by decide +kernel) rfl
theorem wd_854 : Cond.fieldLink RX10 32 "SewnUpModel" "wears" "[I" ∈ lw_G := mG 940 (by decide +kernel) rfl
theorem wd_874 : Cond.fieldLink RX10 35 "SewnUpModel" "table" "[I" ∈ lw_G := mG 960 (by decide +kernel) rfl
theorem wd_880 : Cond.fieldLink RX10 38 "SewnUpModel" "couldWear" "[I" ∈ lw_G := mG 966 (by decide +kernel) rfl
theorem wd_881 : Cond.fieldLink RX10 41 "SewnUpModel" "laid" "[I" ∈ lw_G := mG 967 (by decide +kernel) rfl
theorem wd_882 : Cond.fieldLink RX10 44 "SewnUpModel" "thingsWas" "[I" ∈ lw_G := mG 968 (by decide +kernel) rfl
theorem wd_883 : Cond.fieldLink RX10 47 "SewnUpModel" "rowsKept" "[I" ∈ lw_G := mG 969 (by decide +kernel) rfl
theorem wd_884 : Cond.fieldLink RX10 50 "SewnUpModel" "wearsKept" "[I" ∈ lw_G := mG 970 (by decide +kernel) rfl
theorem wd_885 : Cond.fieldLink RX10 53 "SewnUpModel" "manyKept" "I" ∈ lw_G := mG 971 (by decide +kernel) rfl
theorem wd_994 : Cond.arrayClass .boolean ∈ lw_G := mG 1080 (by decide +kernel) rfl
theorem wd_889 : Cond.fieldLink RX10 56 "SewnUpModel" "isThere" "[Z" ∈ lw_G := mG 975 (by decide +kernel) rfl
theorem wd_890 : Cond.fieldLink RX10 60 "SewnUpModel" "sorts" "[I" ∈ lw_G := mG 976 (by decide +kernel) rfl
theorem wd_891 : Cond.fieldLink RX10 63 "SewnUpModel" "sheetSize" "[I" ∈ lw_G := mG 977 (by decide +kernel) rfl
theorem wd_892 : Cond.fieldLink RX10 66 "SewnUpModel" "items" "[I" ∈ lw_G := mG 978 (by decide +kernel) rfl
abbrev fA0 (q : Nat → Nat) : List Value := ((((((((((((([.null, .null, .int 0, .null, .int 0, .null, .null, .null, .null, .null, .null, .null] : List Value).set 0 (.ref (q 0))).set 1 (.ref (q 1))).set 2 (.int 0)).set 3 (.ref (q 2))).set 4 (.int 0)).set 5 (.ref (q 3))).set 6 (.ref (q 4))).set 7 (.ref (q 5))).set 8 (.ref (q 6))).set 9 (.ref (q 7))).set 10 (.ref (q 8))).set 11 (.ref (q 9)))
abbrev wA0 (cy : Nat → ClassId) (a0 : Nat) (q : Nat → Nat) (u : Nat → Nat → Nat) : va_W := (a0, .inr (9, fA0 q)) :: ([] ++ bH cy (q 0) (u 0) ++ bH cy (q 1) (u 1) ++ [((q 2), .inl (cy 3, 6, .inr (.inr (.inr (.inr (refL [none, none, none, none, none, none]))))))] ++ bR cy (q 3) (u 3) ++ [((q 4), .inl (cy 4, 4, .inr (.inr (.inr (.inr (refL [none, none, none, none]))))))] ++ bM cy (q 5) (u 5) ++ bW cy (q 6) (u 6) ++ bP cy (q 7) (u 7) ++ bMM cy (q 8) ++ [((q 9), .inl (cy 0, 6, .inl (fun _ => 0)))])
set_option maxHeartbeats 8000000 in
set_option maxRecDepth 100000 in
theorem A_rows {φ : Fr} {a0 : Nat} {A : Nat → Prop} {Q : State → Prop} (F : FK φ cX9_init RX9 2 A) (hO : va_AA φ.1.2.2.2.1) (kk : ∀ (q : Nat → Nat) (u : Nat → Nat → Nat), NJ φ (rmC 106 73 2982) Q (CI φ A (wA0 (gl φ).2.2.1 a0 q u)) 41 848 2 117 [some (.ref a0), none] []) : NJ φ (rmC 106 73 2982) Q (CI φ A [(a0, .inr (9, [.null, .null, .int 0, .null, .int 0, .null, .null, .null, .null, .null, .null, .null]))]) 0 0 2 0 (padL [.ref a0] 2) [] := by
  refine NJ.aload_n (i := 0) (x := a0) F.1 dX9_init_0 rfl rfl ?_
  refine NJ.objInit F wd_24 wd_25 wd_26 dX9_init_1 (Nat.le_of_ble_eq_true rfl) (by decide) ?_
  refine NJ.aload_n (i := 0) (x := a0) F.1 dX9_init_4 rfl rfl ?_
  refine NJ.mkT (ci := 1) (N := 5) (fs := [.int 0, .int 0, .int 0, .int 0, .null]) F tyX1 rfl in_RX1 tyX1_ok wd_27 wd_28 wd_2 (by decide) dX9_init_5 dX9_init_8 (bH_cc _ _) wd_29 wd_30 wd_2 wd_31 rfl (by decide +kernel) (rmC_fit (by decide) (by decide)) (Nat.le_of_ble_eq_true rfl) (Nat.le_of_ble_eq_true rfl) (Nat.le_of_ble_eq_true rfl) dX9_init_9 (fun q0 u0 => ?_)
  refine NJ.putFS (ci := 9) (kf := 0) (N := 12) (C := RX9) (T := TX9) (ty := tyX9 0) F rfl (by decide) in_RX9 tyX9 tyX9_ok nmX9 wd_428 rfl rfl (tyX9_ok 0 (by decide)) (by exact rfl) (by exact rfl) (by first | exact Nat.le_of_ble_eq_true rfl | (simp only [List.length_set]; exact Nat.le_of_ble_eq_true rfl)) dX9_init_12 ?_
  refine NJ.aload_n (i := 0) (x := a0) F.1 dX9_init_15 rfl rfl ?_
  refine NJ.mkT (ci := 1) (N := 5) (fs := [.int 0, .int 0, .int 0, .int 0, .null]) F tyX1 rfl in_RX1 tyX1_ok wd_27 wd_28 wd_2 (by decide) dX9_init_16 dX9_init_19 (bH_cc _ _) wd_29 wd_30 wd_2 wd_31 rfl (by decide +kernel) (rmC_fit (by decide) (by decide)) (Nat.le_of_ble_eq_true rfl) (Nat.le_of_ble_eq_true rfl) (Nat.le_of_ble_eq_true rfl) dX9_init_20 (fun q1 u1 => ?_)
  refine NJ.putFS (ci := 9) (kf := 1) (N := 12) (C := RX9) (T := TX9) (ty := tyX9 1) F rfl (by decide) in_RX9 tyX9 tyX9_ok nmX9 wd_429 rfl rfl (tyX9_ok 1 (by decide)) (by exact rfl) (by exact rfl) (by first | exact Nat.le_of_ble_eq_true rfl | (simp only [List.length_set]; exact Nat.le_of_ble_eq_true rfl)) dX9_init_23 ?_
  refine NJ.aload_n (i := 0) (x := a0) F.1 dX9_init_26 rfl rfl ?_
  refine NJ.iconst (v := 0) F.1 dX9_init_27 rfl ?_
  refine NJ.putS (ci := 9) (kf := 2) (N := 12) (C := RX9) (T := TX9) (ty := tyX9 2) F rfl (by decide) in_RX9 tyX9 tyX9_ok nmX9 wd_430 rfl (tyX9_ok 2 (by decide)) (by exact rfl) (by exact rfl) (by first | exact Nat.le_of_ble_eq_true rfl | (simp only [List.length_set]; exact Nat.le_of_ble_eq_true rfl)) dX9_init_28 ?_
  refine NJ.aload_n (i := 0) (x := a0) F.1 dX9_init_31 rfl rfl ?_
  refine NJ.bipush (v := 6) F.1 dX9_init_32 (by decide) ?_
  refine NJ.newqS (t := 3) (N := 6) refL_no6 F wd_83 F.2.2.2.2.2.2.1 rfl (by decide) (by decide) (by decide) (Nat.le_of_ble_eq_true rfl) (Nat.le_of_ble_eq_true rfl) dX9_init_34 (fun q2 => ?_)
  refine NJ.putFS (ci := 9) (kf := 3) (N := 12) (C := RX9) (T := TX9) (ty := tyX9 3) F rfl (by decide) in_RX9 tyX9 tyX9_ok nmX9 wd_431 rfl rfl (tyX9_ok 3 (by decide)) (by exact rfl) (by exact rfl) (by first | exact Nat.le_of_ble_eq_true rfl | (simp only [List.length_set]; exact Nat.le_of_ble_eq_true rfl)) dX9_init_37 ?_
  refine NJ.aload_n (i := 0) (x := a0) F.1 dX9_init_40 rfl rfl ?_
  refine NJ.iconst (v := 0) F.1 dX9_init_41 rfl ?_
  refine NJ.putS (ci := 9) (kf := 4) (N := 12) (C := RX9) (T := TX9) (ty := tyX9 4) F rfl (by decide) in_RX9 tyX9 tyX9_ok nmX9 wd_432 rfl (tyX9_ok 4 (by decide)) (by exact rfl) (by exact rfl) (by first | exact Nat.le_of_ble_eq_true rfl | (simp only [List.length_set]; exact Nat.le_of_ble_eq_true rfl)) dX9_init_42 ?_
  refine NJ.aload_n (i := 0) (x := a0) F.1 dX9_init_45 rfl rfl ?_
  refine NJ.mkS (ci := 4) (N := 5) (fs := [.null, .null, .int 0, .int 0, .int 0]) F tyX4 rfl in_RX4 tyX4_ok wd_85 wd_86 wd_4 (by decide) dX9_init_46 dX9_init_49 (bR_cc _ _) (List.mem_of_getElem? (l := nestL) (i := 1) rfl) wd_88 wd_4 wd_89 rfl (by decide +kernel) (rmC_fit (by decide) (by decide)) (Nat.le_of_ble_eq_true rfl) (Nat.le_of_ble_eq_true rfl) (Nat.le_of_ble_eq_true rfl) dX9_init_50 (fun q3 u3 => ?_)
  refine NJ.putFS (ci := 9) (kf := 5) (N := 12) (C := RX9) (T := TX9) (ty := tyX9 5) F rfl (by decide) in_RX9 tyX9 tyX9_ok nmX9 wd_433 rfl rfl (tyX9_ok 5 (by decide)) (by exact rfl) (by exact rfl) (by first | exact Nat.le_of_ble_eq_true rfl | (simp only [List.length_set]; exact Nat.le_of_ble_eq_true rfl)) dX9_init_53 ?_
  refine NJ.aload_n (i := 0) (x := a0) F.1 dX9_init_56 rfl rfl ?_
  refine NJ.iconst (v := 4) F.1 dX9_init_57 rfl ?_
  refine NJ.newqS (t := 4) (N := 4) refL_no4 F wd_140 F.2.2.2.2.2.2.2 rfl (by decide) (by decide) (by decide) (Nat.le_of_ble_eq_true rfl) (Nat.le_of_ble_eq_true rfl) dX9_init_58 (fun q4 => ?_)
  refine NJ.putFS (ci := 9) (kf := 6) (N := 12) (C := RX9) (T := TX9) (ty := tyX9 6) F rfl (by decide) in_RX9 tyX9 tyX9_ok nmX9 wd_434 rfl rfl (tyX9_ok 6 (by decide)) (by exact rfl) (by exact rfl) (by first | exact Nat.le_of_ble_eq_true rfl | (simp only [List.length_set]; exact Nat.le_of_ble_eq_true rfl)) dX9_init_61 ?_
  refine NJ.aload_n (i := 0) (x := a0) F.1 dX9_init_64 rfl rfl ?_
  refine NJ.mkS (ci := 2) (N := 10) (fs := [.int 0, .int 0, .int 0, .int 0, .int 0, .int 0, .int 0, .int 0, .int 0, .null]) F tyX2 rfl in_RX2 tyX2_ok wd_142 wd_143 wd_6 (by decide) dX9_init_65 dX9_init_68 (bM_cc _ _) (List.mem_of_getElem? (l := nestL) (i := 3) rfl) wd_145 wd_6 wd_146 rfl (by decide +kernel) (rmC_fit (by decide) (by decide)) (Nat.le_of_ble_eq_true rfl) (Nat.le_of_ble_eq_true rfl) (Nat.le_of_ble_eq_true rfl) dX9_init_69 (fun q5 u5 => ?_)
  refine NJ.putFS (ci := 9) (kf := 7) (N := 12) (C := RX9) (T := TX9) (ty := tyX9 7) F rfl (by decide) in_RX9 tyX9 tyX9_ok nmX9 wd_435 rfl rfl (tyX9_ok 7 (by decide)) (by exact rfl) (by exact rfl) (by first | exact Nat.le_of_ble_eq_true rfl | (simp only [List.length_set]; exact Nat.le_of_ble_eq_true rfl)) dX9_init_72 ?_
  refine NJ.aload_n (i := 0) (x := a0) F.1 dX9_init_75 rfl rfl ?_
  refine NJ.mkS (ci := 8) (N := 4) (fs := [.int 0, .int 0, .null, .null]) F tyX8 rfl in_RX8 tyX8_ok wd_188 wd_189 wd_7 (by decide) dX9_init_76 dX9_init_79 (bW_cc _ _) (List.mem_of_getElem? (l := nestL) (i := 4) rfl) wd_191 wd_7 wd_192 rfl (by decide +kernel) (rmC_fit (by decide) (by decide)) (Nat.le_of_ble_eq_true rfl) (Nat.le_of_ble_eq_true rfl) (Nat.le_of_ble_eq_true rfl) dX9_init_80 (fun q6 u6 => ?_)
  refine NJ.putFS (ci := 9) (kf := 8) (N := 12) (C := RX9) (T := TX9) (ty := tyX9 8) F rfl (by decide) in_RX9 tyX9 tyX9_ok nmX9 wd_436 rfl rfl (tyX9_ok 8 (by decide)) (by exact rfl) (by exact rfl) (by first | exact Nat.le_of_ble_eq_true rfl | (simp only [List.length_set]; exact Nat.le_of_ble_eq_true rfl)) dX9_init_83 ?_
  refine NJ.aload_n (i := 0) (x := a0) F.1 dX9_init_86 rfl rfl ?_
  refine NJ.mkS (ci := 3) (N := 4) (fs := [.int 0, .null, .null, .null]) F tyX3 rfl in_RX3 tyX3_ok wd_209 wd_210 wd_8 (by decide) dX9_init_87 dX9_init_90 (bP_cc _ _) (List.mem_of_getElem? (l := nestL) (i := 5) rfl) wd_212 wd_8 wd_213 rfl (by decide +kernel) (rmC_fit (by decide) (by decide)) (Nat.le_of_ble_eq_true rfl) (Nat.le_of_ble_eq_true rfl) (Nat.le_of_ble_eq_true rfl) dX9_init_91 (fun q7 u7 => ?_)
  refine NJ.putFS (ci := 9) (kf := 9) (N := 12) (C := RX9) (T := TX9) (ty := tyX9 9) F rfl (by decide) in_RX9 tyX9 tyX9_ok nmX9 wd_437 rfl rfl (tyX9_ok 9 (by decide)) (by exact rfl) (by exact rfl) (by first | exact Nat.le_of_ble_eq_true rfl | (simp only [List.length_set]; exact Nat.le_of_ble_eq_true rfl)) dX9_init_94 ?_
  refine NJ.aload_n (i := 0) (x := a0) F.1 dX9_init_97 rfl rfl ?_
  refine NJ.bipush (v := 6) F.1 dX9_init_98 (by decide) ?_
  refine NJ.bipush (v := 6) F.1 dX9_init_100 (by decide) ?_
  refine NJ.mul2S F hO wd_232 wd_122 (Nat.le_of_ble_eq_true rfl) (Nat.le_of_ble_eq_true rfl) dX9_init_102 (fun q8 => ?_)
  refine NJ.putFS (ci := 9) (kf := 10) (N := 12) (C := RX9) (T := TX9) (ty := tyX9 10) F rfl (by decide) in_RX9 tyX9 tyX9_ok nmX9 wd_438 rfl rfl (tyX9_ok 10 (by decide)) (by exact rfl) (by exact rfl) (by first | exact Nat.le_of_ble_eq_true rfl | (simp only [List.length_set]; exact Nat.le_of_ble_eq_true rfl)) dX9_init_106 ?_
  refine NJ.aload_n (i := 0) (x := a0) F.1 dX9_init_109 rfl rfl ?_
  refine NJ.bipush (v := 6) F.1 dX9_init_110 (by decide) ?_
  refine NJ.newiS (N := 6) F wd_122 (by decide) (by decide) (by decide) (Nat.le_of_ble_eq_true rfl) (Nat.le_of_ble_eq_true rfl) dX9_init_112 (fun q9 => ?_)
  refine NJ.putFS (ci := 9) (kf := 11) (N := 12) (C := RX9) (T := TX9) (ty := tyX9 11) F rfl (by decide) in_RX9 tyX9 tyX9_ok nmX9 wd_439 rfl rfl (tyX9_ok 11 (by decide)) (by exact rfl) (by exact rfl) (by first | exact Nat.le_of_ble_eq_true rfl | (simp only [List.length_set]; exact Nat.le_of_ble_eq_true rfl)) dX9_init_114 ?_
  exact kk (fun i => [q0, q1, q2, q3, q4, q5, q6, q7, q8, q9].getD i 0) (fun i => [u0, u1, (fun _ => 0), u3, (fun _ => 0), u5, u6, u7, (fun _ => 0), (fun _ => 0)].getD i (fun _ => 0))
set_option maxHeartbeats 8000000 in
set_option maxRecDepth 100000 in
theorem A1_rows {φ : Fr} {a0 qt : Nat} {fs : List Value} {l1 l2 : va_W} {A : Nat → Prop} {Q : State → Prop} (F : FK φ cX9_init RX9 2 A) (hv : fs[3]? = some (.ref qt)) (kk : ∀ (q : Nat → Nat) (u : Nat → Nat → Nat), NJ φ (rmC 106 73 2982) Q (CI φ A ((a0, .inr (9, fs)) :: (l1 ++ (qt, .inl ((gl φ).2.2.1 3, 6, .inr (.inr (.inr (.inr (refL [some (q 0), some (q 1), some (q 2), some (q 3), some (q 4), some (q 5)])))))) :: (l2 ++ bT (gl φ).2.2.1 (q 0) (u 0) ++ bT (gl φ).2.2.1 (q 1) (u 1) ++ bT (gl φ).2.2.1 (q 2) (u 2) ++ bT (gl φ).2.2.1 (q 3) (u 3) ++ bT (gl φ).2.2.1 (q 4) (u 4) ++ bT (gl φ).2.2.1 (q 5) (u 5))))) 65 2810 2 144 [some (.ref a0), some (.int 6)] []) : NJ φ (rmC 106 73 2982) Q (CI φ A ((a0, .inr (9, fs)) :: (l1 ++ (qt, .inl ((gl φ).2.2.1 3, 6, .inr (.inr (.inr (.inr (refL [none, none, none, none, none, none])))))) :: l2))) 41 848 2 117 [some (.ref a0), none] [] := by
  refine NJ.iconst (v := 0) F.1 dX9_init_117 rfl ?_
  refine NJ.istore_n (i := 1) (y := 0) (L' := [some (.ref a0), some (.int 0)]) F.1 dX9_init_118 rfl (by decide) rfl rfl rfl ?_
  refine NJ.iload_n (i := 1) (x := 0) F.1 dX9_init_119 rfl rfl ?_
  refine NJ.bipush (v := 6) F.1 dX9_init_120 (by decide) ?_
  refine NJ.icmp_ge (tgt := 144) F.1 dX9_init_122 (by decide) (fun h => absurd h (by decide)) (fun _ => ?_)
  refine NJ.aload_n (i := 0) (x := a0) F.1 dX9_init_125 rfl rfl ?_
  refine NJ.getS (ci := 9) (kf := 3) (N := 12) (C := RX9) (T := TX9) (v := .ref qt) F rfl (by decide) in_RX9 wd_431 hv dX9_init_126 ?_
  refine NJ.iload_n (i := 1) (x := 0) F.1 dX9_init_129 rfl rfl ?_
  refine NJ.mkS (ci := 7) (N := 3) (fs := [.null, .null, .null]) F tyX7 rfl in_RX7 tyX7_ok wd_83 wd_234 wd_9 (by decide) dX9_init_130 dX9_init_133 (bT_cc _ _) (List.mem_of_getElem? (l := nestL) (i := 6) rfl) wd_236 wd_9 wd_237 rfl (by decide +kernel) (rmC_fit (by decide) (by decide)) (Nat.le_of_ble_eq_true rfl) (Nat.le_of_ble_eq_true rfl) (Nat.le_of_ble_eq_true rfl) dX9_init_134 (fun q0 u0 => ?_)
  refine NJ.astM (t := 3) (ci := 7) (i := 0) (N := 6) (r := (RX7, TX7, 3)) F rfl rfl rfl (by decide) (by decide) (Nat.le_of_ble_eq_true rfl) dX9_init_137 ?_
  refine NJ.iinc (i := 1) (z := 1) (v := 1) (L' := [some (.ref a0), some (.int 1)]) F.1 dX9_init_138 rfl (by decide) (by decide) (by decide) rfl rfl ?_
  refine NJ.goto (tgt := 119) F.1 dX9_init_141 (by decide) ?_
  refine NJ.iload_n (i := 1) (x := 1) F.1 dX9_init_119 rfl rfl ?_
  refine NJ.bipush (v := 6) F.1 dX9_init_120 (by decide) ?_
  refine NJ.icmp_ge (tgt := 144) F.1 dX9_init_122 (by decide) (fun h => absurd h (by decide)) (fun _ => ?_)
  refine NJ.aload_n (i := 0) (x := a0) F.1 dX9_init_125 rfl rfl ?_
  refine NJ.getS (ci := 9) (kf := 3) (N := 12) (C := RX9) (T := TX9) (v := .ref qt) F rfl (by decide) in_RX9 wd_431 hv dX9_init_126 ?_
  refine NJ.iload_n (i := 1) (x := 1) F.1 dX9_init_129 rfl rfl ?_
  refine NJ.mkS (ci := 7) (N := 3) (fs := [.null, .null, .null]) F tyX7 rfl in_RX7 tyX7_ok wd_83 wd_234 wd_9 (by decide) dX9_init_130 dX9_init_133 (bT_cc _ _) (List.mem_of_getElem? (l := nestL) (i := 6) rfl) wd_236 wd_9 wd_237 rfl (by decide +kernel) (rmC_fit (by decide) (by decide)) (Nat.le_of_ble_eq_true rfl) (Nat.le_of_ble_eq_true rfl) (Nat.le_of_ble_eq_true rfl) dX9_init_134 (fun q1 u1 => ?_)
  refine NJ.astM (t := 3) (ci := 7) (i := 1) (N := 6) (r := (RX7, TX7, 3)) F rfl rfl rfl (by decide) (by decide) (Nat.le_of_ble_eq_true rfl) dX9_init_137 ?_
  refine NJ.iinc (i := 1) (z := 1) (v := 2) (L' := [some (.ref a0), some (.int 2)]) F.1 dX9_init_138 rfl (by decide) (by decide) (by decide) rfl rfl ?_
  refine NJ.goto (tgt := 119) F.1 dX9_init_141 (by decide) ?_
  refine NJ.iload_n (i := 1) (x := 2) F.1 dX9_init_119 rfl rfl ?_
  refine NJ.bipush (v := 6) F.1 dX9_init_120 (by decide) ?_
  refine NJ.icmp_ge (tgt := 144) F.1 dX9_init_122 (by decide) (fun h => absurd h (by decide)) (fun _ => ?_)
  refine NJ.aload_n (i := 0) (x := a0) F.1 dX9_init_125 rfl rfl ?_
  refine NJ.getS (ci := 9) (kf := 3) (N := 12) (C := RX9) (T := TX9) (v := .ref qt) F rfl (by decide) in_RX9 wd_431 hv dX9_init_126 ?_
  refine NJ.iload_n (i := 1) (x := 2) F.1 dX9_init_129 rfl rfl ?_
  refine NJ.mkS (ci := 7) (N := 3) (fs := [.null, .null, .null]) F tyX7 rfl in_RX7 tyX7_ok wd_83 wd_234 wd_9 (by decide) dX9_init_130 dX9_init_133 (bT_cc _ _) (List.mem_of_getElem? (l := nestL) (i := 6) rfl) wd_236 wd_9 wd_237 rfl (by decide +kernel) (rmC_fit (by decide) (by decide)) (Nat.le_of_ble_eq_true rfl) (Nat.le_of_ble_eq_true rfl) (Nat.le_of_ble_eq_true rfl) dX9_init_134 (fun q2 u2 => ?_)
  refine NJ.astM (t := 3) (ci := 7) (i := 2) (N := 6) (r := (RX7, TX7, 3)) F rfl rfl rfl (by decide) (by decide) (Nat.le_of_ble_eq_true rfl) dX9_init_137 ?_
  refine NJ.iinc (i := 1) (z := 1) (v := 3) (L' := [some (.ref a0), some (.int 3)]) F.1 dX9_init_138 rfl (by decide) (by decide) (by decide) rfl rfl ?_
  refine NJ.goto (tgt := 119) F.1 dX9_init_141 (by decide) ?_
  refine NJ.iload_n (i := 1) (x := 3) F.1 dX9_init_119 rfl rfl ?_
  refine NJ.bipush (v := 6) F.1 dX9_init_120 (by decide) ?_
  refine NJ.icmp_ge (tgt := 144) F.1 dX9_init_122 (by decide) (fun h => absurd h (by decide)) (fun _ => ?_)
  refine NJ.aload_n (i := 0) (x := a0) F.1 dX9_init_125 rfl rfl ?_
  refine NJ.getS (ci := 9) (kf := 3) (N := 12) (C := RX9) (T := TX9) (v := .ref qt) F rfl (by decide) in_RX9 wd_431 hv dX9_init_126 ?_
  refine NJ.iload_n (i := 1) (x := 3) F.1 dX9_init_129 rfl rfl ?_
  refine NJ.mkS (ci := 7) (N := 3) (fs := [.null, .null, .null]) F tyX7 rfl in_RX7 tyX7_ok wd_83 wd_234 wd_9 (by decide) dX9_init_130 dX9_init_133 (bT_cc _ _) (List.mem_of_getElem? (l := nestL) (i := 6) rfl) wd_236 wd_9 wd_237 rfl (by decide +kernel) (rmC_fit (by decide) (by decide)) (Nat.le_of_ble_eq_true rfl) (Nat.le_of_ble_eq_true rfl) (Nat.le_of_ble_eq_true rfl) dX9_init_134 (fun q3 u3 => ?_)
  refine NJ.astM (t := 3) (ci := 7) (i := 3) (N := 6) (r := (RX7, TX7, 3)) F rfl rfl rfl (by decide) (by decide) (Nat.le_of_ble_eq_true rfl) dX9_init_137 ?_
  refine NJ.iinc (i := 1) (z := 1) (v := 4) (L' := [some (.ref a0), some (.int 4)]) F.1 dX9_init_138 rfl (by decide) (by decide) (by decide) rfl rfl ?_
  refine NJ.goto (tgt := 119) F.1 dX9_init_141 (by decide) ?_
  refine NJ.iload_n (i := 1) (x := 4) F.1 dX9_init_119 rfl rfl ?_
  refine NJ.bipush (v := 6) F.1 dX9_init_120 (by decide) ?_
  refine NJ.icmp_ge (tgt := 144) F.1 dX9_init_122 (by decide) (fun h => absurd h (by decide)) (fun _ => ?_)
  refine NJ.aload_n (i := 0) (x := a0) F.1 dX9_init_125 rfl rfl ?_
  refine NJ.getS (ci := 9) (kf := 3) (N := 12) (C := RX9) (T := TX9) (v := .ref qt) F rfl (by decide) in_RX9 wd_431 hv dX9_init_126 ?_
  refine NJ.iload_n (i := 1) (x := 4) F.1 dX9_init_129 rfl rfl ?_
  refine NJ.mkS (ci := 7) (N := 3) (fs := [.null, .null, .null]) F tyX7 rfl in_RX7 tyX7_ok wd_83 wd_234 wd_9 (by decide) dX9_init_130 dX9_init_133 (bT_cc _ _) (List.mem_of_getElem? (l := nestL) (i := 6) rfl) wd_236 wd_9 wd_237 rfl (by decide +kernel) (rmC_fit (by decide) (by decide)) (Nat.le_of_ble_eq_true rfl) (Nat.le_of_ble_eq_true rfl) (Nat.le_of_ble_eq_true rfl) dX9_init_134 (fun q4 u4 => ?_)
  refine NJ.astM (t := 3) (ci := 7) (i := 4) (N := 6) (r := (RX7, TX7, 3)) F rfl rfl rfl (by decide) (by decide) (Nat.le_of_ble_eq_true rfl) dX9_init_137 ?_
  refine NJ.iinc (i := 1) (z := 1) (v := 5) (L' := [some (.ref a0), some (.int 5)]) F.1 dX9_init_138 rfl (by decide) (by decide) (by decide) rfl rfl ?_
  refine NJ.goto (tgt := 119) F.1 dX9_init_141 (by decide) ?_
  refine NJ.iload_n (i := 1) (x := 5) F.1 dX9_init_119 rfl rfl ?_
  refine NJ.bipush (v := 6) F.1 dX9_init_120 (by decide) ?_
  refine NJ.icmp_ge (tgt := 144) F.1 dX9_init_122 (by decide) (fun h => absurd h (by decide)) (fun _ => ?_)
  refine NJ.aload_n (i := 0) (x := a0) F.1 dX9_init_125 rfl rfl ?_
  refine NJ.getS (ci := 9) (kf := 3) (N := 12) (C := RX9) (T := TX9) (v := .ref qt) F rfl (by decide) in_RX9 wd_431 hv dX9_init_126 ?_
  refine NJ.iload_n (i := 1) (x := 5) F.1 dX9_init_129 rfl rfl ?_
  refine NJ.mkS (ci := 7) (N := 3) (fs := [.null, .null, .null]) F tyX7 rfl in_RX7 tyX7_ok wd_83 wd_234 wd_9 (by decide) dX9_init_130 dX9_init_133 (bT_cc _ _) (List.mem_of_getElem? (l := nestL) (i := 6) rfl) wd_236 wd_9 wd_237 rfl (by decide +kernel) (rmC_fit (by decide) (by decide)) (Nat.le_of_ble_eq_true rfl) (Nat.le_of_ble_eq_true rfl) (Nat.le_of_ble_eq_true rfl) dX9_init_134 (fun q5 u5 => ?_)
  refine NJ.astM (t := 3) (ci := 7) (i := 5) (N := 6) (r := (RX7, TX7, 3)) F rfl rfl rfl (by decide) (by decide) (Nat.le_of_ble_eq_true rfl) dX9_init_137 ?_
  refine NJ.iinc (i := 1) (z := 1) (v := 6) (L' := [some (.ref a0), some (.int 6)]) F.1 dX9_init_138 rfl (by decide) (by decide) (by decide) rfl rfl ?_
  refine NJ.goto (tgt := 119) F.1 dX9_init_141 (by decide) ?_
  refine NJ.iload_n (i := 1) (x := 6) F.1 dX9_init_119 rfl rfl ?_
  refine NJ.bipush (v := 6) F.1 dX9_init_120 (by decide) ?_
  refine NJ.icmp_ge (tgt := 144) F.1 dX9_init_122 (by decide) (fun _ => ?_) (fun h => absurd (by decide) h)
  exact kk (fun i => [q0, q1, q2, q3, q4, q5].getD i 0) (fun i => [u0, u1, u2, u3, u4, u5].getD i (fun _ => 0))
set_option maxHeartbeats 8000000 in
set_option maxRecDepth 100000 in
theorem A2_rows {φ : Fr} {a0 qt : Nat} {fs : List Value} {l1 l2 : va_W} {A : Nat → Prop} {Q : State → Prop} (F : FK φ cX9_init RX9 2 A) (hv : fs[6]? = some (.ref qt)) (kk : ∀ (q : Nat → Nat) (u : Nat → Nat → Nat), NJ φ (rmC 106 73 2982) Q (CI φ A ((a0, .inr (9, fs)) :: (l1 ++ (qt, .inl ((gl φ).2.2.1 4, 4, .inr (.inr (.inr (.inr (refL [some (q 0), some (q 1), some (q 2), some (q 3)])))))) :: (l2 ++ bS (gl φ).2.2.1 (q 0) (u 0) ++ bS (gl φ).2.2.1 (q 1) (u 1) ++ bS (gl φ).2.2.1 (q 2) (u 2) ++ bS (gl φ).2.2.1 (q 3) (u 3))))) 73 2982 2 170 [some (.ref a0), some (.int 4)] []) : NJ φ (rmC 106 73 2982) Q (CI φ A ((a0, .inr (9, fs)) :: (l1 ++ (qt, .inl ((gl φ).2.2.1 4, 4, .inr (.inr (.inr (.inr (refL [none, none, none, none])))))) :: l2))) 65 2810 2 144 [some (.ref a0), some (.int 6)] [] := by
  refine NJ.iconst (v := 0) F.1 dX9_init_144 rfl ?_
  refine NJ.istore_n (i := 1) (y := 0) (L' := [some (.ref a0), some (.int 0)]) F.1 dX9_init_145 rfl (by decide) rfl rfl rfl ?_
  refine NJ.iload_n (i := 1) (x := 0) F.1 dX9_init_146 rfl rfl ?_
  refine NJ.iconst (v := 4) F.1 dX9_init_147 rfl ?_
  refine NJ.icmp_ge (tgt := 170) F.1 dX9_init_148 (by decide) (fun h => absurd h (by decide)) (fun _ => ?_)
  refine NJ.aload_n (i := 0) (x := a0) F.1 dX9_init_151 rfl rfl ?_
  refine NJ.getS (ci := 9) (kf := 6) (N := 12) (C := RX9) (T := TX9) (v := .ref qt) F rfl (by decide) in_RX9 wd_434 hv dX9_init_152 ?_
  refine NJ.iload_n (i := 1) (x := 0) F.1 dX9_init_155 rfl rfl ?_
  refine NJ.mkS (ci := 5) (N := 3) (fs := [.int 0, .int 0, .null]) F tyX5 rfl in_RX5 tyX5_ok wd_140 wd_251 wd_10 (by decide) dX9_init_156 dX9_init_159 (bS_cc _ _) (List.mem_of_getElem? (l := nestL) (i := 7) rfl) wd_253 wd_10 wd_254 rfl (by decide +kernel) (rmC_fit (by decide) (by decide)) (Nat.le_of_ble_eq_true rfl) (Nat.le_of_ble_eq_true rfl) (Nat.le_of_ble_eq_true rfl) dX9_init_160 (fun q0 u0 => ?_)
  refine NJ.astM (t := 4) (ci := 5) (i := 0) (N := 4) (r := (RX5, TX5, 3)) F rfl rfl rfl (by decide) (by decide) (Nat.le_of_ble_eq_true rfl) dX9_init_163 ?_
  refine NJ.iinc (i := 1) (z := 1) (v := 1) (L' := [some (.ref a0), some (.int 1)]) F.1 dX9_init_164 rfl (by decide) (by decide) (by decide) rfl rfl ?_
  refine NJ.goto (tgt := 146) F.1 dX9_init_167 (by decide) ?_
  refine NJ.iload_n (i := 1) (x := 1) F.1 dX9_init_146 rfl rfl ?_
  refine NJ.iconst (v := 4) F.1 dX9_init_147 rfl ?_
  refine NJ.icmp_ge (tgt := 170) F.1 dX9_init_148 (by decide) (fun h => absurd h (by decide)) (fun _ => ?_)
  refine NJ.aload_n (i := 0) (x := a0) F.1 dX9_init_151 rfl rfl ?_
  refine NJ.getS (ci := 9) (kf := 6) (N := 12) (C := RX9) (T := TX9) (v := .ref qt) F rfl (by decide) in_RX9 wd_434 hv dX9_init_152 ?_
  refine NJ.iload_n (i := 1) (x := 1) F.1 dX9_init_155 rfl rfl ?_
  refine NJ.mkS (ci := 5) (N := 3) (fs := [.int 0, .int 0, .null]) F tyX5 rfl in_RX5 tyX5_ok wd_140 wd_251 wd_10 (by decide) dX9_init_156 dX9_init_159 (bS_cc _ _) (List.mem_of_getElem? (l := nestL) (i := 7) rfl) wd_253 wd_10 wd_254 rfl (by decide +kernel) (rmC_fit (by decide) (by decide)) (Nat.le_of_ble_eq_true rfl) (Nat.le_of_ble_eq_true rfl) (Nat.le_of_ble_eq_true rfl) dX9_init_160 (fun q1 u1 => ?_)
  refine NJ.astM (t := 4) (ci := 5) (i := 1) (N := 4) (r := (RX5, TX5, 3)) F rfl rfl rfl (by decide) (by decide) (Nat.le_of_ble_eq_true rfl) dX9_init_163 ?_
  refine NJ.iinc (i := 1) (z := 1) (v := 2) (L' := [some (.ref a0), some (.int 2)]) F.1 dX9_init_164 rfl (by decide) (by decide) (by decide) rfl rfl ?_
  refine NJ.goto (tgt := 146) F.1 dX9_init_167 (by decide) ?_
  refine NJ.iload_n (i := 1) (x := 2) F.1 dX9_init_146 rfl rfl ?_
  refine NJ.iconst (v := 4) F.1 dX9_init_147 rfl ?_
  refine NJ.icmp_ge (tgt := 170) F.1 dX9_init_148 (by decide) (fun h => absurd h (by decide)) (fun _ => ?_)
  refine NJ.aload_n (i := 0) (x := a0) F.1 dX9_init_151 rfl rfl ?_
  refine NJ.getS (ci := 9) (kf := 6) (N := 12) (C := RX9) (T := TX9) (v := .ref qt) F rfl (by decide) in_RX9 wd_434 hv dX9_init_152 ?_
  refine NJ.iload_n (i := 1) (x := 2) F.1 dX9_init_155 rfl rfl ?_
  refine NJ.mkS (ci := 5) (N := 3) (fs := [.int 0, .int 0, .null]) F tyX5 rfl in_RX5 tyX5_ok wd_140 wd_251 wd_10 (by decide) dX9_init_156 dX9_init_159 (bS_cc _ _) (List.mem_of_getElem? (l := nestL) (i := 7) rfl) wd_253 wd_10 wd_254 rfl (by decide +kernel) (rmC_fit (by decide) (by decide)) (Nat.le_of_ble_eq_true rfl) (Nat.le_of_ble_eq_true rfl) (Nat.le_of_ble_eq_true rfl) dX9_init_160 (fun q2 u2 => ?_)
  refine NJ.astM (t := 4) (ci := 5) (i := 2) (N := 4) (r := (RX5, TX5, 3)) F rfl rfl rfl (by decide) (by decide) (Nat.le_of_ble_eq_true rfl) dX9_init_163 ?_
  refine NJ.iinc (i := 1) (z := 1) (v := 3) (L' := [some (.ref a0), some (.int 3)]) F.1 dX9_init_164 rfl (by decide) (by decide) (by decide) rfl rfl ?_
  refine NJ.goto (tgt := 146) F.1 dX9_init_167 (by decide) ?_
  refine NJ.iload_n (i := 1) (x := 3) F.1 dX9_init_146 rfl rfl ?_
  refine NJ.iconst (v := 4) F.1 dX9_init_147 rfl ?_
  refine NJ.icmp_ge (tgt := 170) F.1 dX9_init_148 (by decide) (fun h => absurd h (by decide)) (fun _ => ?_)
  refine NJ.aload_n (i := 0) (x := a0) F.1 dX9_init_151 rfl rfl ?_
  refine NJ.getS (ci := 9) (kf := 6) (N := 12) (C := RX9) (T := TX9) (v := .ref qt) F rfl (by decide) in_RX9 wd_434 hv dX9_init_152 ?_
  refine NJ.iload_n (i := 1) (x := 3) F.1 dX9_init_155 rfl rfl ?_
  refine NJ.mkS (ci := 5) (N := 3) (fs := [.int 0, .int 0, .null]) F tyX5 rfl in_RX5 tyX5_ok wd_140 wd_251 wd_10 (by decide) dX9_init_156 dX9_init_159 (bS_cc _ _) (List.mem_of_getElem? (l := nestL) (i := 7) rfl) wd_253 wd_10 wd_254 rfl (by decide +kernel) (rmC_fit (by decide) (by decide)) (Nat.le_of_ble_eq_true rfl) (Nat.le_of_ble_eq_true rfl) (Nat.le_of_ble_eq_true rfl) dX9_init_160 (fun q3 u3 => ?_)
  refine NJ.astM (t := 4) (ci := 5) (i := 3) (N := 4) (r := (RX5, TX5, 3)) F rfl rfl rfl (by decide) (by decide) (Nat.le_of_ble_eq_true rfl) dX9_init_163 ?_
  refine NJ.iinc (i := 1) (z := 1) (v := 4) (L' := [some (.ref a0), some (.int 4)]) F.1 dX9_init_164 rfl (by decide) (by decide) (by decide) rfl rfl ?_
  refine NJ.goto (tgt := 146) F.1 dX9_init_167 (by decide) ?_
  refine NJ.iload_n (i := 1) (x := 4) F.1 dX9_init_146 rfl rfl ?_
  refine NJ.iconst (v := 4) F.1 dX9_init_147 rfl ?_
  refine NJ.icmp_ge (tgt := 170) F.1 dX9_init_148 (by decide) (fun _ => ?_) (fun h => absurd (by decide) h)
  exact kk (fun i => [q0, q1, q2, q3].getD i 0) (fun i => [u0, u1, u2, u3].getD i (fun _ => 0))
abbrev fB0 (q : Nat → Nat) : List Value := ((((((((((((((((((([.int 0, .null, .null, .int 0, .int 0, .null, .int 0, .int 0, .int 0, .null, .null, .null, .int 0, .int 0, .int 0, .int 0, .int 0, .int 0, .int 0, .int 0, .int 0, .int 0, .int 0, .int 0, .long 0, .int 0, .int 0, .int 0, .int 0, .int 0, .int 0, .null, .int 0, .int 0, .int 0, .int 0, .int 0, .null, .null, .null, .null, .null, .int 0, .int 0, .int 0, .int 0, .null, .null, .null, .null] : List Value).set 1 (.ref (q 0))).set 2 (.ref (q 1))).set 5 (.ref (q 2))).set 8 (.int 60)).set 9 (.ref (q 3))).set 10 (.ref (q 4))).set 11 (.ref (q 5))).set 31 (.ref (q 6))).set 37 (.ref (q 7))).set 38 (.ref (q 8))).set 39 (.ref (q 9))).set 40 (.ref (q 10))).set 41 (.ref (q 11))).set 42 (.int (-1))).set 46 (.ref (q 12))).set 47 (.ref (q 13))).set 48 (.ref (q 14))).set 49 (.ref (q 15)))
abbrev wB0 (cy : Nat → ClassId) (a0 : Nat) (q : Nat → Nat) (u : Nat → Nat → Nat) : va_W := (a0, .inr (10, fB0 q)) :: ([] ++ [((q 0), .inl (cy 0, 960, .inl (fun _ => 0)))] ++ [((q 1), .inl (cy 0, 6, .inl (fun _ => 0)))] ++ [((q 2), .inl (cy 0, 160, .inl (fun _ => 0)))] ++ [((q 3), .inl (cy 0, 6, .inl (fun _ => 0)))] ++ [((q 4), .inl (cy 0, 18, .inl (fun _ => 0)))] ++ [((q 5), .inl (cy 0, 6, .inl (fun _ => 0)))] ++ [((q 6), .inl (cy 0, 36, .inl (fun _ => 0)))] ++ [((q 7), .inl (cy 0, 6, .inl (fun _ => 0)))] ++ [((q 8), .inl (cy 0, 6, .inl (fun _ => 0)))] ++ [((q 9), .inl (cy 0, 6, .inl (fun _ => 0)))] ++ [((q 10), .inl (cy 0, 18, .inl (fun _ => 0)))] ++ [((q 11), .inl (cy 0, 6, .inl (fun _ => 0)))] ++ [((q 12), .inl (cy 1, 4, .inl (fun _ => 0)))] ++ [((q 13), .inl (cy 0, 4, .inl (fun _ => 0)))] ++ [((q 14), .inl (cy 0, 4, .inl (fun _ => 0)))] ++ [((q 15), .inl (cy 0, 160, .inl (fun _ => 0)))])
set_option maxHeartbeats 8000000 in
set_option maxRecDepth 100000 in
theorem B_rows {φ : Fr} {a0 : Nat} {A : Nat → Prop} {Q : State → Prop} (F : FK φ cX10_init RX10 1 A) (kk : ∀ (q : Nat → Nat) (u : Nat → Nat → Nat), NJ φ (rmC 2 16 1406) Q (CI φ A (wB0 (gl φ).2.2.1 a0 q u)) 16 1406 1 143 [some (.ref a0)] []) : NJ φ (rmC 2 16 1406) Q (CI φ A [(a0, .inr (10, [.int 0, .null, .null, .int 0, .int 0, .null, .int 0, .int 0, .int 0, .null, .null, .null, .int 0, .int 0, .int 0, .int 0, .int 0, .int 0, .int 0, .int 0, .int 0, .int 0, .int 0, .int 0, .long 0, .int 0, .int 0, .int 0, .int 0, .int 0, .int 0, .null, .int 0, .int 0, .int 0, .int 0, .int 0, .null, .null, .null, .null, .null, .int 0, .int 0, .int 0, .int 0, .null, .null, .null, .null]))]) 0 0 1 0 (padL [.ref a0] 1) [] := by
  refine NJ.aload_n (i := 0) (x := a0) F.1 dX10_init_0 rfl rfl ?_
  refine NJ.objInit F wd_839 wd_25 wd_26 dX10_init_1 (Nat.le_of_ble_eq_true rfl) (by decide) ?_
  refine NJ.aload_n (i := 0) (x := a0) F.1 dX10_init_4 rfl rfl ?_
  refine NJ.sipush (v := 960) F.1 dX10_init_5 (by decide) ?_
  refine NJ.newiS (N := 960) F wd_122 (by decide) (by decide) (by decide) (Nat.le_of_ble_eq_true rfl) (Nat.le_of_ble_eq_true rfl) dX10_init_8 (fun q0 => ?_)
  refine NJ.putFS (ci := 10) (kf := 1) (N := 50) (C := RX10) (T := TX10) (ty := tyX10 1) F rfl (by decide) in_RX10 tyX10 tyX10_ok nmX10 wd_844 rfl rfl (tyX10_ok 1 (by decide)) (by exact rfl) (by exact rfl) (by first | exact Nat.le_of_ble_eq_true rfl | (simp only [List.length_set]; exact Nat.le_of_ble_eq_true rfl)) dX10_init_10 ?_
  refine NJ.aload_n (i := 0) (x := a0) F.1 dX10_init_13 rfl rfl ?_
  refine NJ.bipush (v := 6) F.1 dX10_init_14 (by decide) ?_
  refine NJ.newiS (N := 6) F wd_122 (by decide) (by decide) (by decide) (Nat.le_of_ble_eq_true rfl) (Nat.le_of_ble_eq_true rfl) dX10_init_16 (fun q1 => ?_)
  refine NJ.putFS (ci := 10) (kf := 2) (N := 50) (C := RX10) (T := TX10) (ty := tyX10 2) F rfl (by decide) in_RX10 tyX10 tyX10_ok nmX10 wd_845 rfl rfl (tyX10_ok 2 (by decide)) (by exact rfl) (by exact rfl) (by first | exact Nat.le_of_ble_eq_true rfl | (simp only [List.length_set]; exact Nat.le_of_ble_eq_true rfl)) dX10_init_18 ?_
  refine NJ.aload_n (i := 0) (x := a0) F.1 dX10_init_21 rfl rfl ?_
  refine NJ.sipush (v := 160) F.1 dX10_init_22 (by decide) ?_
  refine NJ.newiS (N := 160) F wd_122 (by decide) (by decide) (by decide) (Nat.le_of_ble_eq_true rfl) (Nat.le_of_ble_eq_true rfl) dX10_init_25 (fun q2 => ?_)
  refine NJ.putFS (ci := 10) (kf := 5) (N := 50) (C := RX10) (T := TX10) (ty := tyX10 5) F rfl (by decide) in_RX10 tyX10 tyX10_ok nmX10 wd_848 rfl rfl (tyX10_ok 5 (by decide)) (by exact rfl) (by exact rfl) (by first | exact Nat.le_of_ble_eq_true rfl | (simp only [List.length_set]; exact Nat.le_of_ble_eq_true rfl)) dX10_init_27 ?_
  refine NJ.aload_n (i := 0) (x := a0) F.1 dX10_init_30 rfl rfl ?_
  refine NJ.bipush (v := 60) F.1 dX10_init_31 (by decide) ?_
  refine NJ.putS (ci := 10) (kf := 8) (N := 50) (C := RX10) (T := TX10) (ty := tyX10 8) F rfl (by decide) in_RX10 tyX10 tyX10_ok nmX10 wd_851 rfl (tyX10_ok 8 (by decide)) (by exact rfl) (by exact rfl) (by first | exact Nat.le_of_ble_eq_true rfl | (simp only [List.length_set]; exact Nat.le_of_ble_eq_true rfl)) dX10_init_33 ?_
  refine NJ.aload_n (i := 0) (x := a0) F.1 dX10_init_36 rfl rfl ?_
  refine NJ.bipush (v := 6) F.1 dX10_init_37 (by decide) ?_
  refine NJ.newiS (N := 6) F wd_122 (by decide) (by decide) (by decide) (Nat.le_of_ble_eq_true rfl) (Nat.le_of_ble_eq_true rfl) dX10_init_39 (fun q3 => ?_)
  refine NJ.putFS (ci := 10) (kf := 9) (N := 50) (C := RX10) (T := TX10) (ty := tyX10 9) F rfl (by decide) in_RX10 tyX10 tyX10_ok nmX10 wd_852 rfl rfl (tyX10_ok 9 (by decide)) (by exact rfl) (by exact rfl) (by first | exact Nat.le_of_ble_eq_true rfl | (simp only [List.length_set]; exact Nat.le_of_ble_eq_true rfl)) dX10_init_41 ?_
  refine NJ.aload_n (i := 0) (x := a0) F.1 dX10_init_44 rfl rfl ?_
  refine NJ.bipush (v := 18) F.1 dX10_init_45 (by decide) ?_
  refine NJ.newiS (N := 18) F wd_122 (by decide) (by decide) (by decide) (Nat.le_of_ble_eq_true rfl) (Nat.le_of_ble_eq_true rfl) dX10_init_47 (fun q4 => ?_)
  refine NJ.putFS (ci := 10) (kf := 10) (N := 50) (C := RX10) (T := TX10) (ty := tyX10 10) F rfl (by decide) in_RX10 tyX10 tyX10_ok nmX10 wd_853 rfl rfl (tyX10_ok 10 (by decide)) (by exact rfl) (by exact rfl) (by first | exact Nat.le_of_ble_eq_true rfl | (simp only [List.length_set]; exact Nat.le_of_ble_eq_true rfl)) dX10_init_49 ?_
  refine NJ.aload_n (i := 0) (x := a0) F.1 dX10_init_52 rfl rfl ?_
  refine NJ.bipush (v := 6) F.1 dX10_init_53 (by decide) ?_
  refine NJ.newiS (N := 6) F wd_122 (by decide) (by decide) (by decide) (Nat.le_of_ble_eq_true rfl) (Nat.le_of_ble_eq_true rfl) dX10_init_55 (fun q5 => ?_)
  refine NJ.putFS (ci := 10) (kf := 11) (N := 50) (C := RX10) (T := TX10) (ty := tyX10 11) F rfl (by decide) in_RX10 tyX10 tyX10_ok nmX10 wd_854 rfl rfl (tyX10_ok 11 (by decide)) (by exact rfl) (by exact rfl) (by first | exact Nat.le_of_ble_eq_true rfl | (simp only [List.length_set]; exact Nat.le_of_ble_eq_true rfl)) dX10_init_57 ?_
  refine NJ.aload_n (i := 0) (x := a0) F.1 dX10_init_60 rfl rfl ?_
  refine NJ.bipush (v := 36) F.1 dX10_init_61 (by decide) ?_
  refine NJ.newiS (N := 36) F wd_122 (by decide) (by decide) (by decide) (Nat.le_of_ble_eq_true rfl) (Nat.le_of_ble_eq_true rfl) dX10_init_63 (fun q6 => ?_)
  refine NJ.putFS (ci := 10) (kf := 31) (N := 50) (C := RX10) (T := TX10) (ty := tyX10 31) F rfl (by decide) in_RX10 tyX10 tyX10_ok nmX10 wd_874 rfl rfl (tyX10_ok 31 (by decide)) (by exact rfl) (by exact rfl) (by first | exact Nat.le_of_ble_eq_true rfl | (simp only [List.length_set]; exact Nat.le_of_ble_eq_true rfl)) dX10_init_65 ?_
  refine NJ.aload_n (i := 0) (x := a0) F.1 dX10_init_68 rfl rfl ?_
  refine NJ.bipush (v := 6) F.1 dX10_init_69 (by decide) ?_
  refine NJ.newiS (N := 6) F wd_122 (by decide) (by decide) (by decide) (Nat.le_of_ble_eq_true rfl) (Nat.le_of_ble_eq_true rfl) dX10_init_71 (fun q7 => ?_)
  refine NJ.putFS (ci := 10) (kf := 37) (N := 50) (C := RX10) (T := TX10) (ty := tyX10 37) F rfl (by decide) in_RX10 tyX10 tyX10_ok nmX10 wd_880 rfl rfl (tyX10_ok 37 (by decide)) (by exact rfl) (by exact rfl) (by first | exact Nat.le_of_ble_eq_true rfl | (simp only [List.length_set]; exact Nat.le_of_ble_eq_true rfl)) dX10_init_73 ?_
  refine NJ.aload_n (i := 0) (x := a0) F.1 dX10_init_76 rfl rfl ?_
  refine NJ.bipush (v := 6) F.1 dX10_init_77 (by decide) ?_
  refine NJ.newiS (N := 6) F wd_122 (by decide) (by decide) (by decide) (Nat.le_of_ble_eq_true rfl) (Nat.le_of_ble_eq_true rfl) dX10_init_79 (fun q8 => ?_)
  refine NJ.putFS (ci := 10) (kf := 38) (N := 50) (C := RX10) (T := TX10) (ty := tyX10 38) F rfl (by decide) in_RX10 tyX10 tyX10_ok nmX10 wd_881 rfl rfl (tyX10_ok 38 (by decide)) (by exact rfl) (by exact rfl) (by first | exact Nat.le_of_ble_eq_true rfl | (simp only [List.length_set]; exact Nat.le_of_ble_eq_true rfl)) dX10_init_81 ?_
  refine NJ.aload_n (i := 0) (x := a0) F.1 dX10_init_84 rfl rfl ?_
  refine NJ.bipush (v := 6) F.1 dX10_init_85 (by decide) ?_
  refine NJ.newiS (N := 6) F wd_122 (by decide) (by decide) (by decide) (Nat.le_of_ble_eq_true rfl) (Nat.le_of_ble_eq_true rfl) dX10_init_87 (fun q9 => ?_)
  refine NJ.putFS (ci := 10) (kf := 39) (N := 50) (C := RX10) (T := TX10) (ty := tyX10 39) F rfl (by decide) in_RX10 tyX10 tyX10_ok nmX10 wd_882 rfl rfl (tyX10_ok 39 (by decide)) (by exact rfl) (by exact rfl) (by first | exact Nat.le_of_ble_eq_true rfl | (simp only [List.length_set]; exact Nat.le_of_ble_eq_true rfl)) dX10_init_89 ?_
  refine NJ.aload_n (i := 0) (x := a0) F.1 dX10_init_92 rfl rfl ?_
  refine NJ.bipush (v := 18) F.1 dX10_init_93 (by decide) ?_
  refine NJ.newiS (N := 18) F wd_122 (by decide) (by decide) (by decide) (Nat.le_of_ble_eq_true rfl) (Nat.le_of_ble_eq_true rfl) dX10_init_95 (fun q10 => ?_)
  refine NJ.putFS (ci := 10) (kf := 40) (N := 50) (C := RX10) (T := TX10) (ty := tyX10 40) F rfl (by decide) in_RX10 tyX10 tyX10_ok nmX10 wd_883 rfl rfl (tyX10_ok 40 (by decide)) (by exact rfl) (by exact rfl) (by first | exact Nat.le_of_ble_eq_true rfl | (simp only [List.length_set]; exact Nat.le_of_ble_eq_true rfl)) dX10_init_97 ?_
  refine NJ.aload_n (i := 0) (x := a0) F.1 dX10_init_100 rfl rfl ?_
  refine NJ.bipush (v := 6) F.1 dX10_init_101 (by decide) ?_
  refine NJ.newiS (N := 6) F wd_122 (by decide) (by decide) (by decide) (Nat.le_of_ble_eq_true rfl) (Nat.le_of_ble_eq_true rfl) dX10_init_103 (fun q11 => ?_)
  refine NJ.putFS (ci := 10) (kf := 41) (N := 50) (C := RX10) (T := TX10) (ty := tyX10 41) F rfl (by decide) in_RX10 tyX10 tyX10_ok nmX10 wd_884 rfl rfl (tyX10_ok 41 (by decide)) (by exact rfl) (by exact rfl) (by first | exact Nat.le_of_ble_eq_true rfl | (simp only [List.length_set]; exact Nat.le_of_ble_eq_true rfl)) dX10_init_105 ?_
  refine NJ.aload_n (i := 0) (x := a0) F.1 dX10_init_108 rfl rfl ?_
  refine NJ.iconst (v := (-1)) F.1 dX10_init_109 rfl ?_
  refine NJ.putS (ci := 10) (kf := 42) (N := 50) (C := RX10) (T := TX10) (ty := tyX10 42) F rfl (by decide) in_RX10 tyX10 tyX10_ok nmX10 wd_885 rfl (tyX10_ok 42 (by decide)) (by exact rfl) (by exact rfl) (by first | exact Nat.le_of_ble_eq_true rfl | (simp only [List.length_set]; exact Nat.le_of_ble_eq_true rfl)) dX10_init_110 ?_
  refine NJ.aload_n (i := 0) (x := a0) F.1 dX10_init_113 rfl rfl ?_
  refine NJ.iconst (v := 4) F.1 dX10_init_114 rfl ?_
  refine NJ.newzS (N := 4) F wd_994 (by decide) (by decide) (by decide) (Nat.le_of_ble_eq_true rfl) (Nat.le_of_ble_eq_true rfl) dX10_init_115 (fun q12 => ?_)
  refine NJ.putFS (ci := 10) (kf := 46) (N := 50) (C := RX10) (T := TX10) (ty := tyX10 46) F rfl (by decide) in_RX10 tyX10 tyX10_ok nmX10 wd_889 rfl rfl (tyX10_ok 46 (by decide)) (by exact rfl) (by exact rfl) (by first | exact Nat.le_of_ble_eq_true rfl | (simp only [List.length_set]; exact Nat.le_of_ble_eq_true rfl)) dX10_init_117 ?_
  refine NJ.aload_n (i := 0) (x := a0) F.1 dX10_init_120 rfl rfl ?_
  refine NJ.iconst (v := 4) F.1 dX10_init_121 rfl ?_
  refine NJ.newiS (N := 4) F wd_122 (by decide) (by decide) (by decide) (Nat.le_of_ble_eq_true rfl) (Nat.le_of_ble_eq_true rfl) dX10_init_122 (fun q13 => ?_)
  refine NJ.putFS (ci := 10) (kf := 47) (N := 50) (C := RX10) (T := TX10) (ty := tyX10 47) F rfl (by decide) in_RX10 tyX10 tyX10_ok nmX10 wd_890 rfl rfl (tyX10_ok 47 (by decide)) (by exact rfl) (by exact rfl) (by first | exact Nat.le_of_ble_eq_true rfl | (simp only [List.length_set]; exact Nat.le_of_ble_eq_true rfl)) dX10_init_124 ?_
  refine NJ.aload_n (i := 0) (x := a0) F.1 dX10_init_127 rfl rfl ?_
  refine NJ.iconst (v := 4) F.1 dX10_init_128 rfl ?_
  refine NJ.newiS (N := 4) F wd_122 (by decide) (by decide) (by decide) (Nat.le_of_ble_eq_true rfl) (Nat.le_of_ble_eq_true rfl) dX10_init_129 (fun q14 => ?_)
  refine NJ.putFS (ci := 10) (kf := 48) (N := 50) (C := RX10) (T := TX10) (ty := tyX10 48) F rfl (by decide) in_RX10 tyX10 tyX10_ok nmX10 wd_891 rfl rfl (tyX10_ok 48 (by decide)) (by exact rfl) (by exact rfl) (by first | exact Nat.le_of_ble_eq_true rfl | (simp only [List.length_set]; exact Nat.le_of_ble_eq_true rfl)) dX10_init_131 ?_
  refine NJ.aload_n (i := 0) (x := a0) F.1 dX10_init_134 rfl rfl ?_
  refine NJ.sipush (v := 160) F.1 dX10_init_135 (by decide) ?_
  refine NJ.newiS (N := 160) F wd_122 (by decide) (by decide) (by decide) (Nat.le_of_ble_eq_true rfl) (Nat.le_of_ble_eq_true rfl) dX10_init_138 (fun q15 => ?_)
  refine NJ.putFS (ci := 10) (kf := 49) (N := 50) (C := RX10) (T := TX10) (ty := tyX10 49) F rfl (by decide) in_RX10 tyX10 tyX10_ok nmX10 wd_892 rfl rfl (tyX10_ok 49 (by decide)) (by exact rfl) (by exact rfl) (by first | exact Nat.le_of_ble_eq_true rfl | (simp only [List.length_set]; exact Nat.le_of_ble_eq_true rfl)) dX10_init_140 ?_
  exact kk (fun i => [q0, q1, q2, q3, q4, q5, q6, q7, q8, q9, q10, q11, q12, q13, q14, q15].getD i 0) (fun _ _ => 0)
