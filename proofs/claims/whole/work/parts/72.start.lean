/-! ===== the law's entry: both worlds are made, then its loop (laid by wip/whole/g72.py) ===== -/
theorem wd_19 : Cond.classLink RL 7 RX9 ∈ lw_G := mG 105 (by decide +kernel) rfl
theorem wd_834 : Cond.classLink RL 10 RX10 ∈ lw_G := mG 920 (by decide +kernel) rfl
theorem wd_20 : Cond.instantiable RX9 12 ∈ lw_G := mG 106 (by decide +kernel) rfl
theorem wd_835 : Cond.instantiable RX10 50 ∈ lw_G := mG 921 (by decide +kernel) rfl
theorem wd_1 : Cond.initialized RX9 ∈ lw_G := mG 87 (by decide +kernel) rfl
theorem wd_16 : Cond.initialized RX10 ∈ lw_G := mG 102 (by decide +kernel) rfl
theorem wd_21 : Cond.methodLink RL 9 yX9_init ∈ lw_G := mG 107 (by decide +kernel) rfl
theorem wd_836 : Cond.methodLink RL 12 yX10_init ∈ lw_G := mG 922 (by decide +kernel) rfl
theorem wd_22 : Cond.instanceMethod yX9_init ∈ lw_G := mG 108 (by decide +kernel) rfl
theorem wd_837 : Cond.instanceMethod yX10_init ∈ lw_G := mG 923 (by decide +kernel) rfl
theorem wd_23 : Cond.code yX9_init cX9_init 2 none ∈ lw_G := mG 109 (by decide +kernel) rfl
theorem wd_838 : Cond.code yX10_init cX10_init 1 none ∈ lw_G := mG 924 (by decide +kernel) rfl
section WROWS
variable {φ : Fr} {R : Room} {Q : State → Prop} {A : Nat → Prop} {ws : va_W} {k n nL pc : Nat} {cc : ByteArray} {own : String} {ret : Option FieldType} {L : List (Option Value)} {rest : List Value}
theorem NJ.lnew {ci idx N : Nat} {C : String} {T : u_T} {fs : List Value} (F : Fy φ cc own nL ret) (hK : va_K (gl φ).2.1 vwCl (tysOf (gl φ)) φ.1.2.2.2.1) (hA : ∀ q : Nat, φ.1.2.2.2.1.heap.size ≤ q → A q) (ty : Nat → FieldType) (hc : vwCl[ci]? = some (C, T, N)) (hin : ∀ w ∈ u_ws C T N, w ∈ lw_G) (hty : ∀ k, k < N → parseFieldDescriptor (T k).2.2.1 = some (ty k)) (hcl : Cond.classLink own idx C ∈ lw_G) (hinst : Cond.instantiable C N ∈ lw_G) (hini : Cond.initialized C ∈ lw_G) (hfs : ∀ j, j < N → defaultValue (ty j) = vp_V fs j) (hk : k + 1 ≤ R.cells) (hn : n + N ≤ R.slots) (hd : decode cc pc = .ok (.new idx, 3)) (kk : ∀ q : Nat, NJ φ R Q (CI φ A (ws ++ [(q, .inr (ci, fs))])) (k + 1) (n + N) nL (pc + 3) L (.ref q :: rest)) : NJ φ R Q (CI φ A ws) k n nL pc L rest := fun H locs ls hI hl => va_new F.1 F.2.1 F.2.2.2.2.1 hin ty hty F.2.2.2.1 (F.G hcl) (F.G hinst) (F.G hini) hK hI.1 hI.2.1 hI.2.2 hA hc hfs hk hn hd (fun q H1 hP hD hS => kk q H1 locs ls ⟨hP, hD, hS⟩ hl)
theorem NJ.ctorW {Ω : Wld} {In : Mem → Prop} {e0 : va_E} {q d' mc ms m' idx : Nat} {y : MethodName} {b : ByteArray} (F : Fy φ cc own nL ret) (hCx : CxA A (gl φ) φ.1.2.2.2.1 φ.1.2.2.2.1.heap) (hEX : EX φ.1.2.2.2.1) (hAA : va_AA φ.1.2.2.2.1) (hA : ∀ q : Nat, φ.1.2.2.2.1.heap.size ≤ q → A q) (hc : CW φ.1.2.1 (gl φ) d' mc ms y b m' e0 Ω In) (hlink : Cond.methodLink own idx y ∈ lw_G) (h2 : Cond.instanceMethod y ∈ lw_G) (h3 : Cond.initialized y.cls ∈ lw_G) (h4 : Cond.code y b m' none ∈ lw_G) (hy : y.name = "<init>") (h5 : (y.cls ≠ "java/lang/invoke/MethodHandle" ∧ y.cls ≠ "java/lang/invoke/VarHandle" ∧ (parseMethodDescriptor y.desc).map (fun d => d.parameters.length) = some 0)) (hR : (rmC d' mc ms).frames + 1 ≤ R.frames ∧ 8 + (m' + 11) + (rmC d' mc ms).locals ≤ R.locals) (hrest : (rest.map fun v => v.category).sum ≤ 8) (hk : k + mc ≤ R.cells) (hn : n + ms ≤ R.slots) (hd : decode cc pc = .ok (.invokespecial idx, 3)) (kk : ∀ (ad : Nat → Nat → Nat) (μ : Mem), In μ → Apart Ω (ad, (gl φ).2) → ad 0 0 = q → (∀ z, Aw Ω (ad, (gl φ).2) z → A z) → (∀ (i : Nat) (x : Nat × va_E), ws[i]? = some x → ¬ Aw Ω (ad, (gl φ).2) x.1) → NJ φ R Q (fun H locs => va_P (gl φ).2.1 vwCl ws H ∧ Wd Ω (ad, (gl φ).2) μ H ∧ va_S A φ.1.2.2.2.1.heap H locs) (k + mc) (n + ms) nL (pc + 3) L rest) : NJ φ R Q (CI φ A (ws ++ [(q, e0)])) k n nL pc L (.ref q :: rest) := by
  intro H locs ls hI hl
  obtain ⟨hP, hD, hS⟩ := hI
  have hq : (ws ++ [(q, e0)])[ws.length]? = some (q, e0) := by simp
  have frt : ∀ (i : Nat) (x : Nat × va_E), ws[i]? = some x → (ws ++ [(q, e0)])[i]? = some x := fun i x hx => by
    rw [List.getElem?_append_left (List.getElem?_eq_some_iff.mp hx).1]; exact hx
  have hF : ∀ x, va_A [(q, e0)] H.size x → A x := by
    rintro x (⟨j, e, hj⟩ | h)
    · have h1 : j < 1 := (List.getElem?_eq_some_iff.mp hj).1
      obtain rfl : j = 0 := by omega
      simp only [List.getElem?_cons_zero, Option.some.injEq, Prod.mk.injEq] at hj
      rw [← hj.1]
      exact hD.2 _ _ hq
    · exact hA x (Nat.le_trans hS.1 h)
  have hP1 : va_P (gl φ).2.1 vwCl [(q, e0)] H := fun j x hx => by
    have h1 : j < 1 := (List.getElem?_eq_some_iff.mp hx).1
    obtain rfl : j = 0 := by omega
    cases hx
    exact hP _ _ hq
  have apart : ∀ (i : Nat) (x : Nat × va_E), ws[i]? = some x → x.1 < H.size ∧ ¬ va_A [(q, e0)] H.size x.1 := by
    intro i x hx
    have hl := (hP i x (frt i x hx)).lt
    refine ⟨hl, ?_⟩
    rintro (⟨j, e, hj⟩ | h)
    · have h1 : j < 1 := (List.getElem?_eq_some_iff.mp hj).1
      obtain rfl : j = 0 := by omega
      simp only [List.getElem?_cons_zero, Option.some.injEq, Prod.mk.injEq] at hj
      have := hD.1 i ws.length x (q, e0) (frt i x hx) hq hj.1.symm
      have h2 := (List.getElem?_eq_some_iff.mp hx).1
      omega
    · omega
  exact va_callv (va_runI (As := []) (rest := rest) ⟨F.1, F.2.1, F.2.2.1, F.2.2.2.1, F.2.2.2.2.1⟩ (hc q H.size) (cwI 0 F.2.2.2.2.1 (gi_code h4) rfl rfl rfl (F.G h3) (F.G hlink) (F.G h2) hy h5 hR) ⟨PWb, fun U hU hW => ⟨rfl, by rw [hU], by rw [hU]; exact hP1, hEX.warm hW, hAA.moved hW.alike, hCx.at hW (fun a l1 l2 => by rw [hU]; exact hS.2.1 a l1 l2) hF⟩⟩ rfl rfl hl.1 rfl (lv_room hrest) hd ⟨hk, hn⟩) hS (fun x _ h => hF x h) hF (fun u t H1 locs1 ht hvm hw hB hz1 hk1 hS1 => by
    obtain ⟨b1, b2, b3, b4⟩ := hB
    rw [ht] at b1
    exact kk u.1 u.2 hw b2 b4 (fun z h => hF z (b3 z h)) (fun i x hx h => (apart i x hx).2 (b3 _ h)) H1 locs1 ls ⟨fun i x hx => (hP i x (frt i x hx)).kept (hk1 x.1 (apart i x hx).1 (apart i x hx).2), b1, hS1⟩ hl)
end WROWS
set_option maxHeartbeats 4000000 in
set_option maxRecDepth 100000 in
theorem whole_start {p : Program} {e : Env} {s : State} {m : MethodId} {below : List Frame} {meth : Method} {c : Code} (l : Launch) (hflags : l.flags = flags0) {b L : Nat} {xs : Nat → Int32} (hL : L ≤ 3072) (C0 : lw_At p s m meth c b L xs) : W p l e room_1 s m #[Value.ref b] below meth c s.heap [] 0 0 (lw_Z below #[Value.ref b] s) (entryFrame m ([Value.ref b] : List Value).toArray 4) := by
  obtain ⟨hx, hb, hr, hml, hown, hts, hX, hbl, hlocks, hgv⟩ := id C0
  obtain ⟨G2, hCx, hEX, hAA⟩ := law_start hts hgv
  obtain ⟨φ, hφ⟩ : ∃ φ : Fr, φ = ((p, l, e, s, m, #[Value.ref b]), (below, meth, c, ((fun _ _ => 0), G2))) := ⟨_, rfl⟩
  have F : Fy φ cL_law RL 4 ret := by
    subst hφ
    exact ⟨hx, hb, hml, hown, fun w h => hts w (List.mem_filter.mp h).1, hr, hlocks⟩
  have hCx : CxA (A0 φ) (gl φ) (S0 φ) (S0 φ).heap := by subst hφ; exact hCx
  have hEX : EX (S0 φ) := by subst hφ; exact hEX
  have hAA : va_AA (S0 φ) := by subst hφ; exact hAA
  have hX : va_X b L xs (S0 φ) (S0 φ).heap := by subst hφ; exact hX
  have hbl : b < (S0 φ).heap.size := by subst hφ; exact hbl
  have hA : ∀ q : Nat, (S0 φ).heap.size ≤ q → A0 φ q := fun _ h => h
  have key : NJ φ room_1 (lw_Z below #[Value.ref b] s) (CI φ (A0 φ) []) 0 0 4 0 [some (.ref b), none, none, none] [] := by
    refine NJ.lnew (ci := 9) (N := 12) (fs := [.null, .null, .int 0, .null, .int 0, .null, .null, .null, .null, .null, .null, .null]) F hCx.1 hA tyX9 rfl in_RX9 tyX9_ok wd_19 wd_20 wd_1 (by decide) (Nat.le_of_ble_eq_true rfl) (Nat.le_of_ble_eq_true rfl) dL_law_0 (fun q1 => ?_)
    refine NJ.dup F dL_law_3 rfl ?_
    refine NJ.ctorW (ws := []) F hCx hEX hAA hA (cwA _ _) wd_21 wd_22 wd_1 wd_23 rfl (by decide +kernel) ⟨Nat.le_of_ble_eq_true rfl, Nat.le_of_ble_eq_true rfl⟩ (Nat.le_of_ble_eq_true rfl) (Nat.le_of_ble_eq_true rfl) (Nat.le_of_ble_eq_true rfl) dL_law_4 (fun adA μ hIn hap h0 hsub _ => ?_)
    subst h0
    obtain ⟨x, hx1, hx2⟩ := hIn
    refine NJ.inv (I' := CI φ (A0 φ) (wl ΩA (adA, (gl φ).2) μ)) (fun H locs h => ⟨h.2.1, (wl_D ΩA_nd hap).weaken (fun _ x _ h => hsub x.1 h), h.2.2⟩) ?_
    refine NJ.astore_n (i := 1) (x := adA 0 0) (L' := [some (.ref b), some (.ref (adA 0 0)), none, none]) F dL_law_7 rfl (by decide) rfl rfl ?_
    refine NJ.lnew (ci := 10) (N := 50) (fs := [.int 0, .null, .null, .int 0, .int 0, .null, .int 0, .int 0, .int 0, .null, .null, .null, .int 0, .int 0, .int 0, .int 0, .int 0, .int 0, .int 0, .int 0, .int 0, .int 0, .int 0, .int 0, .long 0, .int 0, .int 0, .int 0, .int 0, .int 0, .int 0, .null, .int 0, .int 0, .int 0, .int 0, .int 0, .null, .null, .null, .null, .null, .int 0, .int 0, .int 0, .int 0, .null, .null, .null, .null]) F hCx.1 hA tyX10 rfl in_RX10 tyX10_ok wd_834 wd_835 wd_16 (by decide) (Nat.le_of_ble_eq_true rfl) (Nat.le_of_ble_eq_true rfl) dL_law_8 (fun q2 => ?_)
    refine NJ.dup F dL_law_11 rfl ?_
    refine NJ.ctorW (ws := wl ΩA (adA, (gl φ).2) μ) F hCx hEX hAA hA (cwB _ _ hx1) wd_836 wd_837 wd_16 wd_838 rfl (by decide +kernel) ⟨Nat.le_of_ble_eq_true rfl, Nat.le_of_ble_eq_true rfl⟩ (Nat.le_of_ble_eq_true rfl) (Nat.le_of_ble_eq_true rfl) (Nat.le_of_ble_eq_true rfl) dL_law_12 (fun adB ν hInB hapB h0B hsubB hdis => ?_)
    subst h0B
    have E : LE φ b L xs adA adB := ⟨F, ⟨hX, hbl, hL⟩, hCx, ⟨hap, hsub⟩, ⟨hapB, hsubB⟩, fun z hz hz2 => by
      obtain ⟨c, hc, rfl⟩ := hz
      obtain ⟨kx, -, hk2⟩ := wl_get (Ω := ΩA) (G := (adA, (gl φ).2)) (μ := μ) (show (c.1, c.2) ∈ ΩA.1 from hc)
      exact hdis kx _ hk2 hz2⟩
    refine NJ.inv (I' := LI φ adA adB μ ν) (fun H locs h => h) ?_
    refine NJ.astore_n (i := 2) (x := adB 0 0) (L' := [some (.ref b), some (.ref (adA 0 0)), some (.ref (adB 0 0)), none]) F dL_law_15 rfl (by decide) rfl rfl ?_
    refine NJ.iconst (v := nI 0) F dL_law_16 rfl ?_
    refine NJ.istore_n (i := 3) (y := nI 0) (L' := Lc b adA adB 0) F dL_law_17 rfl (by decide) rfl rfl rfl ?_
    refine law_loop E (Nat.le_of_ble_eq_true rfl) (Nat.le_of_ble_eq_true rfl) (fun μ2 ν2 i => ?_) L 0 μ ν (by omega) (Nat.zero_le _) (inv_first hx2 hInB)
    refine NJ.iconst (v := 1) F dL_law_994 rfl ?_
    intro H locs ls hI hl
    have hS := hI.2.2
    subst hφ
    exact va_forget hS.2.2 (W.widen (Nat.le_of_ble_eq_true rfl) (Nat.le_of_ble_eq_true rfl) (lw_ret hx hb hr hlocks dL_law_995))
  rw [lg_entry_eq]
  have h := key s.heap [] _ ⟨fun k q h => by simp at h, ⟨fun i j p q h => by simp at h, fun k q h => by simp at h⟩, by subst hφ; exact va_S.rf⟩ (hasL_entry [.ref b] (Nat.le_of_ble_eq_true rfl))
  subst hφ
  exact h
