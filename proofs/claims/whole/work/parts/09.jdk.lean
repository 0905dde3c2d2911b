section JDK
variable {φ : Fr} {Ω : Wld} {cc : ByteArray} {own : String} {nL : Nat} {ret : Option FieldType} {d pc : Nat} {L : List (Option Value)} {st rest : List Value} {μ : Mem} {ρ : Option Value × Mem}
theorem schr_and : ∀ i, i < nJS → ∀ k, schr i k &&& 255 = schr i k := by
  have h : ∀ i, i < nJS → ∀ b ∈ bytJS.getD i [], b &&& 255 = b := by decide +kernel
  intro i hi k
  unfold schr
  by_cases hk : k < (bytJS.getD i []).length
  · rw [List.getD_eq_getElem?_getD, List.getElem?_eq_getElem hk]
    exact h i hi _ (List.getElem_mem hk)
  · rw [List.getD_eq_getElem?_getD, List.getElem?_eq_none (by omega)]
    rfl
theorem len_ok : ∀ i, i < nJS → lenJS.getD i 0 < 2 ^ 31 := by decide +kernel
theorem V.cs (F : Fx φ Ω cc "java/lang/String" nL ret) (hw : Cond.fieldLink "java/lang/String" 38 "java/lang/String" "COMPACT_STRINGS" "Z" ∈ lw_G) (hd : decode cc pc = .ok (.getstatic 38, 3)) (kk : V φ Ω nL d (pc + 3) L (.int 1 :: rest) μ ρ) : V φ Ω nL d pc L rest μ ρ := fun H locs a hP hS hl => va_gets F.1 F.2.1 F.C.2.2.2.1.2.2.1 hS F.2.2.2.1 (F.G hw) (fun _ h => h) hd (kk H locs a hP hS hl)
theorem V.fmt (F : Fx φ Ω cc "java/lang/String" nL ret) (hw : Cond.fieldLink "java/lang/String" 1053 "jdk/internal/util/Preconditions" "SIOOBE_FORMATTER" "Ljava/util/function/BiFunction;" ∈ lw_G) (hd : decode cc pc = .ok (.getstatic 1053, 3)) (kk : ∀ v : Value, (v = .null ∨ ∃ t, v = .ref t) → V φ Ω nL d (pc + 3) L (v :: rest) μ ρ) : V φ Ω nL d pc L rest μ ρ := by
  intro H locs a hP hS hl
  rcases F.C.2.2.2.1.2.2.2 with h | ⟨t, h⟩
  · exact va_gets F.1 F.2.1 h hS F.2.2.2.1 (F.G hw) (fun _ h => h) hd (kk _ (Or.inl rfl) H locs a hP hS hl)
  · exact va_gets F.1 F.2.1 h hS F.2.2.2.1 (F.G hw) (fun _ h => h) hd (kk _ (Or.inr ⟨_, rfl⟩) H locs a hP hS hl)
theorem V.strValue {i : Nat} (hi : i < nJS) (F : Fx φ Ω cc "java/lang/String" nL ret) (hw : Cond.fieldLink "java/lang/String" 9 "java/lang/String" "value" "[B" ∈ lw_G) (hd : decode cc pc = .ok (.getfield 9, 3)) (kk : V φ Ω nL d (pc + 3) L (.ref ((gl φ).2.2.2.2.1 i) :: rest) μ ρ) : V φ Ω nL d pc L (.ref ((gl φ).2.2.2.1 i) :: rest) μ ρ := fun H locs a hP hS hl => vk_getf F.1 F.2.1 (F.C.2.2.2.1.1.1 i hi).2.2.1 hS F.2.2.2.1 (F.G hw) (fun _ h => h) hd (kk H locs a hP hS hl)
theorem V.strCoder {i : Nat} (hi : i < nJS) (F : Fx φ Ω cc "java/lang/String" nL ret) (hw : Cond.fieldLink "java/lang/String" 15 "java/lang/String" "coder" "B" ∈ lw_G) (hd : decode cc pc = .ok (.getfield 15, 3)) (kk : V φ Ω nL d (pc + 3) L (.int 0 :: rest) μ ρ) : V φ Ω nL d pc L (.ref ((gl φ).2.2.2.1 i) :: rest) μ ρ := fun H locs a hP hS hl => vk_getf F.1 F.2.1 (F.C.2.2.2.1.1.1 i hi).2.1 hS F.2.2.2.1 (F.G hw) (fun _ h => h) hd (kk H locs a hP hS hl)
theorem V.strLen {i : Nat} (hi : i < nJS) (F : Fx φ Ω cc own nL ret) (hd : decode cc pc = .ok (.arraylength, 1)) (kk : V φ Ω nL d (pc + 1) L (.int (slen i) :: rest) μ ρ) : V φ Ω nL d pc L (.ref ((gl φ).2.2.2.2.1 i) :: rest) μ ρ := fun H locs a hP hS hl => va_tlen F.1 F.2.1 (F.C.2.2.2.1.1.1 i hi).2.2.2 hS rfl hd (kk H locs a hP hS hl)
theorem V.strAt {i : Nat} {j : Int32} (hi : i < nJS) (hj : inb j (lenJS.getD i 0)) (F : Fx φ Ω cc own nL ret) (hd : decode cc pc = .ok (.baload, 1)) (kk : V φ Ω nL d (pc + 1) L (.int (schr i (ix j)) :: rest) μ ρ) : V φ Ω nL d pc L (.int j :: .ref ((gl φ).2.2.2.2.1 i) :: rest) μ ρ := fun H locs a hP hS hl => va_tb F.1 F.2.1 (F.C.2.2.2.1.1.1 i hi).2.2.2 hS hj rfl hd (kk H locs a hP hS hl)
theorem V.i2c {x : Int32} (F : Fx φ Ω cc own nL ret) (hd : decode cc pc = .ok (.i2c, 1)) (k : V φ Ω nL d (pc + 1) L (.int ((x.toUInt32 % 65536).toInt32) :: rest) μ ρ) : V φ Ω nL d pc L (.int x :: rest) μ ρ := fun H locs a hP hS hl => lv_i2c F.1 F.2.1 hd rfl (k H locs a hP hS hl)
theorem V.nret {v : Int32} {ty : FieldType} (F : Fx φ Ω cc own nL (some ty)) (hv : narrow ty (.int v) = .int v) (hd : decode cc pc = .ok (.ireturn, 1)) : V φ Ω nL d pc L [.int v] μ (some (.int v), μ) := fun H locs a hP hS hl => W.zret F.1 F.2.1 F.2.2.2.2.2.1 hv (fun t ht hW => ⟨⟨rfl, by rw [ht]; exact hP⟩, hS.F ht⟩) hS.2.2 hd F.2.2.2.2.2.2.1
/-- a call of a method of a text -/
theorem V.callStr {As : List Value} {i idx d' n n' : Nat} {y : MethodName} {b : ByteArray} {rt : Option FieldType} {r : Int32} {μ1 : Mem} (hi : i < nJS) (F : Fx φ Ω cc own nL ret) (ck : CkV own idx y b n' rt n) (hy : y.cls = "java/lang/String") (hc : Ct φ.1.2.1 Ω (gl φ) d' y b n' rt (.ref ((gl φ).2.2.2.1 i) :: As) μ (some (.int r), μ1)) (hd' : d' < d) (hn' : n' ≤ 60) (hn : As.length = n) (hst : st = As.reverse ++ .ref ((gl φ).2.2.2.1 i) :: rest) (hrest : (rest.map fun v => v.category).sum ≤ 8) (hd : decode cc pc = .ok (.invokevirtual idx, 3))
    (k : V φ Ω nL d (pc + 3) L (.int r :: rest) μ1 ρ) : V φ Ω nL d pc L st μ ρ := by
  refine V.run (r := some (.int r)) (rest := rest) (as := (Value.ref ((gl φ).2.2.2.1 i) :: As).toArray) (fun H locs a hP hS hl => ?_) k
  have cw := cwV (R := rmD d) (bytes := b) (maxL := n') (ret := rt) (rm := rmD d') (mc := 0) (ms := 0) n F.2.2.2.2.1 (gi_V ck) rfl rfl rfl ⟨rfl, ck.2.2.2.2.2⟩ (rm_fit hd' hn')
  exact va_runV (As := As) (rest := rest) (b := (gl φ).2.2.2.1 i) ⟨F.1, F.2.1, F.2.2.1, F.2.2.2.1, F.2.2.2.2.1⟩ hc cw ⟨Ct_blind, by rw [hy]; exact vk_recv F.C.2.2.2.1.1 hi hS, fun U hU hW => ⟨rfl, F.C.at hW (fun _ h => h) hS hU, by rw [hU]; exact hP⟩⟩ rfl hn hl.1 hst (lv_room hrest) hd ⟨Nat.zero_le _, Nat.zero_le _⟩
end JDK
section JDKC
variable {l : Launch} {Ω : Wld} {G : Glo} {μ : Mem}
theorem Jcoder_ct {i : Nat} (hi : i < nJS) : Ct l Ω G 1 yJ0_coder_7d493 cJ0_coder_7d493 1 (some .byte) [.ref (G.2.2.2.1 i)] μ (some (.int 0), μ) := by
  refine Ct.intro (by decide) (Nat.le_of_ble_eq_true rfl) ?_
  intro φ hl hG F
  subst hl; subst hG
  refine V.cs F fl_RJ0_38 dJ0_coder_7d493_0 ?_
  refine V.if_eq (tgt := 13) F dJ0_coder_7d493_3 (by decide) (fun c => absurd c (by decide)) (fun c => ?_)
  refine V.aload_n F dJ0_coder_7d493_6 rfl rfl ?_
  refine V.strCoder hi F fl_RJ0_15 dJ0_coder_7d493_7 ?_
  refine V.goto (tgt := 14) F dJ0_coder_7d493_10 (by decide) ?_
  exact V.nret F rfl dJ0_coder_7d493_14
theorem Jlat_ct {i : Nat} (hi : i < nJS) : Ct l Ω G 1 yJ0_isLatin1_aae02 cJ0_isLatin1_aae02 1 (some .boolean) [.ref (G.2.2.2.1 i)] μ (some (.int 1), μ) := by
  refine Ct.intro (by decide) (Nat.le_of_ble_eq_true rfl) ?_
  intro φ hl hG F
  subst hl; subst hG
  refine V.cs F fl_RJ0_38 dJ0_isLatin1_aae02_0 ?_
  refine V.if_eq (tgt := 17) F dJ0_isLatin1_aae02_3 (by decide) (fun c => absurd c (by decide)) (fun c => ?_)
  refine V.aload_n F dJ0_isLatin1_aae02_6 rfl rfl ?_
  refine V.strCoder hi F fl_RJ0_15 dJ0_isLatin1_aae02_7 ?_
  refine V.if_ne (tgt := 17) F dJ0_isLatin1_aae02_10 (by decide) (fun c => absurd rfl c) (fun c => ?_)
  refine V.iconst (v := 1) F dJ0_isLatin1_aae02_13 (by decide) ?_
  refine V.goto (tgt := 18) F dJ0_isLatin1_aae02_14 (by decide) ?_
  exact V.zret F (by decide) dJ0_isLatin1_aae02_18
theorem Jlength_ct {i : Nat} (hi : i < nJS) : Ct l Ω G 2 yJ0_length_8abf5 cJ0_length_8abf5 1 (some .int) [.ref (G.2.2.2.1 i)] μ (some (.int (slen i)), μ) := by
  refine Ct.intro (by decide) (Nat.le_of_ble_eq_true rfl) ?_
  intro φ hl hG F
  subst hl; subst hG
  refine V.aload_n F dJ0_length_8abf5_0 rfl rfl ?_
  refine V.strValue hi F fl_RJ0_9 dJ0_length_8abf5_1 ?_
  refine V.strLen hi F dJ0_length_8abf5_4 ?_
  refine V.aload_n F dJ0_length_8abf5_5 rfl rfl ?_
  refine V.callStr (As := []) hi F ck_RJ0_335 rfl (Jcoder_ct hi) (by omega) (by decide) rfl rfl (Nat.le_of_ble_eq_true rfl) dJ0_length_8abf5_6 ?_
  refine V.ishr F dJ0_length_8abf5_9 ?_
  have e : shr (slen i) 0 = slen i := sb_shr0 _
  rw [e]
  exact V.iret F dJ0_length_8abf5_10
theorem Jpre_ct {j n : Int32} {v : Value} (hv : v = .null ∨ ∃ t, v = .ref t) (h0 : ¬ j < 0) (h1 : j < n) : Ct l Ω G 1 yJ3_checkIndex_8e157 cJ3_checkIndex_8e157 3 (some .int) [.int j, .int n, v] μ (some (.int j), μ) := by
  refine Ct.intro (by decide) (by rcases hv with rfl | ⟨t, rfl⟩ <;> exact Nat.le_refl _) ?_
  intro φ hl hG F
  subst hl; subst hG
  have e : padL [.int j, .int n, v] 3 = [some (.int j), some (.int n), some v] := by rcases hv with rfl | ⟨t, rfl⟩ <;> rfl
  rw [e]
  refine V.iload_n F dJ3_checkIndex_8e157_0 rfl rfl ?_
  refine V.if_lt (tgt := 9) F dJ3_checkIndex_8e157_1 (by decide) (fun c => absurd c h0) (fun c => ?_)
  refine V.iload_n F dJ3_checkIndex_8e157_4 rfl rfl ?_
  refine V.iload_n F dJ3_checkIndex_8e157_5 rfl rfl ?_
  refine V.icmp_lt (tgt := 16) F dJ3_checkIndex_8e157_6 (by decide) (fun c => ?_) (fun c => absurd h1 c)
  refine V.iload_n F dJ3_checkIndex_8e157_16 rfl rfl ?_
  exact V.iret F dJ3_checkIndex_8e157_17
theorem Jchk_ct {j n : Int32} (h0 : ¬ j < 0) (h1 : j < n) : Ct l Ω G 2 yJ0_checkIndex_df160 cJ0_checkIndex_df160 2 none [.int j, .int n] μ (none, μ) := by
  refine Ct.intro (by decide) (Nat.le_of_ble_eq_true rfl) ?_
  intro φ hl hG F
  subst hl; subst hG
  refine V.iload_n F dJ0_checkIndex_df160_0 rfl rfl ?_
  refine V.iload_n F dJ0_checkIndex_df160_1 rfl rfl ?_
  refine V.fmt F fl_RJ0_1053 dJ0_checkIndex_df160_2 (fun v hv => ?_)
  refine V.callSi (As := [.int j, .int n, v]) F ck_RJ0_1059 (Jpre_ct hv h0 h1) (by omega) (by decide) rfl rfl (Nat.le_of_ble_eq_true rfl) dJ0_checkIndex_df160_5 ?_
  refine V.pop F dJ0_checkIndex_df160_8 rfl ?_
  exact V.vret F dJ0_checkIndex_df160_9
theorem inb_nlt {j : Int32} {n : Nat} (hn : n < 2 ^ 31) (h : inb j n) : ¬ j < 0 ∧ j < nI n := by
  obtain ⟨k, hk, rfl⟩ := vp_in_of h hn
  exact ⟨nI_pos (by omega), nI_lt hk hn⟩
theorem Jl1_ct {i : Nat} {j : Int32} (hi : i < nJS) (hj : inb j (lenJS.getD i 0)) : Ct l Ω G 3 yJ1_charAt_3b067 cJ1_charAt_3b067 2 (some .char) [.ref (G.2.2.2.2.1 i), .int j] μ (some (.int (schr i (ix j))), μ) := by
  refine Ct.intro (by decide) (Nat.le_of_ble_eq_true rfl) ?_
  intro φ hl hG F
  subst hl; subst hG
  obtain ⟨h0, h1⟩ := inb_nlt (len_ok i hi) hj
  refine V.iload_n F dJ1_charAt_3b067_0 rfl rfl ?_
  refine V.aload_n F dJ1_charAt_3b067_1 rfl rfl ?_
  refine V.strLen hi F dJ1_charAt_3b067_2 ?_
  refine V.callSv (As := [.int j, .int (slen i)]) F ck_RJ1_9 (Jchk_ct h0 h1) (by omega) (by decide) rfl rfl (Nat.le_of_ble_eq_true rfl) dJ1_charAt_3b067_3 ?_
  refine V.aload_n F dJ1_charAt_3b067_6 rfl rfl ?_
  refine V.iload_n F dJ1_charAt_3b067_7 rfl rfl ?_
  refine V.strAt hi hj F dJ1_charAt_3b067_8 ?_
  refine V.sipush (v := 255) F dJ1_charAt_3b067_9 (by decide) ?_
  refine V.iand F dJ1_charAt_3b067_12 ?_
  refine V.i2c F dJ1_charAt_3b067_13 ?_
  rw [sc_c2]
  rw [← schr_and i hi (ix j)]
  rw [schr_and i hi (ix j)]
  have hq := sc_nar (schr i (ix j))
  rw [schr_and i hi (ix j)] at hq ⊢
  exact V.nret F hq dJ1_charAt_3b067_14
theorem Jchar_ct {i : Nat} {j : Int32} (hi : i < nJS) (hj : inb j (lenJS.getD i 0)) : Ct l Ω G 4 yJ0_charAt_5068e cJ0_charAt_5068e 2 (some .char) [.ref (G.2.2.2.1 i), .int j] μ (some (.int (schr i (ix j))), μ) := by
  refine Ct.intro (by decide) (Nat.le_of_ble_eq_true rfl) ?_
  intro φ hl hG F
  subst hl; subst hG
  refine V.aload_n F dJ0_charAt_5068e_0 rfl rfl ?_
  refine V.callStr (As := []) hi F ck_RJ0_492 rfl (Jlat_ct hi) (by omega) (by decide) rfl rfl (Nat.le_of_ble_eq_true rfl) dJ0_charAt_5068e_1 ?_
  refine V.if_eq (tgt := 16) F dJ0_charAt_5068e_4 (by decide) (fun c => absurd c (by decide)) (fun c => ?_)
  refine V.aload_n F dJ0_charAt_5068e_7 rfl rfl ?_
  refine V.strValue hi F fl_RJ0_9 dJ0_charAt_5068e_8 ?_
  refine V.iload_n F dJ0_charAt_5068e_11 rfl rfl ?_
  refine V.callSi (As := [.ref ((gl φ).2.2.2.2.1 i), .int j]) F ck_RJ0_495 (Jl1_ct hi hj) (by omega) (by decide) rfl rfl (Nat.le_of_ble_eq_true rfl) dJ0_charAt_5068e_12 ?_
  have hq := sc_nar (schr i (ix j))
  rw [schr_and i hi (ix j)] at hq
  exact V.nret F hq dJ0_charAt_5068e_15
end JDKC
section JDKR
variable {φ : Fr} {Ω : Wld} {cc : ByteArray} {own : String} {nL : Nat} {ret : Option FieldType} {d pc : Nat} {L : List (Option Value)} {st rest : List Value} {μ : Mem} {ρ : Option Value × Mem}
theorem V.slenR {i idx : Nat} (F : Fx φ Ω cc own nL ret) (ck : CkV own idx yJ0_length_8abf5 cJ0_length_8abf5 1 (some .int) 0) (hi : i < nJS) (hd' : 2 < d) (hrest : (rest.map fun v => v.category).sum ≤ 8) (hd : decode cc pc = .ok (.invokevirtual idx, 3)) (k : V φ Ω nL d (pc + 3) L (.int (slen i) :: rest) μ ρ) : V φ Ω nL d pc L (.ref ((gl φ).2.2.2.1 i) :: rest) μ ρ := V.callStr (As := []) hi F ck rfl (Jlength_ct hi) hd' (by decide) rfl rfl hrest hd k
theorem V.schrR {i idx : Nat} {j : Int32} (F : Fx φ Ω cc own nL ret) (ck : CkV own idx yJ0_charAt_5068e cJ0_charAt_5068e 2 (some .char) 1) (hi : i < nJS) (hj : inb j (lenJS.getD i 0)) (hd' : 4 < d) (hrest : (rest.map fun v => v.category).sum ≤ 8) (hd : decode cc pc = .ok (.invokevirtual idx, 3)) (k : V φ Ω nL d (pc + 3) L (.int (schr i (ix j)) :: rest) μ ρ) : V φ Ω nL d pc L (.int j :: .ref ((gl φ).2.2.2.1 i) :: rest) μ ρ := V.callStr (As := [.int j]) hi F ck rfl (Jchar_ct hi hj) hd' (by decide) rfl rfl hrest hd k
end JDKR
