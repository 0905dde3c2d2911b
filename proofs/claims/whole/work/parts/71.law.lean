/-! ===== the law's walk (laid by wip/whole/g71.py) ===== -/
abbrev S0 (φ : Fr) : State := φ.1.2.2.2.1
def A0 (φ : Fr) : Nat → Prop := fun q => (S0 φ).heap.size ≤ q
/-- both worlds stand, apart, and nothing old was written -/
def LI (φ : Fr) (adA adB : Nat → Nat → Nat) (μ ν : Mem) : Heap → List Loc → Prop := fun H locs => Wd ΩA (adA, (gl φ).2) μ H ∧ Wd ΩB (adB, (gl φ).2) ν H ∧ va_S (A0 φ) (S0 φ).heap H locs
def LE (φ : Fr) (b L : Nat) (xs : Nat → Int32) (adA adB : Nat → Nat → Nat) : Prop := Fy φ cL_law RL 4 ret ∧ (va_X b L xs (S0 φ) (S0 φ).heap ∧ b < (S0 φ).heap.size ∧ L ≤ 3072) ∧ CxA (A0 φ) (gl φ) (S0 φ) (S0 φ).heap ∧ (Apart ΩA (adA, (gl φ).2) ∧ ∀ q, Aw ΩA (adA, (gl φ).2) q → A0 φ q) ∧ (Apart ΩB (adB, (gl φ).2) ∧ ∀ q, Aw ΩB (adB, (gl φ).2) q → A0 φ q) ∧ ∀ q, Aw ΩA (adA, (gl φ).2) q → ¬ Aw ΩB (adB, (gl φ).2) q
abbrev Lc (b : Nat) (adA adB : Nat → Nat → Nat) (i : Nat) : List (Option Value) := [some (.ref b), some (.ref (adA 0 0)), some (.ref (adB 0 0)), some (.int (nI i))]
theorem wd_kept {Ω : Wld} {G : Glo} {μ : Mem} {H H1 : Heap} {B : Nat → Prop} (h : Wd Ω G μ H) (hk : ∀ q : Nat, q < H.size → ¬ B q → H1[q]? = H[q]?) (hd : ∀ q, Aw Ω G q → ¬ B q) : Wd Ω G μ H1 := by
  refine va_P.kept h (fun k q hq => hk q.1 (h k q hq).lt (hd _ ?_))
  simp only [wl, List.getElem?_map] at hq
  cases e : Ω.1[k]? with
  | none => rw [e] at hq; cases hq
  | some c =>
    rw [e] at hq
    cases hq
    exact ⟨c, List.mem_of_getElem? e, rfl⟩
section LROWS
variable {φ : Fr} {Q : State → Prop} {b Ln k n : Nat} {xs : Nat → Int32} {adA adB : Nat → Nat → Nat} {μ ν : Mem} {pc : Nat} {L : List (Option Value)} {rest : List Value}
theorem NJ.lld {R : Room} {j : Int32} (E : LE φ b Ln xs adA adB) (hj : vp_in j Ln) (hd : decode cL_law pc = .ok (.iaload, 1)) (kk : NJ φ R Q (LI φ adA adB μ ν) k n 4 (pc + 1) L (.int (xs j.toNatClampNeg) :: rest)) : NJ φ R Q (LI φ adA adB μ ν) k n 4 pc L (.int j :: .ref b :: rest) := fun H locs ls hI hl => va_sld E.1.1 E.1.2.1 E.2.1.1 E.2.1.2.1 (Nat.not_le.mpr E.2.1.2.1) hI.2.2 hj hd (kk H locs ls hI hl)
theorem NJ.llen {R : Room} (E : LE φ b Ln xs adA adB) (hd : decode cL_law pc = .ok (.arraylength, 1)) (kk : NJ φ R Q (LI φ adA adB μ ν) k n 4 (pc + 1) L (.int (nI Ln) :: rest)) : NJ φ R Q (LI φ adA adB μ ν) k n 4 pc L (.ref b :: rest) := fun H locs ls hI hl => va_slen E.1.1 E.1.2.1 E.2.1.1 E.2.1.2.1 (Nat.not_le.mpr E.2.1.2.1) hI.2.2 hd (kk H locs ls hI hl)
/-- script[i + j] -/
theorem NJ.larg {R : Room} {i j : Nat} {z : Int} (E : LE φ b Ln xs adA adB) (hz : Int32.ofInt z = nI j) (hj : j < 6) (hi : i + 6 ≤ Ln) (d0 : decode cL_law pc = .ok (.aload_n 0, 1)) (d1 : decode cL_law (pc + 1) = .ok (.iload_n 3, 1)) (d2 : decode cL_law (pc + 1 + 1) = .ok (.iconst z, 1)) (d3 : decode cL_law (pc + 1 + 1 + 1) = .ok (.iadd, 1)) (d4 : decode cL_law (pc + 1 + 1 + 1 + 1) = .ok (.iaload, 1)) (kk : NJ φ R Q (LI φ adA adB μ ν) k n 4 (pc + 1 + 1 + 1 + 1 + 1) (Lc b adA adB i) (.int (xs (i + j)) :: rest)) : NJ φ R Q (LI φ adA adB μ ν) k n 4 pc (Lc b adA adB i) rest := by
  have hL := E.2.1.2.2
  refine NJ.aload_n (i := 0) (x := b) E.1 d0 rfl rfl ?_
  refine NJ.iload_n (i := 3) (x := nI i) E.1 d1 rfl rfl ?_
  refine NJ.iconst (v := nI j) E.1 d2 hz ?_
  refine NJ.iadd E.1 d3 ?_
  rw [nI_add]
  refine NJ.lld E (vp_in_nI (by omega) (by omega)) d4 ?_
  rw [nI_clamp (by omega)]
  exact kk
theorem LE.CA (E : LE φ b Ln xs adA adB) : Cx ΩA (adA, (gl φ).2) (S0 φ) (S0 φ).heap := E.2.2.1.cx ΩA_nd E.2.2.2.1.1 E.2.2.2.1.2
theorem LE.CB (E : LE φ b Ln xs adA adB) : Cx ΩB (adB, (gl φ).2) (S0 φ) (S0 φ).heap := E.2.2.1.cx ΩB_nd E.2.2.2.2.1.1 E.2.2.2.2.1.2
theorem NJ.lcA {As st : List Value} {idx d' n0 n' : Nat} {y : MethodName} {bb : ByteArray} {rt : Option FieldType} {r : Option Value} {μ1 : Mem} (E : LE φ b Ln xs adA adB) (ck : CkV RL idx y bb n' rt n0) (hc : Ct φ.1.2.1 ΩA (adA, (gl φ).2) d' y bb n' rt (.ref (adA 0 0) :: As) μ (r, μ1)) (hR : (rmD d').frames + 1 ≤ room_1.frames ∧ 8 + (n' + 11) + (rmD d').locals ≤ room_1.locals) (hn : As.length = n0) (hcl : vwCl[9]? = some (y.cls, TX9, 12)) (hst : st = As.reverse ++ .ref (adA 0 0) :: rest) (hrest : (rest.map fun v => v.category).sum ≤ 8) (hk : k ≤ room_1.cells) (hn2 : n ≤ room_1.slots) (hd : decode cL_law pc = .ok (.invokevirtual idx, 3)) (kk : NJ φ room_1 Q (LI φ adA adB μ1 ν) k n 4 (pc + 3) L (r.toList ++ rest)) : NJ φ room_1 Q (LI φ adA adB μ ν) k n 4 pc L st :=
  NJ.callV (A := A0 φ) (Ω := ΩA) (G' := (adA, (gl φ).2)) (f := 0) (i := 0) E.1 E.CA (fun q h1 h2 => absurd h1 (Nat.not_lt.mpr h2)) E.2.2.2.1.2 (fun _ _ h => ⟨h.1, h.2.2⟩) (fun _ _ _ _ h h1 _ h3 h4 => ⟨h1, wd_kept h.2.1 h3 (fun q w z => E.2.2.2.2.2 q z w), h4⟩) ck hc hR hn mA0 rfl hcl hst hrest hk hn2 hd kk
theorem NJ.lcB {As st : List Value} {idx d' n0 n' : Nat} {y : MethodName} {bb : ByteArray} {rt : Option FieldType} {r : Option Value} {ν1 : Mem} (E : LE φ b Ln xs adA adB) (ck : CkV RL idx y bb n' rt n0) (hc : Ct φ.1.2.1 ΩB (adB, (gl φ).2) d' y bb n' rt (.ref (adB 0 0) :: As) ν (r, ν1)) (hR : (rmD d').frames + 1 ≤ room_1.frames ∧ 8 + (n' + 11) + (rmD d').locals ≤ room_1.locals) (hn : As.length = n0) (hcl : vwCl[10]? = some (y.cls, TX10, 50)) (hst : st = As.reverse ++ .ref (adB 0 0) :: rest) (hrest : (rest.map fun v => v.category).sum ≤ 8) (hk : k ≤ room_1.cells) (hn2 : n ≤ room_1.slots) (hd : decode cL_law pc = .ok (.invokevirtual idx, 3)) (kk : NJ φ room_1 Q (LI φ adA adB μ ν1) k n 4 (pc + 3) L (r.toList ++ rest)) : NJ φ room_1 Q (LI φ adA adB μ ν) k n 4 pc L st :=
  NJ.callV (A := A0 φ) (Ω := ΩB) (G' := (adB, (gl φ).2)) (f := 0) (i := 0) E.1 E.CB (fun q h1 h2 => absurd h1 (Nat.not_lt.mpr h2)) E.2.2.2.2.1.2 (fun _ _ h => ⟨h.2.1, h.2.2⟩) (fun _ _ _ _ h h1 _ h3 h4 => ⟨wd_kept h.1 h3 (fun q w z => E.2.2.2.2.2 q w z), h1, h4⟩) ck hc hR hn mB0 rfl hcl hst hrest hk hn2 hd kk
theorem nI_head {i L : Nat} (hi : i ≤ L) (hL : L ≤ 3072) : (nI i > nI L - 6) = (L < i + 6) := by
  by_cases h : 6 ≤ L
  · rw [show (6 : Int32) = nI 6 from rfl, nI_sub' h]
    exact propext ((nI_ltI (by omega) (by omega)).trans (by omega))
  · have : ∀ L, L < 6 → ∀ i, i < 6 → nI i > nI L - 6 := by decide
    exact propext ⟨fun _ => by omega, fun _ => this L (by omega) i (by omega)⟩
theorem law_0 {i : Nat} (E : LE φ b Ln xs adA adB) (hi : i + 6 ≤ Ln) (I : Inv μ ν) (hk : k ≤ room_1.cells) (hn : n ≤ room_1.slots) (kk : ∀ μ2 ν2, Inv μ2 ν2 → NJ φ room_1 Q (LI φ adA adB μ2 ν2) k n 4 988 (Lc b adA adB i) []) : NJ φ room_1 Q (LI φ adA adB μ ν) k n 4 156 (Lc b adA adB i) [] := by
  obtain ⟨r, μ2, ν2, e1, e2, I2⟩ := set_agree (xs (i + 1)) (xs (i + 2)) (xs (i + 3)) μ ν I
  refine NJ.aload_n (i := 1) (x := adA 0 0) E.1 dL_law_156 rfl rfl ?_
  refine NJ.larg (j := 1) E rfl (by decide) hi dL_law_157 dL_law_158 dL_law_159 dL_law_160 dL_law_161 ?_
  refine NJ.larg (j := 2) E rfl (by decide) hi dL_law_162 dL_law_163 dL_law_164 dL_law_165 dL_law_166 ?_
  refine NJ.larg (j := 3) E rfl (by decide) hi dL_law_167 dL_law_168 dL_law_169 dL_law_170 dL_law_171 ?_
  refine NJ.lcA (As := [.int (xs (i + 1)), .int (xs (i + 2)), .int (xs (i + 3))]) E ck_RL_13 (S_set_ct e1) ⟨Nat.le_of_ble_eq_true rfl, Nat.le_of_ble_eq_true rfl⟩ rfl rfl rfl (Nat.le_of_ble_eq_true rfl) hk hn dL_law_172 ?_
  refine NJ.aload_n (i := 2) (x := adB 0 0) E.1 dL_law_175 rfl rfl ?_
  refine NJ.larg (j := 1) E rfl (by decide) hi dL_law_176 dL_law_177 dL_law_178 dL_law_179 dL_law_180 ?_
  refine NJ.larg (j := 2) E rfl (by decide) hi dL_law_181 dL_law_182 dL_law_183 dL_law_184 dL_law_185 ?_
  refine NJ.larg (j := 3) E rfl (by decide) hi dL_law_186 dL_law_187 dL_law_188 dL_law_189 dL_law_190 ?_
  refine NJ.lcB (As := [.int (xs (i + 1)), .int (xs (i + 2)), .int (xs (i + 3))]) E ck_RL_17 (M_set_ct e2) ⟨Nat.le_of_ble_eq_true rfl, Nat.le_of_ble_eq_true rfl⟩ rfl rfl rfl (Nat.le_of_ble_eq_true rfl) hk hn dL_law_191 ?_
  exact NJ.icmp_eq (tgt := 988) E.1 dL_law_194 (by decide) (fun _ => kk _ _ I2) (fun h => absurd rfl h)
theorem law_1 {i : Nat} (E : LE φ b Ln xs adA adB) (hi : i + 6 ≤ Ln) (I : Inv μ ν) (hk : k ≤ room_1.cells) (hn : n ≤ room_1.slots) (kk : ∀ μ2 ν2, Inv μ2 ν2 → NJ φ room_1 Q (LI φ adA adB μ2 ν2) k n 4 988 (Lc b adA adB i) []) : NJ φ room_1 Q (LI φ adA adB μ ν) k n 4 199 (Lc b adA adB i) [] := by
  obtain ⟨r, μ2, ν2, e1, e2, I2⟩ := groom_agree (xs (i + 1)) (xs (i + 2)) (xs (i + 3)) μ ν I
  refine NJ.aload_n (i := 1) (x := adA 0 0) E.1 dL_law_199 rfl rfl ?_
  refine NJ.larg (j := 1) E rfl (by decide) hi dL_law_200 dL_law_201 dL_law_202 dL_law_203 dL_law_204 ?_
  refine NJ.larg (j := 2) E rfl (by decide) hi dL_law_205 dL_law_206 dL_law_207 dL_law_208 dL_law_209 ?_
  refine NJ.larg (j := 3) E rfl (by decide) hi dL_law_210 dL_law_211 dL_law_212 dL_law_213 dL_law_214 ?_
  refine NJ.lcA (As := [.int (xs (i + 1)), .int (xs (i + 2)), .int (xs (i + 3))]) E ck_RL_18 (S_groom_ct e1) ⟨Nat.le_of_ble_eq_true rfl, Nat.le_of_ble_eq_true rfl⟩ rfl rfl rfl (Nat.le_of_ble_eq_true rfl) hk hn dL_law_215 ?_
  refine NJ.aload_n (i := 2) (x := adB 0 0) E.1 dL_law_218 rfl rfl ?_
  refine NJ.larg (j := 1) E rfl (by decide) hi dL_law_219 dL_law_220 dL_law_221 dL_law_222 dL_law_223 ?_
  refine NJ.larg (j := 2) E rfl (by decide) hi dL_law_224 dL_law_225 dL_law_226 dL_law_227 dL_law_228 ?_
  refine NJ.larg (j := 3) E rfl (by decide) hi dL_law_229 dL_law_230 dL_law_231 dL_law_232 dL_law_233 ?_
  refine NJ.lcB (As := [.int (xs (i + 1)), .int (xs (i + 2)), .int (xs (i + 3))]) E ck_RL_21 (M_groom_ct e2) ⟨Nat.le_of_ble_eq_true rfl, Nat.le_of_ble_eq_true rfl⟩ rfl rfl rfl (Nat.le_of_ble_eq_true rfl) hk hn dL_law_234 ?_
  exact NJ.icmp_eq (tgt := 988) E.1 dL_law_237 (by decide) (fun _ => kk _ _ I2) (fun h => absurd rfl h)
theorem law_2 {i : Nat} (E : LE φ b Ln xs adA adB) (hi : i + 6 ≤ Ln) (I : Inv μ ν) (hk : k ≤ room_1.cells) (hn : n ≤ room_1.slots) (kk : ∀ μ2 ν2, Inv μ2 ν2 → NJ φ room_1 Q (LI φ adA adB μ2 ν2) k n 4 988 (Lc b adA adB i) []) : NJ φ room_1 Q (LI φ adA adB μ ν) k n 4 242 (Lc b adA adB i) [] := by
  obtain ⟨r, μ2, ν2, e1, e2, I2⟩ := change_agree (xs (i + 1)) (xs (i + 2)) μ ν I
  refine NJ.aload_n (i := 1) (x := adA 0 0) E.1 dL_law_242 rfl rfl ?_
  refine NJ.larg (j := 1) E rfl (by decide) hi dL_law_243 dL_law_244 dL_law_245 dL_law_246 dL_law_247 ?_
  refine NJ.larg (j := 2) E rfl (by decide) hi dL_law_248 dL_law_249 dL_law_250 dL_law_251 dL_law_252 ?_
  refine NJ.lcA (As := [.int (xs (i + 1)), .int (xs (i + 2))]) E ck_RL_22 (S_change_ct e1) ⟨Nat.le_of_ble_eq_true rfl, Nat.le_of_ble_eq_true rfl⟩ rfl rfl rfl (Nat.le_of_ble_eq_true rfl) hk hn dL_law_253 ?_
  refine NJ.aload_n (i := 2) (x := adB 0 0) E.1 dL_law_256 rfl rfl ?_
  refine NJ.larg (j := 1) E rfl (by decide) hi dL_law_257 dL_law_258 dL_law_259 dL_law_260 dL_law_261 ?_
  refine NJ.larg (j := 2) E rfl (by decide) hi dL_law_262 dL_law_263 dL_law_264 dL_law_265 dL_law_266 ?_
  refine NJ.lcB (As := [.int (xs (i + 1)), .int (xs (i + 2))]) E ck_RL_26 (M_change_ct e2) ⟨Nat.le_of_ble_eq_true rfl, Nat.le_of_ble_eq_true rfl⟩ rfl rfl rfl (Nat.le_of_ble_eq_true rfl) hk hn dL_law_267 ?_
  exact NJ.icmp_eq (tgt := 988) E.1 dL_law_270 (by decide) (fun _ => kk _ _ I2) (fun h => absurd rfl h)
theorem law_3 {i : Nat} (E : LE φ b Ln xs adA adB) (hi : i + 6 ≤ Ln) (I : Inv μ ν) (hk : k ≤ room_1.cells) (hn : n ≤ room_1.slots) (kk : ∀ μ2 ν2, Inv μ2 ν2 → NJ φ room_1 Q (LI φ adA adB μ2 ν2) k n 4 988 (Lc b adA adB i) []) : NJ φ room_1 Q (LI φ adA adB μ ν) k n 4 275 (Lc b adA adB i) [] := by
  obtain ⟨r, μ2, ν2, e1, e2, I2⟩ := told_agree (xs (i + 1)) (xs (i + 2)) μ ν I
  refine NJ.aload_n (i := 1) (x := adA 0 0) E.1 dL_law_275 rfl rfl ?_
  refine NJ.larg (j := 1) E rfl (by decide) hi dL_law_276 dL_law_277 dL_law_278 dL_law_279 dL_law_280 ?_
  refine NJ.larg (j := 2) E rfl (by decide) hi dL_law_281 dL_law_282 dL_law_283 dL_law_284 dL_law_285 ?_
  refine NJ.lcA (As := [.int (xs (i + 1)), .int (xs (i + 2))]) E ck_RL_27 (S_told_ct e1) ⟨Nat.le_of_ble_eq_true rfl, Nat.le_of_ble_eq_true rfl⟩ rfl rfl rfl (Nat.le_of_ble_eq_true rfl) hk hn dL_law_286 ?_
  refine NJ.aload_n (i := 2) (x := adB 0 0) E.1 dL_law_289 rfl rfl ?_
  refine NJ.larg (j := 1) E rfl (by decide) hi dL_law_290 dL_law_291 dL_law_292 dL_law_293 dL_law_294 ?_
  refine NJ.larg (j := 2) E rfl (by decide) hi dL_law_295 dL_law_296 dL_law_297 dL_law_298 dL_law_299 ?_
  refine NJ.lcB (As := [.int (xs (i + 1)), .int (xs (i + 2))]) E ck_RL_30 (M_told_ct e2) ⟨Nat.le_of_ble_eq_true rfl, Nat.le_of_ble_eq_true rfl⟩ rfl rfl rfl (Nat.le_of_ble_eq_true rfl) hk hn dL_law_300 ?_
  exact NJ.icmp_eq (tgt := 988) E.1 dL_law_303 (by decide) (fun _ => kk _ _ I2) (fun h => absurd rfl h)
theorem law_4 {i : Nat} (E : LE φ b Ln xs adA adB) (hi : i + 6 ≤ Ln) (I : Inv μ ν) (hk : k ≤ room_1.cells) (hn : n ≤ room_1.slots) (kk : ∀ μ2 ν2, Inv μ2 ν2 → NJ φ room_1 Q (LI φ adA adB μ2 ν2) k n 4 988 (Lc b adA adB i) []) : NJ φ room_1 Q (LI φ adA adB μ ν) k n 4 308 (Lc b adA adB i) [] := by
  obtain ⟨r, μ2, ν2, e1, e2, I2⟩ := feed_agree (xs (i + 1)) μ ν I
  refine NJ.aload_n (i := 1) (x := adA 0 0) E.1 dL_law_308 rfl rfl ?_
  refine NJ.larg (j := 1) E rfl (by decide) hi dL_law_309 dL_law_310 dL_law_311 dL_law_312 dL_law_313 ?_
  refine NJ.lcA (As := [.int (xs (i + 1))]) E ck_RL_31 (S_feed_ct e1) ⟨Nat.le_of_ble_eq_true rfl, Nat.le_of_ble_eq_true rfl⟩ rfl rfl rfl (Nat.le_of_ble_eq_true rfl) hk hn dL_law_314 ?_
  refine NJ.aload_n (i := 2) (x := adB 0 0) E.1 dL_law_317 rfl rfl ?_
  refine NJ.larg (j := 1) E rfl (by decide) hi dL_law_318 dL_law_319 dL_law_320 dL_law_321 dL_law_322 ?_
  refine NJ.lcB (As := [.int (xs (i + 1))]) E ck_RL_35 (M_feed_ct e2) ⟨Nat.le_of_ble_eq_true rfl, Nat.le_of_ble_eq_true rfl⟩ rfl rfl rfl (Nat.le_of_ble_eq_true rfl) hk hn dL_law_323 ?_
  exact NJ.icmp_eq (tgt := 988) E.1 dL_law_326 (by decide) (fun _ => kk _ _ I2) (fun h => absurd rfl h)
theorem law_5 {i : Nat} (E : LE φ b Ln xs adA adB) (hi : i + 6 ≤ Ln) (I : Inv μ ν) (hk : k ≤ room_1.cells) (hn : n ≤ room_1.slots) (kk : ∀ μ2 ν2, Inv μ2 ν2 → NJ φ room_1 Q (LI φ adA adB μ2 ν2) k n 4 988 (Lc b adA adB i) []) : NJ φ room_1 Q (LI φ adA adB μ ν) k n 4 331 (Lc b adA adB i) [] := by
  obtain ⟨r, μ2, ν2, e1, e2, I2⟩ := text_agree  μ ν I
  refine NJ.aload_n (i := 1) (x := adA 0 0) E.1 dL_law_331 rfl rfl ?_
  refine NJ.lcA (As := []) E ck_RL_36 (S_text_ct e1) ⟨Nat.le_of_ble_eq_true rfl, Nat.le_of_ble_eq_true rfl⟩ rfl rfl rfl (Nat.le_of_ble_eq_true rfl) hk hn dL_law_332 ?_
  refine NJ.aload_n (i := 2) (x := adB 0 0) E.1 dL_law_335 rfl rfl ?_
  refine NJ.lcB (As := []) E ck_RL_40 (M_text_ct e2) ⟨Nat.le_of_ble_eq_true rfl, Nat.le_of_ble_eq_true rfl⟩ rfl rfl rfl (Nat.le_of_ble_eq_true rfl) hk hn dL_law_336 ?_
  exact NJ.icmp_eq (tgt := 988) E.1 dL_law_339 (by decide) (fun _ => kk _ _ I2) (fun h => absurd rfl h)
theorem law_6 {i : Nat} (E : LE φ b Ln xs adA adB) (hi : i + 6 ≤ Ln) (I : Inv μ ν) (hk : k ≤ room_1.cells) (hn : n ≤ room_1.slots) (kk : ∀ μ2 ν2, Inv μ2 ν2 → NJ φ room_1 Q (LI φ adA adB μ2 ν2) k n 4 988 (Lc b adA adB i) []) : NJ φ room_1 Q (LI φ adA adB μ ν) k n 4 344 (Lc b adA adB i) [] := by
  obtain ⟨r, μ2, ν2, e1, e2, I2⟩ := force_agree (xs (i + 1)) μ ν I
  refine NJ.aload_n (i := 1) (x := adA 0 0) E.1 dL_law_344 rfl rfl ?_
  refine NJ.larg (j := 1) E rfl (by decide) hi dL_law_345 dL_law_346 dL_law_347 dL_law_348 dL_law_349 ?_
  refine NJ.lcA (As := [.int (xs (i + 1))]) E ck_RL_41 (S_force_ct (Option.some.inj e1)) ⟨Nat.le_of_ble_eq_true rfl, Nat.le_of_ble_eq_true rfl⟩ rfl rfl rfl (Nat.le_of_ble_eq_true rfl) hk hn dL_law_350 ?_
  refine NJ.aload_n (i := 2) (x := adB 0 0) E.1 dL_law_353 rfl rfl ?_
  refine NJ.larg (j := 1) E rfl (by decide) hi dL_law_354 dL_law_355 dL_law_356 dL_law_357 dL_law_358 ?_
  refine NJ.lcB (As := [.int (xs (i + 1))]) E ck_RL_44 (M_force_ct (Option.some.inj e2)) ⟨Nat.le_of_ble_eq_true rfl, Nat.le_of_ble_eq_true rfl⟩ rfl rfl rfl (Nat.le_of_ble_eq_true rfl) hk hn dL_law_359 ?_
  exact NJ.icmp_eq (tgt := 988) E.1 dL_law_362 (by decide) (fun _ => kk _ _ I2) (fun h => absurd rfl h)
theorem law_7 {i : Nat} (E : LE φ b Ln xs adA adB) (hi : i + 6 ≤ Ln) (I : Inv μ ν) (hk : k ≤ room_1.cells) (hn : n ≤ room_1.slots) (kk : ∀ μ2 ν2, Inv μ2 ν2 → NJ φ room_1 Q (LI φ adA adB μ2 ν2) k n 4 988 (Lc b adA adB i) []) : NJ φ room_1 Q (LI φ adA adB μ ν) k n 4 367 (Lc b adA adB i) [] := by
  obtain ⟨r, μ2, ν2, e1, e2, I2⟩ := day_agree  μ ν I
  refine NJ.aload_n (i := 1) (x := adA 0 0) E.1 dL_law_367 rfl rfl ?_
  refine NJ.lcA (As := []) E ck_RL_45 (S_day_ct e1) ⟨Nat.le_of_ble_eq_true rfl, Nat.le_of_ble_eq_true rfl⟩ rfl rfl rfl (Nat.le_of_ble_eq_true rfl) hk hn dL_law_368 ?_
  refine NJ.aload_n (i := 2) (x := adB 0 0) E.1 dL_law_371 rfl rfl ?_
  refine NJ.lcB (As := []) E ck_RL_48 (M_day_ct e2) ⟨Nat.le_of_ble_eq_true rfl, Nat.le_of_ble_eq_true rfl⟩ rfl rfl rfl (Nat.le_of_ble_eq_true rfl) hk hn dL_law_372 ?_
  exact NJ.icmp_eq (tgt := 988) E.1 dL_law_375 (by decide) (fun _ => kk _ _ I2) (fun h => absurd rfl h)
theorem law_8 {i : Nat} (E : LE φ b Ln xs adA adB) (hi : i + 6 ≤ Ln) (I : Inv μ ν) (hk : k ≤ room_1.cells) (hn : n ≤ room_1.slots) (kk : ∀ μ2 ν2, Inv μ2 ν2 → NJ φ room_1 Q (LI φ adA adB μ2 ν2) k n 4 988 (Lc b adA adB i) []) : NJ φ room_1 Q (LI φ adA adB μ ν) k n 4 380 (Lc b adA adB i) [] := by
  obtain ⟨r, μ2, ν2, e1, e2, I2⟩ := run_agree (xs (i + 1)) (xs (i + 2)) μ ν I
  refine NJ.aload_n (i := 1) (x := adA 0 0) E.1 dL_law_380 rfl rfl ?_
  refine NJ.larg (j := 1) E rfl (by decide) hi dL_law_381 dL_law_382 dL_law_383 dL_law_384 dL_law_385 ?_
  refine NJ.larg (j := 2) E rfl (by decide) hi dL_law_386 dL_law_387 dL_law_388 dL_law_389 dL_law_390 ?_
  refine NJ.lcA (As := [.int (xs (i + 1)), .int (xs (i + 2))]) E ck_RL_49 (S_run_ct e1) ⟨Nat.le_of_ble_eq_true rfl, Nat.le_of_ble_eq_true rfl⟩ rfl rfl rfl (Nat.le_of_ble_eq_true rfl) hk hn dL_law_391 ?_
  refine NJ.aload_n (i := 2) (x := adB 0 0) E.1 dL_law_394 rfl rfl ?_
  refine NJ.larg (j := 1) E rfl (by decide) hi dL_law_395 dL_law_396 dL_law_397 dL_law_398 dL_law_399 ?_
  refine NJ.larg (j := 2) E rfl (by decide) hi dL_law_400 dL_law_401 dL_law_402 dL_law_403 dL_law_404 ?_
  refine NJ.lcB (As := [.int (xs (i + 1)), .int (xs (i + 2))]) E ck_RL_52 (M_run_ct e2) ⟨Nat.le_of_ble_eq_true rfl, Nat.le_of_ble_eq_true rfl⟩ rfl rfl rfl (Nat.le_of_ble_eq_true rfl) hk hn dL_law_405 ?_
  exact NJ.icmp_eq (tgt := 988) E.1 dL_law_408 (by decide) (fun _ => kk _ _ I2) (fun h => absurd rfl h)
theorem law_9 {i : Nat} (E : LE φ b Ln xs adA adB) (hi : i + 6 ≤ Ln) (I : Inv μ ν) (hk : k ≤ room_1.cells) (hn : n ≤ room_1.slots) (kk : ∀ μ2 ν2, Inv μ2 ν2 → NJ φ room_1 Q (LI φ adA adB μ2 ν2) k n 4 988 (Lc b adA adB i) []) : NJ φ room_1 Q (LI φ adA adB μ ν) k n 4 413 (Lc b adA adB i) [] := by
  have I2 := I
  obtain ⟨r, e1, e2⟩ := rings_agree (xs (i + 1)) I
  refine NJ.aload_n (i := 1) (x := adA 0 0) E.1 dL_law_413 rfl rfl ?_
  refine NJ.larg (j := 1) E rfl (by decide) hi dL_law_414 dL_law_415 dL_law_416 dL_law_417 dL_law_418 ?_
  refine NJ.lcA (As := [.int (xs (i + 1))]) E ck_RL_53 (S_rings_ct e1) ⟨Nat.le_of_ble_eq_true rfl, Nat.le_of_ble_eq_true rfl⟩ rfl rfl rfl (Nat.le_of_ble_eq_true rfl) hk hn dL_law_419 ?_
  refine NJ.aload_n (i := 2) (x := adB 0 0) E.1 dL_law_422 rfl rfl ?_
  refine NJ.larg (j := 1) E rfl (by decide) hi dL_law_423 dL_law_424 dL_law_425 dL_law_426 dL_law_427 ?_
  refine NJ.lcB (As := [.int (xs (i + 1))]) E ck_RL_56 (M_rings_ct e2) ⟨Nat.le_of_ble_eq_true rfl, Nat.le_of_ble_eq_true rfl⟩ rfl rfl rfl (Nat.le_of_ble_eq_true rfl) hk hn dL_law_428 ?_
  exact NJ.icmp_eq (tgt := 988) E.1 dL_law_431 (by decide) (fun _ => kk _ _ I2) (fun h => absurd rfl h)
theorem law_10 {i : Nat} (E : LE φ b Ln xs adA adB) (hi : i + 6 ≤ Ln) (I : Inv μ ν) (hk : k ≤ room_1.cells) (hn : n ≤ room_1.slots) (kk : ∀ μ2 ν2, Inv μ2 ν2 → NJ φ room_1 Q (LI φ adA adB μ2 ν2) k n 4 988 (Lc b adA adB i) []) : NJ φ room_1 Q (LI φ adA adB μ ν) k n 4 436 (Lc b adA adB i) [] := by
  have I2 := I
  obtain ⟨r, e1, e2⟩ := ring_agree (xs (i + 1)) I
  refine NJ.aload_n (i := 1) (x := adA 0 0) E.1 dL_law_436 rfl rfl ?_
  refine NJ.larg (j := 1) E rfl (by decide) hi dL_law_437 dL_law_438 dL_law_439 dL_law_440 dL_law_441 ?_
  refine NJ.lcA (As := [.int (xs (i + 1))]) E ck_RL_57 (S_ring_ct e1) ⟨Nat.le_of_ble_eq_true rfl, Nat.le_of_ble_eq_true rfl⟩ rfl rfl rfl (Nat.le_of_ble_eq_true rfl) hk hn dL_law_442 ?_
  refine NJ.aload_n (i := 2) (x := adB 0 0) E.1 dL_law_445 rfl rfl ?_
  refine NJ.larg (j := 1) E rfl (by decide) hi dL_law_446 dL_law_447 dL_law_448 dL_law_449 dL_law_450 ?_
  refine NJ.lcB (As := [.int (xs (i + 1))]) E ck_RL_60 (M_ring_ct e2) ⟨Nat.le_of_ble_eq_true rfl, Nat.le_of_ble_eq_true rfl⟩ rfl rfl rfl (Nat.le_of_ble_eq_true rfl) hk hn dL_law_451 ?_
  exact NJ.icmp_eq (tgt := 988) E.1 dL_law_454 (by decide) (fun _ => kk _ _ I2) (fun h => absurd rfl h)
theorem law_11 {i : Nat} (E : LE φ b Ln xs adA adB) (hi : i + 6 ≤ Ln) (I : Inv μ ν) (hk : k ≤ room_1.cells) (hn : n ≤ room_1.slots) (kk : ∀ μ2 ν2, Inv μ2 ν2 → NJ φ room_1 Q (LI φ adA adB μ2 ν2) k n 4 988 (Lc b adA adB i) []) : NJ φ room_1 Q (LI φ adA adB μ ν) k n 4 459 (Lc b adA adB i) [] := by
  obtain ⟨r, μ2, ν2, e1, e2, I2⟩ := better_agree (xs (i + 1)) (xs (i + 2)) μ ν I
  refine NJ.aload_n (i := 1) (x := adA 0 0) E.1 dL_law_459 rfl rfl ?_
  refine NJ.larg (j := 1) E rfl (by decide) hi dL_law_460 dL_law_461 dL_law_462 dL_law_463 dL_law_464 ?_
  refine NJ.larg (j := 2) E rfl (by decide) hi dL_law_465 dL_law_466 dL_law_467 dL_law_468 dL_law_469 ?_
  refine NJ.lcA (As := [.int (xs (i + 1)), .int (xs (i + 2))]) E ck_RL_61 (S_better_ct e1) ⟨Nat.le_of_ble_eq_true rfl, Nat.le_of_ble_eq_true rfl⟩ rfl rfl rfl (Nat.le_of_ble_eq_true rfl) hk hn dL_law_470 ?_
  refine NJ.aload_n (i := 2) (x := adB 0 0) E.1 dL_law_473 rfl rfl ?_
  refine NJ.larg (j := 1) E rfl (by decide) hi dL_law_474 dL_law_475 dL_law_476 dL_law_477 dL_law_478 ?_
  refine NJ.larg (j := 2) E rfl (by decide) hi dL_law_479 dL_law_480 dL_law_481 dL_law_482 dL_law_483 ?_
  refine NJ.lcB (As := [.int (xs (i + 1)), .int (xs (i + 2))]) E ck_RL_64 (M_better_ct e2) ⟨Nat.le_of_ble_eq_true rfl, Nat.le_of_ble_eq_true rfl⟩ rfl rfl rfl (Nat.le_of_ble_eq_true rfl) hk hn dL_law_484 ?_
  exact NJ.icmp_eq (tgt := 988) E.1 dL_law_487 (by decide) (fun _ => kk _ _ I2) (fun h => absurd rfl h)
theorem law_12 {i : Nat} (E : LE φ b Ln xs adA adB) (hi : i + 6 ≤ Ln) (I : Inv μ ν) (hk : k ≤ room_1.cells) (hn : n ≤ room_1.slots) (kk : ∀ μ2 ν2, Inv μ2 ν2 → NJ φ room_1 Q (LI φ adA adB μ2 ν2) k n 4 988 (Lc b adA adB i) []) : NJ φ room_1 Q (LI φ adA adB μ ν) k n 4 492 (Lc b adA adB i) [] := by
  obtain ⟨r, μ2, ν2, e1, e2, I2⟩ := best_agree (xs (i + 1)) (xs (i + 2)) μ ν I
  refine NJ.aload_n (i := 1) (x := adA 0 0) E.1 dL_law_492 rfl rfl ?_
  refine NJ.larg (j := 1) E rfl (by decide) hi dL_law_493 dL_law_494 dL_law_495 dL_law_496 dL_law_497 ?_
  refine NJ.larg (j := 2) E rfl (by decide) hi dL_law_498 dL_law_499 dL_law_500 dL_law_501 dL_law_502 ?_
  refine NJ.lcA (As := [.int (xs (i + 1)), .int (xs (i + 2))]) E ck_RL_65 (S_best_ct e1) ⟨Nat.le_of_ble_eq_true rfl, Nat.le_of_ble_eq_true rfl⟩ rfl rfl rfl (Nat.le_of_ble_eq_true rfl) hk hn dL_law_503 ?_
  refine NJ.aload_n (i := 2) (x := adB 0 0) E.1 dL_law_506 rfl rfl ?_
  refine NJ.larg (j := 1) E rfl (by decide) hi dL_law_507 dL_law_508 dL_law_509 dL_law_510 dL_law_511 ?_
  refine NJ.larg (j := 2) E rfl (by decide) hi dL_law_512 dL_law_513 dL_law_514 dL_law_515 dL_law_516 ?_
  refine NJ.lcB (As := [.int (xs (i + 1)), .int (xs (i + 2))]) E ck_RL_68 (M_best_ct e2) ⟨Nat.le_of_ble_eq_true rfl, Nat.le_of_ble_eq_true rfl⟩ rfl rfl rfl (Nat.le_of_ble_eq_true rfl) hk hn dL_law_517 ?_
  exact NJ.icmp_eq (tgt := 988) E.1 dL_law_520 (by decide) (fun _ => kk _ _ I2) (fun h => absurd rfl h)
theorem law_13 {i : Nat} (E : LE φ b Ln xs adA adB) (hi : i + 6 ≤ Ln) (I : Inv μ ν) (hk : k ≤ room_1.cells) (hn : n ≤ room_1.slots) (kk : ∀ μ2 ν2, Inv μ2 ν2 → NJ φ room_1 Q (LI φ adA adB μ2 ν2) k n 4 988 (Lc b adA adB i) []) : NJ φ room_1 Q (LI φ adA adB μ ν) k n 4 525 (Lc b adA adB i) [] := by
  obtain ⟨r, μ2, e1, e2, I2⟩ := from_agree (xs (i + 1)) I
  refine NJ.aload_n (i := 1) (x := adA 0 0) E.1 dL_law_525 rfl rfl ?_
  refine NJ.larg (j := 1) E rfl (by decide) hi dL_law_526 dL_law_527 dL_law_528 dL_law_529 dL_law_530 ?_
  refine NJ.lcA (As := [.int (xs (i + 1))]) E ck_RL_69 (S_from_ct e1) ⟨Nat.le_of_ble_eq_true rfl, Nat.le_of_ble_eq_true rfl⟩ rfl rfl rfl (Nat.le_of_ble_eq_true rfl) hk hn dL_law_531 ?_
  refine NJ.aload_n (i := 2) (x := adB 0 0) E.1 dL_law_534 rfl rfl ?_
  refine NJ.larg (j := 1) E rfl (by decide) hi dL_law_535 dL_law_536 dL_law_537 dL_law_538 dL_law_539 ?_
  refine NJ.lcB (As := [.int (xs (i + 1))]) E ck_RL_72 (M_from_ct e2) ⟨Nat.le_of_ble_eq_true rfl, Nat.le_of_ble_eq_true rfl⟩ rfl rfl rfl (Nat.le_of_ble_eq_true rfl) hk hn dL_law_540 ?_
  exact NJ.icmp_eq (tgt := 988) E.1 dL_law_543 (by decide) (fun _ => kk _ _ I2) (fun h => absurd rfl h)
theorem law_14 {i : Nat} (E : LE φ b Ln xs adA adB) (hi : i + 6 ≤ Ln) (I : Inv μ ν) (hk : k ≤ room_1.cells) (hn : n ≤ room_1.slots) (kk : ∀ μ2 ν2, Inv μ2 ν2 → NJ φ room_1 Q (LI φ adA adB μ2 ν2) k n 4 988 (Lc b adA adB i) []) : NJ φ room_1 Q (LI φ adA adB μ ν) k n 4 548 (Lc b adA adB i) [] := by
  obtain ⟨r, μ2, e1, e2, I2⟩ := keys_agree (xs (i + 1)) I
  refine NJ.aload_n (i := 1) (x := adA 0 0) E.1 dL_law_548 rfl rfl ?_
  refine NJ.larg (j := 1) E rfl (by decide) hi dL_law_549 dL_law_550 dL_law_551 dL_law_552 dL_law_553 ?_
  refine NJ.lcA (As := [.int (xs (i + 1))]) E ck_RL_73 (S_keys_ct e1) ⟨Nat.le_of_ble_eq_true rfl, Nat.le_of_ble_eq_true rfl⟩ rfl rfl rfl (Nat.le_of_ble_eq_true rfl) hk hn dL_law_554 ?_
  refine NJ.aload_n (i := 2) (x := adB 0 0) E.1 dL_law_557 rfl rfl ?_
  refine NJ.larg (j := 1) E rfl (by decide) hi dL_law_558 dL_law_559 dL_law_560 dL_law_561 dL_law_562 ?_
  refine NJ.lcB (As := [.int (xs (i + 1))]) E ck_RL_76 (M_keys_ct e2) ⟨Nat.le_of_ble_eq_true rfl, Nat.le_of_ble_eq_true rfl⟩ rfl rfl rfl (Nat.le_of_ble_eq_true rfl) hk hn dL_law_563 ?_
  exact NJ.icmp_eq (tgt := 988) E.1 dL_law_566 (by decide) (fun _ => kk _ _ I2) (fun h => absurd rfl h)
theorem law_15 {i : Nat} (E : LE φ b Ln xs adA adB) (hi : i + 6 ≤ Ln) (I : Inv μ ν) (hk : k ≤ room_1.cells) (hn : n ≤ room_1.slots) (kk : ∀ μ2 ν2, Inv μ2 ν2 → NJ φ room_1 Q (LI φ adA adB μ2 ν2) k n 4 988 (Lc b adA adB i) []) : NJ φ room_1 Q (LI φ adA adB μ ν) k n 4 571 (Lc b adA adB i) [] := by
  obtain ⟨r, μ2, ν2, e1, e2, I2⟩ := tells_agree (xs (i + 1)) (xs (i + 2)) μ ν I
  refine NJ.aload_n (i := 1) (x := adA 0 0) E.1 dL_law_571 rfl rfl ?_
  refine NJ.larg (j := 1) E rfl (by decide) hi dL_law_572 dL_law_573 dL_law_574 dL_law_575 dL_law_576 ?_
  refine NJ.larg (j := 2) E rfl (by decide) hi dL_law_577 dL_law_578 dL_law_579 dL_law_580 dL_law_581 ?_
  refine NJ.lcA (As := [.int (xs (i + 1)), .int (xs (i + 2))]) E ck_RL_77 (S_tells_ct e1) ⟨Nat.le_of_ble_eq_true rfl, Nat.le_of_ble_eq_true rfl⟩ rfl rfl rfl (Nat.le_of_ble_eq_true rfl) hk hn dL_law_582 ?_
  refine NJ.aload_n (i := 2) (x := adB 0 0) E.1 dL_law_585 rfl rfl ?_
  refine NJ.larg (j := 1) E rfl (by decide) hi dL_law_586 dL_law_587 dL_law_588 dL_law_589 dL_law_590 ?_
  refine NJ.larg (j := 2) E rfl (by decide) hi dL_law_591 dL_law_592 dL_law_593 dL_law_594 dL_law_595 ?_
  refine NJ.lcB (As := [.int (xs (i + 1)), .int (xs (i + 2))]) E ck_RL_80 (M_tells_ct e2) ⟨Nat.le_of_ble_eq_true rfl, Nat.le_of_ble_eq_true rfl⟩ rfl rfl rfl (Nat.le_of_ble_eq_true rfl) hk hn dL_law_596 ?_
  exact NJ.icmp_eq (tgt := 988) E.1 dL_law_599 (by decide) (fun _ => kk _ _ I2) (fun h => absurd rfl h)
theorem law_16 {i : Nat} (E : LE φ b Ln xs adA adB) (hi : i + 6 ≤ Ln) (I : Inv μ ν) (hk : k ≤ room_1.cells) (hn : n ≤ room_1.slots) (kk : ∀ μ2 ν2, Inv μ2 ν2 → NJ φ room_1 Q (LI φ adA adB μ2 ν2) k n 4 988 (Lc b adA adB i) []) : NJ φ room_1 Q (LI φ adA adB μ ν) k n 4 604 (Lc b adA adB i) [] := by
  obtain ⟨r, μ2, ν2, e1, e2, I2⟩ := film_agree (xs (i + 1)) μ ν I
  refine NJ.aload_n (i := 1) (x := adA 0 0) E.1 dL_law_604 rfl rfl ?_
  refine NJ.larg (j := 1) E rfl (by decide) hi dL_law_605 dL_law_606 dL_law_607 dL_law_608 dL_law_609 ?_
  refine NJ.lcA (As := [.int (xs (i + 1))]) E ck_RL_81 (S_film_ct e1) ⟨Nat.le_of_ble_eq_true rfl, Nat.le_of_ble_eq_true rfl⟩ rfl rfl rfl (Nat.le_of_ble_eq_true rfl) hk hn dL_law_610 ?_
  refine NJ.aload_n (i := 2) (x := adB 0 0) E.1 dL_law_613 rfl rfl ?_
  refine NJ.larg (j := 1) E rfl (by decide) hi dL_law_614 dL_law_615 dL_law_616 dL_law_617 dL_law_618 ?_
  refine NJ.lcB (As := [.int (xs (i + 1))]) E ck_RL_84 (M_film_ct e2) ⟨Nat.le_of_ble_eq_true rfl, Nat.le_of_ble_eq_true rfl⟩ rfl rfl rfl (Nat.le_of_ble_eq_true rfl) hk hn dL_law_619 ?_
  exact NJ.icmp_eq (tgt := 988) E.1 dL_law_622 (by decide) (fun _ => kk _ _ I2) (fun h => absurd rfl h)
theorem law_17 {i : Nat} (E : LE φ b Ln xs adA adB) (hi : i + 6 ≤ Ln) (I : Inv μ ν) (hk : k ≤ room_1.cells) (hn : n ≤ room_1.slots) (kk : ∀ μ2 ν2, Inv μ2 ν2 → NJ φ room_1 Q (LI φ adA adB μ2 ν2) k n 4 988 (Lc b adA adB i) []) : NJ φ room_1 Q (LI φ adA adB μ ν) k n 4 627 (Lc b adA adB i) [] := by
  obtain ⟨r, μ2, ν2, e1, e2, I2⟩ := drawn_agree (xs (i + 1)) (xs (i + 2)) μ ν I
  refine NJ.aload_n (i := 1) (x := adA 0 0) E.1 dL_law_627 rfl rfl ?_
  refine NJ.larg (j := 1) E rfl (by decide) hi dL_law_628 dL_law_629 dL_law_630 dL_law_631 dL_law_632 ?_
  refine NJ.larg (j := 2) E rfl (by decide) hi dL_law_633 dL_law_634 dL_law_635 dL_law_636 dL_law_637 ?_
  refine NJ.lcA (As := [.int (xs (i + 1)), .int (xs (i + 2))]) E ck_RL_85 (S_drawn_ct e1) ⟨Nat.le_of_ble_eq_true rfl, Nat.le_of_ble_eq_true rfl⟩ rfl rfl rfl (Nat.le_of_ble_eq_true rfl) hk hn dL_law_638 ?_
  refine NJ.aload_n (i := 2) (x := adB 0 0) E.1 dL_law_641 rfl rfl ?_
  refine NJ.larg (j := 1) E rfl (by decide) hi dL_law_642 dL_law_643 dL_law_644 dL_law_645 dL_law_646 ?_
  refine NJ.larg (j := 2) E rfl (by decide) hi dL_law_647 dL_law_648 dL_law_649 dL_law_650 dL_law_651 ?_
  refine NJ.lcB (As := [.int (xs (i + 1)), .int (xs (i + 2))]) E ck_RL_88 (M_drawn_ct e2) ⟨Nat.le_of_ble_eq_true rfl, Nat.le_of_ble_eq_true rfl⟩ rfl rfl rfl (Nat.le_of_ble_eq_true rfl) hk hn dL_law_652 ?_
  exact NJ.icmp_eq (tgt := 988) E.1 dL_law_655 (by decide) (fun _ => kk _ _ I2) (fun h => absurd rfl h)
theorem law_18 {i : Nat} (E : LE φ b Ln xs adA adB) (hi : i + 6 ≤ Ln) (I : Inv μ ν) (hk : k ≤ room_1.cells) (hn : n ≤ room_1.slots) (kk : ∀ μ2 ν2, Inv μ2 ν2 → NJ φ room_1 Q (LI φ adA adB μ2 ν2) k n 4 988 (Lc b adA adB i) []) : NJ φ room_1 Q (LI φ adA adB μ ν) k n 4 660 (Lc b adA adB i) [] := by
  obtain ⟨r, μ2, ν2, e1, e2, I2⟩ := chance_agree (xs (i + 1)) (xs (i + 2)) (xs (i + 3)) I
  refine NJ.aload_n (i := 1) (x := adA 0 0) E.1 dL_law_660 rfl rfl ?_
  refine NJ.larg (j := 1) E rfl (by decide) hi dL_law_661 dL_law_662 dL_law_663 dL_law_664 dL_law_665 ?_
  refine NJ.larg (j := 2) E rfl (by decide) hi dL_law_666 dL_law_667 dL_law_668 dL_law_669 dL_law_670 ?_
  refine NJ.larg (j := 3) E rfl (by decide) hi dL_law_671 dL_law_672 dL_law_673 dL_law_674 dL_law_675 ?_
  refine NJ.lcA (As := [.int (xs (i + 1)), .int (xs (i + 2)), .int (xs (i + 3))]) E ck_RL_89 (S_chance_ct e1) ⟨Nat.le_of_ble_eq_true rfl, Nat.le_of_ble_eq_true rfl⟩ rfl rfl rfl (Nat.le_of_ble_eq_true rfl) hk hn dL_law_676 ?_
  refine NJ.aload_n (i := 2) (x := adB 0 0) E.1 dL_law_679 rfl rfl ?_
  refine NJ.larg (j := 1) E rfl (by decide) hi dL_law_680 dL_law_681 dL_law_682 dL_law_683 dL_law_684 ?_
  refine NJ.larg (j := 2) E rfl (by decide) hi dL_law_685 dL_law_686 dL_law_687 dL_law_688 dL_law_689 ?_
  refine NJ.larg (j := 3) E rfl (by decide) hi dL_law_690 dL_law_691 dL_law_692 dL_law_693 dL_law_694 ?_
  refine NJ.lcB (As := [.int (xs (i + 1)), .int (xs (i + 2)), .int (xs (i + 3))]) E ck_RL_93 (M_chance_ct e2) ⟨Nat.le_of_ble_eq_true rfl, Nat.le_of_ble_eq_true rfl⟩ rfl rfl rfl (Nat.le_of_ble_eq_true rfl) hk hn dL_law_695 ?_
  refine NJ.lcmp E.1 dL_law_698 ?_
  rw [show lg_cmp r r = 0 by simp [lg_cmp]]
  exact NJ.if_eq (tgt := 988) E.1 dL_law_699 (by decide) (fun _ => kk _ _ I2) (fun h => absurd rfl h)
theorem law_19 {i : Nat} (E : LE φ b Ln xs adA adB) (hi : i + 6 ≤ Ln) (I : Inv μ ν) (hk : k ≤ room_1.cells) (hn : n ≤ room_1.slots) (kk : ∀ μ2 ν2, Inv μ2 ν2 → NJ φ room_1 Q (LI φ adA adB μ2 ν2) k n 4 988 (Lc b adA adB i) []) : NJ φ room_1 Q (LI φ adA adB μ ν) k n 4 704 (Lc b adA adB i) [] := by
  obtain ⟨r, μ2, ν2, e1, e2, I2⟩ := image_agree  μ ν I
  refine NJ.aload_n (i := 1) (x := adA 0 0) E.1 dL_law_704 rfl rfl ?_
  refine NJ.lcA (As := []) E ck_RL_94 (S_image_ct e1) ⟨Nat.le_of_ble_eq_true rfl, Nat.le_of_ble_eq_true rfl⟩ rfl rfl rfl (Nat.le_of_ble_eq_true rfl) hk hn dL_law_705 ?_
  refine NJ.aload_n (i := 2) (x := adB 0 0) E.1 dL_law_708 rfl rfl ?_
  refine NJ.lcB (As := []) E ck_RL_97 (M_image_ct e2) ⟨Nat.le_of_ble_eq_true rfl, Nat.le_of_ble_eq_true rfl⟩ rfl rfl rfl (Nat.le_of_ble_eq_true rfl) hk hn dL_law_709 ?_
  exact NJ.icmp_eq (tgt := 988) E.1 dL_law_712 (by decide) (fun _ => kk _ _ I2) (fun h => absurd rfl h)
theorem law_20 {i : Nat} (E : LE φ b Ln xs adA adB) (hi : i + 6 ≤ Ln) (I : Inv μ ν) (hk : k ≤ room_1.cells) (hn : n ≤ room_1.slots) (kk : ∀ μ2 ν2, Inv μ2 ν2 → NJ φ room_1 Q (LI φ adA adB μ2 ν2) k n 4 988 (Lc b adA adB i) []) : NJ φ room_1 Q (LI φ adA adB μ ν) k n 4 717 (Lc b adA adB i) [] := by
  obtain ⟨r, μ2, ν2, e1, e2, I2⟩ := back_agree  μ ν I
  refine NJ.aload_n (i := 1) (x := adA 0 0) E.1 dL_law_717 rfl rfl ?_
  refine NJ.lcA (As := []) E ck_RL_98 (S_back_ct e1) ⟨Nat.le_of_ble_eq_true rfl, Nat.le_of_ble_eq_true rfl⟩ rfl rfl rfl (Nat.le_of_ble_eq_true rfl) hk hn dL_law_718 ?_
  refine NJ.aload_n (i := 2) (x := adB 0 0) E.1 dL_law_721 rfl rfl ?_
  refine NJ.lcB (As := []) E ck_RL_101 (M_back_ct e2) ⟨Nat.le_of_ble_eq_true rfl, Nat.le_of_ble_eq_true rfl⟩ rfl rfl rfl (Nat.le_of_ble_eq_true rfl) hk hn dL_law_722 ?_
  exact NJ.icmp_eq (tgt := 988) E.1 dL_law_725 (by decide) (fun _ => kk _ _ I2) (fun h => absurd rfl h)
theorem law_21 {i : Nat} (E : LE φ b Ln xs adA adB) (hi : i + 6 ≤ Ln) (I : Inv μ ν) (hk : k ≤ room_1.cells) (hn : n ≤ room_1.slots) (kk : ∀ μ2 ν2, Inv μ2 ν2 → NJ φ room_1 Q (LI φ adA adB μ2 ν2) k n 4 988 (Lc b adA adB i) []) : NJ φ room_1 Q (LI φ adA adB μ ν) k n 4 730 (Lc b adA adB i) [] := by
  have I2 := I
  obtain ⟨r, e1, e2⟩ := count_agree (xs (i + 1)) I
  refine NJ.aload_n (i := 1) (x := adA 0 0) E.1 dL_law_730 rfl rfl ?_
  refine NJ.larg (j := 1) E rfl (by decide) hi dL_law_731 dL_law_732 dL_law_733 dL_law_734 dL_law_735 ?_
  refine NJ.lcA (As := [.int (xs (i + 1))]) E ck_RL_102 (S_count_ct e1) ⟨Nat.le_of_ble_eq_true rfl, Nat.le_of_ble_eq_true rfl⟩ rfl rfl rfl (Nat.le_of_ble_eq_true rfl) hk hn dL_law_736 ?_
  refine NJ.aload_n (i := 2) (x := adB 0 0) E.1 dL_law_739 rfl rfl ?_
  refine NJ.larg (j := 1) E rfl (by decide) hi dL_law_740 dL_law_741 dL_law_742 dL_law_743 dL_law_744 ?_
  refine NJ.lcB (As := [.int (xs (i + 1))]) E ck_RL_105 (M_count_ct e2) ⟨Nat.le_of_ble_eq_true rfl, Nat.le_of_ble_eq_true rfl⟩ rfl rfl rfl (Nat.le_of_ble_eq_true rfl) hk hn dL_law_745 ?_
  exact NJ.icmp_eq (tgt := 988) E.1 dL_law_748 (by decide) (fun _ => kk _ _ I2) (fun h => absurd rfl h)
theorem law_22 {i : Nat} (E : LE φ b Ln xs adA adB) (hi : i + 6 ≤ Ln) (I : Inv μ ν) (hk : k ≤ room_1.cells) (hn : n ≤ room_1.slots) (kk : ∀ μ2 ν2, Inv μ2 ν2 → NJ φ room_1 Q (LI φ adA adB μ2 ν2) k n 4 988 (Lc b adA adB i) []) : NJ φ room_1 Q (LI φ adA adB μ ν) k n 4 753 (Lc b adA adB i) [] := by
  obtain ⟨r, μ2, ν2, e1, e2, I2⟩ := sheet_agree (xs (i + 1)) (xs (i + 2)) (xs (i + 3)) μ ν I
  refine NJ.aload_n (i := 1) (x := adA 0 0) E.1 dL_law_753 rfl rfl ?_
  refine NJ.larg (j := 1) E rfl (by decide) hi dL_law_754 dL_law_755 dL_law_756 dL_law_757 dL_law_758 ?_
  refine NJ.larg (j := 2) E rfl (by decide) hi dL_law_759 dL_law_760 dL_law_761 dL_law_762 dL_law_763 ?_
  refine NJ.larg (j := 3) E rfl (by decide) hi dL_law_764 dL_law_765 dL_law_766 dL_law_767 dL_law_768 ?_
  refine NJ.lcA (As := [.int (xs (i + 1)), .int (xs (i + 2)), .int (xs (i + 3))]) E ck_RL_106 (S_sheet_ct e1) ⟨Nat.le_of_ble_eq_true rfl, Nat.le_of_ble_eq_true rfl⟩ rfl rfl rfl (Nat.le_of_ble_eq_true rfl) hk hn dL_law_769 ?_
  refine NJ.aload_n (i := 2) (x := adB 0 0) E.1 dL_law_772 rfl rfl ?_
  refine NJ.larg (j := 1) E rfl (by decide) hi dL_law_773 dL_law_774 dL_law_775 dL_law_776 dL_law_777 ?_
  refine NJ.larg (j := 2) E rfl (by decide) hi dL_law_778 dL_law_779 dL_law_780 dL_law_781 dL_law_782 ?_
  refine NJ.larg (j := 3) E rfl (by decide) hi dL_law_783 dL_law_784 dL_law_785 dL_law_786 dL_law_787 ?_
  refine NJ.lcB (As := [.int (xs (i + 1)), .int (xs (i + 2)), .int (xs (i + 3))]) E ck_RL_109 (M_sheet_ct e2) ⟨Nat.le_of_ble_eq_true rfl, Nat.le_of_ble_eq_true rfl⟩ rfl rfl rfl (Nat.le_of_ble_eq_true rfl) hk hn dL_law_788 ?_
  exact NJ.icmp_eq (tgt := 988) E.1 dL_law_791 (by decide) (fun _ => kk _ _ I2) (fun h => absurd rfl h)
theorem law_23 {i : Nat} (E : LE φ b Ln xs adA adB) (hi : i + 6 ≤ Ln) (I : Inv μ ν) (hk : k ≤ room_1.cells) (hn : n ≤ room_1.slots) (kk : ∀ μ2 ν2, Inv μ2 ν2 → NJ φ room_1 Q (LI φ adA adB μ2 ν2) k n 4 988 (Lc b adA adB i) []) : NJ φ room_1 Q (LI φ adA adB μ ν) k n 4 796 (Lc b adA adB i) [] := by
  obtain ⟨r, μ2, ν2, e1, e2, I2⟩ := cell_agree (xs (i + 1)) (xs (i + 2)) (xs (i + 3)) μ ν I
  refine NJ.aload_n (i := 1) (x := adA 0 0) E.1 dL_law_796 rfl rfl ?_
  refine NJ.larg (j := 1) E rfl (by decide) hi dL_law_797 dL_law_798 dL_law_799 dL_law_800 dL_law_801 ?_
  refine NJ.larg (j := 2) E rfl (by decide) hi dL_law_802 dL_law_803 dL_law_804 dL_law_805 dL_law_806 ?_
  refine NJ.larg (j := 3) E rfl (by decide) hi dL_law_807 dL_law_808 dL_law_809 dL_law_810 dL_law_811 ?_
  refine NJ.lcA (As := [.int (xs (i + 1)), .int (xs (i + 2)), .int (xs (i + 3))]) E ck_RL_110 (S_cell_ct e1) ⟨Nat.le_of_ble_eq_true rfl, Nat.le_of_ble_eq_true rfl⟩ rfl rfl rfl (Nat.le_of_ble_eq_true rfl) hk hn dL_law_812 ?_
  refine NJ.aload_n (i := 2) (x := adB 0 0) E.1 dL_law_815 rfl rfl ?_
  refine NJ.larg (j := 1) E rfl (by decide) hi dL_law_816 dL_law_817 dL_law_818 dL_law_819 dL_law_820 ?_
  refine NJ.larg (j := 2) E rfl (by decide) hi dL_law_821 dL_law_822 dL_law_823 dL_law_824 dL_law_825 ?_
  refine NJ.larg (j := 3) E rfl (by decide) hi dL_law_826 dL_law_827 dL_law_828 dL_law_829 dL_law_830 ?_
  refine NJ.lcB (As := [.int (xs (i + 1)), .int (xs (i + 2)), .int (xs (i + 3))]) E ck_RL_113 (M_cell_ct e2) ⟨Nat.le_of_ble_eq_true rfl, Nat.le_of_ble_eq_true rfl⟩ rfl rfl rfl (Nat.le_of_ble_eq_true rfl) hk hn dL_law_831 ?_
  exact NJ.icmp_eq (tgt := 988) E.1 dL_law_834 (by decide) (fun _ => kk _ _ I2) (fun h => absurd rfl h)
theorem law_24 {i : Nat} (E : LE φ b Ln xs adA adB) (hi : i + 6 ≤ Ln) (I : Inv μ ν) (hk : k ≤ room_1.cells) (hn : n ≤ room_1.slots) (kk : ∀ μ2 ν2, Inv μ2 ν2 → NJ φ room_1 Q (LI φ adA adB μ2 ν2) k n 4 988 (Lc b adA adB i) []) : NJ φ room_1 Q (LI φ adA adB μ ν) k n 4 839 (Lc b adA adB i) [] := by
  obtain ⟨r, μ2, ν2, e1, e2, I2⟩ := copy_agree (xs (i + 1)) (xs (i + 2)) (xs (i + 3)) (xs (i + 4)) (xs (i + 5)) μ ν I
  refine NJ.aload_n (i := 1) (x := adA 0 0) E.1 dL_law_839 rfl rfl ?_
  refine NJ.larg (j := 1) E rfl (by decide) hi dL_law_840 dL_law_841 dL_law_842 dL_law_843 dL_law_844 ?_
  refine NJ.larg (j := 2) E rfl (by decide) hi dL_law_845 dL_law_846 dL_law_847 dL_law_848 dL_law_849 ?_
  refine NJ.larg (j := 3) E rfl (by decide) hi dL_law_850 dL_law_851 dL_law_852 dL_law_853 dL_law_854 ?_
  refine NJ.larg (j := 4) E rfl (by decide) hi dL_law_855 dL_law_856 dL_law_857 dL_law_858 dL_law_859 ?_
  refine NJ.larg (j := 5) E rfl (by decide) hi dL_law_860 dL_law_861 dL_law_862 dL_law_863 dL_law_864 ?_
  refine NJ.lcA (As := [.int (xs (i + 1)), .int (xs (i + 2)), .int (xs (i + 3)), .int (xs (i + 4)), .int (xs (i + 5))]) E ck_RL_114 (S_copy_ct e1) ⟨Nat.le_of_ble_eq_true rfl, Nat.le_of_ble_eq_true rfl⟩ rfl rfl rfl (Nat.le_of_ble_eq_true rfl) hk hn dL_law_865 ?_
  refine NJ.aload_n (i := 2) (x := adB 0 0) E.1 dL_law_868 rfl rfl ?_
  refine NJ.larg (j := 1) E rfl (by decide) hi dL_law_869 dL_law_870 dL_law_871 dL_law_872 dL_law_873 ?_
  refine NJ.larg (j := 2) E rfl (by decide) hi dL_law_874 dL_law_875 dL_law_876 dL_law_877 dL_law_878 ?_
  refine NJ.larg (j := 3) E rfl (by decide) hi dL_law_879 dL_law_880 dL_law_881 dL_law_882 dL_law_883 ?_
  refine NJ.larg (j := 4) E rfl (by decide) hi dL_law_884 dL_law_885 dL_law_886 dL_law_887 dL_law_888 ?_
  refine NJ.larg (j := 5) E rfl (by decide) hi dL_law_889 dL_law_890 dL_law_891 dL_law_892 dL_law_893 ?_
  refine NJ.lcB (As := [.int (xs (i + 1)), .int (xs (i + 2)), .int (xs (i + 3)), .int (xs (i + 4)), .int (xs (i + 5))]) E ck_RL_118 (M_copy_ct e2) ⟨Nat.le_of_ble_eq_true rfl, Nat.le_of_ble_eq_true rfl⟩ rfl rfl rfl (Nat.le_of_ble_eq_true rfl) hk hn dL_law_894 ?_
  exact NJ.icmp_eq (tgt := 988) E.1 dL_law_897 (by decide) (fun _ => kk _ _ I2) (fun h => absurd rfl h)
theorem law_25 {i : Nat} (E : LE φ b Ln xs adA adB) (hi : i + 6 ≤ Ln) (I : Inv μ ν) (hk : k ≤ room_1.cells) (hn : n ≤ room_1.slots) (kk : ∀ μ2 ν2, Inv μ2 ν2 → NJ φ room_1 Q (LI φ adA adB μ2 ν2) k n 4 988 (Lc b adA adB i) []) : NJ φ room_1 Q (LI φ adA adB μ ν) k n 4 902 (Lc b adA adB i) [] := by
  obtain ⟨r, μ2, ν2, e1, e2, I2⟩ := grooms_agree (xs (i + 1)) (xs (i + 2)) (xs (i + 3)) (xs (i + 4)) μ ν I
  refine NJ.aload_n (i := 1) (x := adA 0 0) E.1 dL_law_902 rfl rfl ?_
  refine NJ.larg (j := 1) E rfl (by decide) hi dL_law_903 dL_law_904 dL_law_905 dL_law_906 dL_law_907 ?_
  refine NJ.larg (j := 2) E rfl (by decide) hi dL_law_908 dL_law_909 dL_law_910 dL_law_911 dL_law_912 ?_
  refine NJ.larg (j := 3) E rfl (by decide) hi dL_law_913 dL_law_914 dL_law_915 dL_law_916 dL_law_917 ?_
  refine NJ.larg (j := 4) E rfl (by decide) hi dL_law_918 dL_law_919 dL_law_920 dL_law_921 dL_law_922 ?_
  refine NJ.lcA (As := [.int (xs (i + 1)), .int (xs (i + 2)), .int (xs (i + 3)), .int (xs (i + 4))]) E ck_RL_119 (S_grooms_ct e1) ⟨Nat.le_of_ble_eq_true rfl, Nat.le_of_ble_eq_true rfl⟩ rfl rfl rfl (Nat.le_of_ble_eq_true rfl) hk hn dL_law_923 ?_
  refine NJ.aload_n (i := 2) (x := adB 0 0) E.1 dL_law_926 rfl rfl ?_
  refine NJ.larg (j := 1) E rfl (by decide) hi dL_law_927 dL_law_928 dL_law_929 dL_law_930 dL_law_931 ?_
  refine NJ.larg (j := 2) E rfl (by decide) hi dL_law_932 dL_law_933 dL_law_934 dL_law_935 dL_law_936 ?_
  refine NJ.larg (j := 3) E rfl (by decide) hi dL_law_937 dL_law_938 dL_law_939 dL_law_940 dL_law_941 ?_
  refine NJ.larg (j := 4) E rfl (by decide) hi dL_law_942 dL_law_943 dL_law_944 dL_law_945 dL_law_946 ?_
  refine NJ.lcB (As := [.int (xs (i + 1)), .int (xs (i + 2)), .int (xs (i + 3)), .int (xs (i + 4))]) E ck_RL_123 (M_grooms_ct e2) ⟨Nat.le_of_ble_eq_true rfl, Nat.le_of_ble_eq_true rfl⟩ rfl rfl rfl (Nat.le_of_ble_eq_true rfl) hk hn dL_law_947 ?_
  exact NJ.icmp_eq (tgt := 988) E.1 dL_law_950 (by decide) (fun _ => kk _ _ I2) (fun h => absurd rfl h)
theorem law_26 {i : Nat} (E : LE φ b Ln xs adA adB) (hi : i + 6 ≤ Ln) (I : Inv μ ν) (hk : k ≤ room_1.cells) (hn : n ≤ room_1.slots) (kk : ∀ μ2 ν2, Inv μ2 ν2 → NJ φ room_1 Q (LI φ adA adB μ2 ν2) k n 4 988 (Lc b adA adB i) []) : NJ φ room_1 Q (LI φ adA adB μ ν) k n 4 955 (Lc b adA adB i) [] := by
  have I2 := I
  obtain ⟨r, e1, e2⟩ := taken_agree (xs (i + 1)) (xs (i + 2)) I
  refine NJ.aload_n (i := 1) (x := adA 0 0) E.1 dL_law_955 rfl rfl ?_
  refine NJ.larg (j := 1) E rfl (by decide) hi dL_law_956 dL_law_957 dL_law_958 dL_law_959 dL_law_960 ?_
  refine NJ.larg (j := 2) E rfl (by decide) hi dL_law_961 dL_law_962 dL_law_963 dL_law_964 dL_law_965 ?_
  refine NJ.lcA (As := [.int (xs (i + 1)), .int (xs (i + 2))]) E ck_RL_124 (S_taken_ct e1) ⟨Nat.le_of_ble_eq_true rfl, Nat.le_of_ble_eq_true rfl⟩ rfl rfl rfl (Nat.le_of_ble_eq_true rfl) hk hn dL_law_966 ?_
  refine NJ.aload_n (i := 2) (x := adB 0 0) E.1 dL_law_969 rfl rfl ?_
  refine NJ.larg (j := 1) E rfl (by decide) hi dL_law_970 dL_law_971 dL_law_972 dL_law_973 dL_law_974 ?_
  refine NJ.larg (j := 2) E rfl (by decide) hi dL_law_975 dL_law_976 dL_law_977 dL_law_978 dL_law_979 ?_
  refine NJ.lcB (As := [.int (xs (i + 1)), .int (xs (i + 2))]) E ck_RL_127 (M_taken_ct e2) ⟨Nat.le_of_ble_eq_true rfl, Nat.le_of_ble_eq_true rfl⟩ rfl rfl rfl (Nat.le_of_ble_eq_true rfl) hk hn dL_law_980 ?_
  exact NJ.icmp_eq (tgt := 988) E.1 dL_law_983 (by decide) (fun _ => kk _ _ I2) (fun h => absurd rfl h)
set_option maxRecDepth 10000 in
theorem law_body {i : Nat} (E : LE φ b Ln xs adA adB) (hi : i + 6 ≤ Ln) (I : Inv μ ν) (hk : k ≤ room_1.cells) (hn : n ≤ room_1.slots) (kk : ∀ μ2 ν2, Inv μ2 ν2 → NJ φ room_1 Q (LI φ adA adB μ2 ν2) k n 4 988 (Lc b adA adB i) []) : NJ φ room_1 Q (LI φ adA adB μ ν) k n 4 27 (Lc b adA adB i) [] := by
  have hL := E.2.1.2.2
  refine NJ.aload_n (i := 0) (x := b) E.1 dL_law_27 rfl rfl ?_
  refine NJ.iload_n (i := 3) (x := nI i) E.1 dL_law_28 rfl rfl ?_
  refine NJ.lld E (vp_in_nI (by omega) (by omega)) dL_law_29 ?_
  refine NJ.bipush (v := 31) E.1 dL_law_30 (by decide) ?_
  refine NJ.iand E.1 dL_law_32 ?_
  generalize xs (nI i).toNatClampNeg &&& 31 = x
  by_cases hb : x.toInt < 0 ∨ 26 < x.toInt
  · exact NJ.tabOut (tgt := 988) E.1 dL_law_33 hb (by decide) (kk μ ν I)
  · rcases (show x.toInt = 0 ∨ x.toInt = 1 ∨ x.toInt = 2 ∨ x.toInt = 3 ∨ x.toInt = 4 ∨ x.toInt = 5 ∨ x.toInt = 6 ∨ x.toInt = 7 ∨ x.toInt = 8 ∨ x.toInt = 9 ∨ x.toInt = 10 ∨ x.toInt = 11 ∨ x.toInt = 12 ∨ x.toInt = 13 ∨ x.toInt = 14 ∨ x.toInt = 15 ∨ x.toInt = 16 ∨ x.toInt = 17 ∨ x.toInt = 18 ∨ x.toInt = 19 ∨ x.toInt = 20 ∨ x.toInt = 21 ∨ x.toInt = 22 ∨ x.toInt = 23 ∨ x.toInt = 24 ∨ x.toInt = 25 ∨ x.toInt = 26 by omega) with h | h | h | h | h | h | h | h | h | h | h | h | h | h | h | h | h | h | h | h | h | h | h | h | h | h | h
    · exact NJ.tabIn (off := 123) (tgt := 156) E.1 dL_law_33 (by rw [h]; decide) (by rw [h]; decide) (by rw [h]; rfl) (by decide) (law_0 E hi I hk hn kk)
    · exact NJ.tabIn (off := 166) (tgt := 199) E.1 dL_law_33 (by rw [h]; decide) (by rw [h]; decide) (by rw [h]; rfl) (by decide) (law_1 E hi I hk hn kk)
    · exact NJ.tabIn (off := 209) (tgt := 242) E.1 dL_law_33 (by rw [h]; decide) (by rw [h]; decide) (by rw [h]; rfl) (by decide) (law_2 E hi I hk hn kk)
    · exact NJ.tabIn (off := 242) (tgt := 275) E.1 dL_law_33 (by rw [h]; decide) (by rw [h]; decide) (by rw [h]; rfl) (by decide) (law_3 E hi I hk hn kk)
    · exact NJ.tabIn (off := 275) (tgt := 308) E.1 dL_law_33 (by rw [h]; decide) (by rw [h]; decide) (by rw [h]; rfl) (by decide) (law_4 E hi I hk hn kk)
    · exact NJ.tabIn (off := 298) (tgt := 331) E.1 dL_law_33 (by rw [h]; decide) (by rw [h]; decide) (by rw [h]; rfl) (by decide) (law_5 E hi I hk hn kk)
    · exact NJ.tabIn (off := 311) (tgt := 344) E.1 dL_law_33 (by rw [h]; decide) (by rw [h]; decide) (by rw [h]; rfl) (by decide) (law_6 E hi I hk hn kk)
    · exact NJ.tabIn (off := 334) (tgt := 367) E.1 dL_law_33 (by rw [h]; decide) (by rw [h]; decide) (by rw [h]; rfl) (by decide) (law_7 E hi I hk hn kk)
    · exact NJ.tabIn (off := 347) (tgt := 380) E.1 dL_law_33 (by rw [h]; decide) (by rw [h]; decide) (by rw [h]; rfl) (by decide) (law_8 E hi I hk hn kk)
    · exact NJ.tabIn (off := 380) (tgt := 413) E.1 dL_law_33 (by rw [h]; decide) (by rw [h]; decide) (by rw [h]; rfl) (by decide) (law_9 E hi I hk hn kk)
    · exact NJ.tabIn (off := 403) (tgt := 436) E.1 dL_law_33 (by rw [h]; decide) (by rw [h]; decide) (by rw [h]; rfl) (by decide) (law_10 E hi I hk hn kk)
    · exact NJ.tabIn (off := 426) (tgt := 459) E.1 dL_law_33 (by rw [h]; decide) (by rw [h]; decide) (by rw [h]; rfl) (by decide) (law_11 E hi I hk hn kk)
    · exact NJ.tabIn (off := 459) (tgt := 492) E.1 dL_law_33 (by rw [h]; decide) (by rw [h]; decide) (by rw [h]; rfl) (by decide) (law_12 E hi I hk hn kk)
    · exact NJ.tabIn (off := 492) (tgt := 525) E.1 dL_law_33 (by rw [h]; decide) (by rw [h]; decide) (by rw [h]; rfl) (by decide) (law_13 E hi I hk hn kk)
    · exact NJ.tabIn (off := 515) (tgt := 548) E.1 dL_law_33 (by rw [h]; decide) (by rw [h]; decide) (by rw [h]; rfl) (by decide) (law_14 E hi I hk hn kk)
    · exact NJ.tabIn (off := 538) (tgt := 571) E.1 dL_law_33 (by rw [h]; decide) (by rw [h]; decide) (by rw [h]; rfl) (by decide) (law_15 E hi I hk hn kk)
    · exact NJ.tabIn (off := 571) (tgt := 604) E.1 dL_law_33 (by rw [h]; decide) (by rw [h]; decide) (by rw [h]; rfl) (by decide) (law_16 E hi I hk hn kk)
    · exact NJ.tabIn (off := 594) (tgt := 627) E.1 dL_law_33 (by rw [h]; decide) (by rw [h]; decide) (by rw [h]; rfl) (by decide) (law_17 E hi I hk hn kk)
    · exact NJ.tabIn (off := 627) (tgt := 660) E.1 dL_law_33 (by rw [h]; decide) (by rw [h]; decide) (by rw [h]; rfl) (by decide) (law_18 E hi I hk hn kk)
    · exact NJ.tabIn (off := 671) (tgt := 704) E.1 dL_law_33 (by rw [h]; decide) (by rw [h]; decide) (by rw [h]; rfl) (by decide) (law_19 E hi I hk hn kk)
    · exact NJ.tabIn (off := 684) (tgt := 717) E.1 dL_law_33 (by rw [h]; decide) (by rw [h]; decide) (by rw [h]; rfl) (by decide) (law_20 E hi I hk hn kk)
    · exact NJ.tabIn (off := 697) (tgt := 730) E.1 dL_law_33 (by rw [h]; decide) (by rw [h]; decide) (by rw [h]; rfl) (by decide) (law_21 E hi I hk hn kk)
    · exact NJ.tabIn (off := 720) (tgt := 753) E.1 dL_law_33 (by rw [h]; decide) (by rw [h]; decide) (by rw [h]; rfl) (by decide) (law_22 E hi I hk hn kk)
    · exact NJ.tabIn (off := 763) (tgt := 796) E.1 dL_law_33 (by rw [h]; decide) (by rw [h]; decide) (by rw [h]; rfl) (by decide) (law_23 E hi I hk hn kk)
    · exact NJ.tabIn (off := 806) (tgt := 839) E.1 dL_law_33 (by rw [h]; decide) (by rw [h]; decide) (by rw [h]; rfl) (by decide) (law_24 E hi I hk hn kk)
    · exact NJ.tabIn (off := 869) (tgt := 902) E.1 dL_law_33 (by rw [h]; decide) (by rw [h]; decide) (by rw [h]; rfl) (by decide) (law_25 E hi I hk hn kk)
    · exact NJ.tabIn (off := 922) (tgt := 955) E.1 dL_law_33 (by rw [h]; decide) (by rw [h]; decide) (by rw [h]; rfl) (by decide) (law_26 E hi I hk hn kk)
theorem law_loop (E : LE φ b Ln xs adA adB) (hk : k ≤ room_1.cells) (hn : n ≤ room_1.slots) (kk : ∀ μ2 ν2 i, NJ φ room_1 Q (LI φ adA adB μ2 ν2) k n 4 994 (Lc b adA adB i) []) : ∀ (d i : Nat) (μ ν : Mem), Ln ≤ i + d → i ≤ Ln → Inv μ ν → NJ φ room_1 Q (LI φ adA adB μ ν) k n 4 18 (Lc b adA adB i) [] := by
  have hL := E.2.1.2.2
  intro d
  induction d with
  | zero =>
    intro i μ ν h1 h2 I
    refine NJ.iload_n (i := 3) (x := nI i) E.1 dL_law_18 rfl rfl ?_
    refine NJ.aload_n (i := 0) (x := b) E.1 dL_law_19 rfl rfl ?_
    refine NJ.llen E dL_law_20 ?_
    refine NJ.bipush (v := 6) E.1 dL_law_21 (by decide) ?_
    refine NJ.isub E.1 dL_law_23 ?_
    exact NJ.icmp_gt (tgt := 994) E.1 dL_law_24 (by decide) (fun _ => kk μ ν i) (fun h => absurd (by rw [nI_head h2 hL]; omega) h)
  | succ d ih =>
    intro i μ ν h1 h2 I
    refine NJ.iload_n (i := 3) (x := nI i) E.1 dL_law_18 rfl rfl ?_
    refine NJ.aload_n (i := 0) (x := b) E.1 dL_law_19 rfl rfl ?_
    refine NJ.llen E dL_law_20 ?_
    refine NJ.bipush (v := 6) E.1 dL_law_21 (by decide) ?_
    refine NJ.isub E.1 dL_law_23 ?_
    refine NJ.icmp_gt (tgt := 994) E.1 dL_law_24 (by decide) (fun _ => kk μ ν i) (fun h => ?_)
    rw [nI_head h2 hL] at h
    refine law_body E (by omega) I hk hn (fun μ2 ν2 I2 => ?_)
    refine NJ.iinc (i := 3) (z := 6) (v := nI (i + 6)) (L' := Lc b adA adB (i + 6)) E.1 dL_law_988 rfl (by decide) (by rw [← nI_add]; rfl) (by decide) rfl rfl ?_
    refine NJ.goto (tgt := 18) E.1 dL_law_991 (by decide) ?_
    exact ih (i + 6) μ2 ν2 (by omega) (by omega) I2
end LROWS
