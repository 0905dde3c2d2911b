/-! ===== the constructors of the inner classes (laid by wip/whole/ctor.py) ===== -/
theorem refL_no4 : (fun _ => none : Nat → Option Nat) = refL [none, none, none, none] := by
  funext j
  unfold refL
  match j with
  | 0 => rfl
  | 1 => rfl
  | 2 => rfl
  | 3 => rfl
  | _ + 4 => rfl
theorem refL_no6 : (fun _ => none : Nat → Option Nat) = refL [none, none, none, none, none, none] := by
  funext j
  unfold refL
  match j with
  | 0 => rfl
  | 1 => rfl
  | 2 => rfl
  | 3 => rfl
  | 4 => rfl
  | 5 => rfl
  | _ + 6 => rfl
theorem wd_39 : Cond.methodLink RX0 1 Lib.objectInit ∈ lw_G := mG 125 (by decide +kernel) rfl
theorem wd_25 : Cond.instanceMethod Lib.objectInit ∈ lw_G := mG 111 (by decide +kernel) rfl
theorem wd_26 : Cond.code Lib.objectInit ⟨#[0xb1]⟩ 1 none ∈ lw_G := mG 112 (by decide +kernel) rfl
theorem wd_40 : Cond.fieldLink RX0 7 "SewnUp$Groom" "kind" "I" ∈ lw_G := mG 126 (by decide +kernel) rfl
theorem wd_42 : Cond.fieldLink RX0 13 "SewnUp$Groom" "number" "I" ∈ lw_G := mG 128 (by decide +kernel) rfl
theorem wd_44 : Cond.fieldLink RX0 16 "SewnUp$Groom" "thing" "I" ∈ lw_G := mG 130 (by decide +kernel) rfl
theorem wd_46 : Cond.fieldLink RX0 19 "SewnUp$Groom" "temper" "I" ∈ lw_G := mG 132 (by decide +kernel) rfl
theorem wd_49 : Cond.fieldLink RX0 22 "SewnUp$Groom" "wears" "I" ∈ lw_G := mG 135 (by decide +kernel) rfl
theorem wd_147 : Cond.methodLink RX2 3 Lib.objectInit ∈ lw_G := mG 233 (by decide +kernel) rfl
theorem wd_148 : Cond.fieldLink RX2 9 "SewnUp$Man" "kind" "I" ∈ lw_G := mG 234 (by decide +kernel) rfl
theorem wd_150 : Cond.fieldLink RX2 15 "SewnUp$Man" "number" "I" ∈ lw_G := mG 236 (by decide +kernel) rfl
theorem wd_152 : Cond.fieldLink RX2 18 "SewnUp$Man" "has" "I" ∈ lw_G := mG 238 (by decide +kernel) rfl
theorem wd_154 : Cond.fieldLink RX2 21 "SewnUp$Man" "temper" "I" ∈ lw_G := mG 240 (by decide +kernel) rfl
theorem wd_156 : Cond.fieldLink RX2 24 "SewnUp$Man" "day" "I" ∈ lw_G := mG 242 (by decide +kernel) rfl
theorem wd_158 : Cond.fieldLink RX2 27 "SewnUp$Man" "coat" "I" ∈ lw_G := mG 244 (by decide +kernel) rfl
theorem wd_160 : Cond.fieldLink RX2 30 "SewnUp$Man" "own" "I" ∈ lw_G := mG 246 (by decide +kernel) rfl
theorem wd_162 : Cond.fieldLink RX2 33 "SewnUp$Man" "boils" "I" ∈ lw_G := mG 248 (by decide +kernel) rfl
theorem wd_164 : Cond.fieldLink RX2 36 "SewnUp$Man" "firstBoil" "I" ∈ lw_G := mG 250 (by decide +kernel) rfl
theorem wd_122 : Cond.arrayClass .int ∈ lw_G := mG 208 (by decide +kernel) rfl
theorem wd_166 : Cond.fieldLink RX2 39 "SewnUp$Man" "names" "[I" ∈ lw_G := mG 252 (by decide +kernel) rfl
theorem wd_214 : Cond.methodLink RX3 3 Lib.objectInit ∈ lw_G := mG 300 (by decide +kernel) rfl
theorem wd_215 : Cond.fieldLink RX3 9 "SewnUp$Pockets" "size" "I" ∈ lw_G := mG 301 (by decide +kernel) rfl
theorem wd_217 : Cond.fieldLink RX3 15 "SewnUp$Pockets" "numbers" "[I" ∈ lw_G := mG 303 (by decide +kernel) rfl
theorem wd_219 : Cond.fieldLink RX3 19 "SewnUp$Pockets" "things" "[I" ∈ lw_G := mG 305 (by decide +kernel) rfl
theorem wd_221 : Cond.fieldLink RX3 22 "SewnUp$Pockets" "opened" "[I" ∈ lw_G := mG 307 (by decide +kernel) rfl
theorem wd_255 : Cond.methodLink RX5 3 Lib.objectInit ∈ lw_G := mG 341 (by decide +kernel) rfl
theorem wd_256 : Cond.fieldLink RX5 9 "SewnUp$Sheet" "sort" "I" ∈ lw_G := mG 342 (by decide +kernel) rfl
theorem wd_258 : Cond.fieldLink RX5 15 "SewnUp$Sheet" "size" "I" ∈ lw_G := mG 344 (by decide +kernel) rfl
theorem wd_260 : Cond.fieldLink RX5 18 "SewnUp$Sheet" "items" "[I" ∈ lw_G := mG 346 (by decide +kernel) rfl
theorem wd_96 : Cond.methodLink RX6 3 Lib.objectInit ∈ lw_G := mG 182 (by decide +kernel) rfl
theorem wd_97 : Cond.fieldLink RX6 9 "SewnUp$Tape" "bytes" "[I" ∈ lw_G := mG 183 (by decide +kernel) rfl
theorem wd_99 : Cond.fieldLink RX6 15 "SewnUp$Tape" "size" "I" ∈ lw_G := mG 185 (by decide +kernel) rfl
theorem wd_102 : Cond.fieldLink RX6 19 "SewnUp$Tape" "tokens" "[I" ∈ lw_G := mG 188 (by decide +kernel) rfl
theorem wd_104 : Cond.fieldLink RX6 22 "SewnUp$Tape" "places" "[I" ∈ lw_G := mG 190 (by decide +kernel) rfl
theorem wd_106 : Cond.fieldLink RX6 25 "SewnUp$Tape" "values" "[I" ∈ lw_G := mG 192 (by decide +kernel) rfl
theorem wd_108 : Cond.fieldLink RX6 28 "SewnUp$Tape" "next" "I" ∈ lw_G := mG 194 (by decide +kernel) rfl
theorem wd_238 : Cond.methodLink RX7 3 Lib.objectInit ∈ lw_G := mG 324 (by decide +kernel) rfl
theorem wd_239 : Cond.fieldLink RX7 9 "SewnUp$Text" "codes" "[I" ∈ lw_G := mG 325 (by decide +kernel) rfl
theorem wd_241 : Cond.fieldLink RX7 15 "SewnUp$Text" "begins" "[I" ∈ lw_G := mG 327 (by decide +kernel) rfl
theorem wd_243 : Cond.fieldLink RX7 18 "SewnUp$Text" "stack" "[I" ∈ lw_G := mG 329 (by decide +kernel) rfl
theorem wd_193 : Cond.methodLink RX8 3 Lib.objectInit ∈ lw_G := mG 279 (by decide +kernel) rfl
theorem wd_194 : Cond.fieldLink RX8 9 "SewnUp$Ways" "size" "I" ∈ lw_G := mG 280 (by decide +kernel) rfl
theorem wd_195 : Cond.fieldLink RX8 15 "SewnUp$Ways" "many" "I" ∈ lw_G := mG 281 (by decide +kernel) rfl
theorem wd_197 : Cond.fieldLink RX8 18 "SewnUp$Ways" "coats" "[I" ∈ lw_G := mG 283 (by decide +kernel) rfl
theorem wd_199 : Cond.fieldLink RX8 22 "SewnUp$Ways" "marked" "[I" ∈ lw_G := mG 285 (by decide +kernel) rfl
theorem wd_90 : Cond.methodLink RX4 3 Lib.objectInit ∈ lw_G := mG 176 (by decide +kernel) rfl
theorem wd_91 : Cond.classLink RX4 9 RX6 ∈ lw_G := mG 177 (by decide +kernel) rfl
theorem wd_92 : Cond.instantiable RX6 6 ∈ lw_G := mG 178 (by decide +kernel) rfl
theorem wd_5 : Cond.initialized RX6 ∈ lw_G := mG 91 (by decide +kernel) rfl
theorem wd_94 : Cond.instanceMethod yX6_init ∈ lw_G := mG 180 (by decide +kernel) rfl
theorem wd_95 : Cond.code yX6_init cX6_init 1 none ∈ lw_G := mG 181 (by decide +kernel) rfl
theorem wd_123 : Cond.fieldLink RX4 12 "SewnUp$Reader" "tape" "LSewnUp$Tape;" ∈ lw_G := mG 209 (by decide +kernel) rfl
theorem wd_125 : Cond.fieldLink RX4 18 "SewnUp$Reader" "into" "LSewnUp$Text;" ∈ lw_G := mG 211 (by decide +kernel) rfl
theorem wd_126 : Cond.fieldLink RX4 22 "SewnUp$Reader" "length" "I" ∈ lw_G := mG 212 (by decide +kernel) rfl
theorem wd_127 : Cond.fieldLink RX4 26 "SewnUp$Reader" "at" "I" ∈ lw_G := mG 213 (by decide +kernel) rfl
theorem wd_128 : Cond.fieldLink RX4 29 "SewnUp$Reader" "token" "I" ∈ lw_G := mG 214 (by decide +kernel) rfl
theorem wd_32 : Cond.methodLink RX1 3 Lib.objectInit ∈ lw_G := mG 118 (by decide +kernel) rfl
theorem wd_62 : Cond.fieldLink RX1 9 "SewnUp$House" "day" "I" ∈ lw_G := mG 148 (by decide +kernel) rfl
theorem wd_64 : Cond.fieldLink RX1 15 "SewnUp$House" "limit" "I" ∈ lw_G := mG 150 (by decide +kernel) rfl
theorem wd_66 : Cond.fieldLink RX1 18 "SewnUp$House" "rule" "I" ∈ lw_G := mG 152 (by decide +kernel) rfl
theorem wd_68 : Cond.fieldLink RX1 21 "SewnUp$House" "size" "I" ∈ lw_G := mG 154 (by decide +kernel) rfl
theorem wd_33 : Cond.classLink RX1 24 RX0 ∈ lw_G := mG 119 (by decide +kernel) rfl
theorem wd_70 : Cond.fieldLink RX1 26 "SewnUp$House" "grooms" "[LSewnUp$Groom;" ∈ lw_G := mG 156 (by decide +kernel) rfl
theorem wd_35 : Cond.instantiable RX0 5 ∈ lw_G := mG 121 (by decide +kernel) rfl
theorem wd_3 : Cond.initialized RX0 ∈ lw_G := mG 89 (by decide +kernel) rfl
theorem wd_37 : Cond.instanceMethod yX0_init ∈ lw_G := mG 123 (by decide +kernel) rfl
theorem wd_38 : Cond.code yX0_init cX0_init 1 none ∈ lw_G := mG 124 (by decide +kernel) rfl
abbrev bG (cy : Nat → ClassId) (a0 : Nat) (u : Nat → Nat) : va_W := [(a0, .inr (0, [.int 0, .int 0, .int 0, .int 0, .int 0]))]
set_option maxHeartbeats 4000000 in
set_option maxRecDepth 100000 in
theorem bG_cc (l : Launch) (G : Glo) : Cc l G 0 0 0 yX0_init cX0_init 1 (.inr (0, [.int 0, .int 0, .int 0, .int 0, .int 0])) (bG G.2.2.1) := by
  refine Cc.intro (by decide) rfl (by decide) ?_
  intro φ a0 A hl hG F
  subst hl
  subst hG
  refine NJ.aload_n (i := 0) (x := a0) F.1 dX0_init_0 rfl rfl ?_
  refine NJ.objInit F wd_39 wd_25 wd_26 dX0_init_1 (Nat.le_of_ble_eq_true rfl) (by decide) ?_
  refine NJ.aload_n (i := 0) (x := a0) F.1 dX0_init_4 rfl rfl ?_
  refine NJ.iconst (v := 0) F.1 dX0_init_5 rfl ?_
  refine NJ.put (q0 := 0) (ci := 0) (kf := 0) (N := 5) (C := RX0) (T := TX0) (ty := tyX0 0) (ws' := [(a0, .inr (0, [.int 0, .int 0, .int 0, .int 0, .int 0]))]) F rfl rfl (by decide) in_RX0 tyX0 tyX0_ok nmX0 wd_40 rfl (tyX0_ok 0 (by decide)) (by exact rfl) (by exact rfl) (Nat.le_of_ble_eq_true rfl) rfl dX0_init_6 ?_
  refine NJ.aload_n (i := 0) (x := a0) F.1 dX0_init_9 rfl rfl ?_
  refine NJ.iconst (v := 0) F.1 dX0_init_10 rfl ?_
  refine NJ.put (q0 := 0) (ci := 0) (kf := 1) (N := 5) (C := RX0) (T := TX0) (ty := tyX0 1) (ws' := [(a0, .inr (0, [.int 0, .int 0, .int 0, .int 0, .int 0]))]) F rfl rfl (by decide) in_RX0 tyX0 tyX0_ok nmX0 wd_42 rfl (tyX0_ok 1 (by decide)) (by exact rfl) (by exact rfl) (Nat.le_of_ble_eq_true rfl) rfl dX0_init_11 ?_
  refine NJ.aload_n (i := 0) (x := a0) F.1 dX0_init_14 rfl rfl ?_
  refine NJ.iconst (v := 0) F.1 dX0_init_15 rfl ?_
  refine NJ.put (q0 := 0) (ci := 0) (kf := 2) (N := 5) (C := RX0) (T := TX0) (ty := tyX0 2) (ws' := [(a0, .inr (0, [.int 0, .int 0, .int 0, .int 0, .int 0]))]) F rfl rfl (by decide) in_RX0 tyX0 tyX0_ok nmX0 wd_44 rfl (tyX0_ok 2 (by decide)) (by exact rfl) (by exact rfl) (Nat.le_of_ble_eq_true rfl) rfl dX0_init_16 ?_
  refine NJ.aload_n (i := 0) (x := a0) F.1 dX0_init_19 rfl rfl ?_
  refine NJ.iconst (v := 0) F.1 dX0_init_20 rfl ?_
  refine NJ.put (q0 := 0) (ci := 0) (kf := 3) (N := 5) (C := RX0) (T := TX0) (ty := tyX0 3) (ws' := [(a0, .inr (0, [.int 0, .int 0, .int 0, .int 0, .int 0]))]) F rfl rfl (by decide) in_RX0 tyX0 tyX0_ok nmX0 wd_46 rfl (tyX0_ok 3 (by decide)) (by exact rfl) (by exact rfl) (Nat.le_of_ble_eq_true rfl) rfl dX0_init_21 ?_
  refine NJ.aload_n (i := 0) (x := a0) F.1 dX0_init_24 rfl rfl ?_
  refine NJ.iconst (v := 0) F.1 dX0_init_25 rfl ?_
  refine NJ.put (q0 := 0) (ci := 0) (kf := 4) (N := 5) (C := RX0) (T := TX0) (ty := tyX0 4) (ws' := [(a0, .inr (0, [.int 0, .int 0, .int 0, .int 0, .int 0]))]) F rfl rfl (by decide) in_RX0 tyX0 tyX0_ok nmX0 wd_49 rfl (tyX0_ok 4 (by decide)) (by exact rfl) (by exact rfl) (Nat.le_of_ble_eq_true rfl) rfl dX0_init_26 ?_
  exact NJ.vret (fun i => [].getD i 0) F (Nat.le_of_ble_eq_true rfl) (Nat.le_of_ble_eq_true rfl) dX0_init_29
abbrev bM (cy : Nat → ClassId) (a0 : Nat) (u : Nat → Nat) : va_W := [(a0, .inr (2, [.int 0, .int 0, .int 0, .int 0, .int 0, .int 0, .int 0, .int 0, .int (-1), .ref (u 0)]))] ++ [((u 0), .inl (cy 0, 6, .inl (fun _ => 0)))]
set_option maxHeartbeats 4000000 in
set_option maxRecDepth 100000 in
theorem bM_cc (l : Launch) (G : Glo) : Cc l G 0 1 6 yX2_init cX2_init 1 (.inr (2, [.int 0, .int 0, .int 0, .int 0, .int 0, .int 0, .int 0, .int 0, .int 0, .null])) (bM G.2.2.1) := by
  refine Cc.intro (by decide) rfl (by decide) ?_
  intro φ a0 A hl hG F
  subst hl
  subst hG
  refine NJ.aload_n (i := 0) (x := a0) F.1 dX2_init_0 rfl rfl ?_
  refine NJ.objInit F wd_147 wd_25 wd_26 dX2_init_1 (Nat.le_of_ble_eq_true rfl) (by decide) ?_
  refine NJ.aload_n (i := 0) (x := a0) F.1 dX2_init_4 rfl rfl ?_
  refine NJ.iconst (v := 0) F.1 dX2_init_5 rfl ?_
  refine NJ.put (q0 := 0) (ci := 2) (kf := 0) (N := 10) (C := RX2) (T := TX2) (ty := tyX2 0) (ws' := [(a0, .inr (2, [.int 0, .int 0, .int 0, .int 0, .int 0, .int 0, .int 0, .int 0, .int 0, .null]))]) F rfl rfl (by decide) in_RX2 tyX2 tyX2_ok nmX2 wd_148 rfl (tyX2_ok 0 (by decide)) (by exact rfl) (by exact rfl) (Nat.le_of_ble_eq_true rfl) rfl dX2_init_6 ?_
  refine NJ.aload_n (i := 0) (x := a0) F.1 dX2_init_9 rfl rfl ?_
  refine NJ.iconst (v := 0) F.1 dX2_init_10 rfl ?_
  refine NJ.put (q0 := 0) (ci := 2) (kf := 1) (N := 10) (C := RX2) (T := TX2) (ty := tyX2 1) (ws' := [(a0, .inr (2, [.int 0, .int 0, .int 0, .int 0, .int 0, .int 0, .int 0, .int 0, .int 0, .null]))]) F rfl rfl (by decide) in_RX2 tyX2 tyX2_ok nmX2 wd_150 rfl (tyX2_ok 1 (by decide)) (by exact rfl) (by exact rfl) (Nat.le_of_ble_eq_true rfl) rfl dX2_init_11 ?_
  refine NJ.aload_n (i := 0) (x := a0) F.1 dX2_init_14 rfl rfl ?_
  refine NJ.iconst (v := 0) F.1 dX2_init_15 rfl ?_
  refine NJ.put (q0 := 0) (ci := 2) (kf := 2) (N := 10) (C := RX2) (T := TX2) (ty := tyX2 2) (ws' := [(a0, .inr (2, [.int 0, .int 0, .int 0, .int 0, .int 0, .int 0, .int 0, .int 0, .int 0, .null]))]) F rfl rfl (by decide) in_RX2 tyX2 tyX2_ok nmX2 wd_152 rfl (tyX2_ok 2 (by decide)) (by exact rfl) (by exact rfl) (Nat.le_of_ble_eq_true rfl) rfl dX2_init_16 ?_
  refine NJ.aload_n (i := 0) (x := a0) F.1 dX2_init_19 rfl rfl ?_
  refine NJ.iconst (v := 0) F.1 dX2_init_20 rfl ?_
  refine NJ.put (q0 := 0) (ci := 2) (kf := 3) (N := 10) (C := RX2) (T := TX2) (ty := tyX2 3) (ws' := [(a0, .inr (2, [.int 0, .int 0, .int 0, .int 0, .int 0, .int 0, .int 0, .int 0, .int 0, .null]))]) F rfl rfl (by decide) in_RX2 tyX2 tyX2_ok nmX2 wd_154 rfl (tyX2_ok 3 (by decide)) (by exact rfl) (by exact rfl) (Nat.le_of_ble_eq_true rfl) rfl dX2_init_21 ?_
  refine NJ.aload_n (i := 0) (x := a0) F.1 dX2_init_24 rfl rfl ?_
  refine NJ.iconst (v := 0) F.1 dX2_init_25 rfl ?_
  refine NJ.put (q0 := 0) (ci := 2) (kf := 4) (N := 10) (C := RX2) (T := TX2) (ty := tyX2 4) (ws' := [(a0, .inr (2, [.int 0, .int 0, .int 0, .int 0, .int 0, .int 0, .int 0, .int 0, .int 0, .null]))]) F rfl rfl (by decide) in_RX2 tyX2 tyX2_ok nmX2 wd_156 rfl (tyX2_ok 4 (by decide)) (by exact rfl) (by exact rfl) (Nat.le_of_ble_eq_true rfl) rfl dX2_init_26 ?_
  refine NJ.aload_n (i := 0) (x := a0) F.1 dX2_init_29 rfl rfl ?_
  refine NJ.iconst (v := 0) F.1 dX2_init_30 rfl ?_
  refine NJ.put (q0 := 0) (ci := 2) (kf := 5) (N := 10) (C := RX2) (T := TX2) (ty := tyX2 5) (ws' := [(a0, .inr (2, [.int 0, .int 0, .int 0, .int 0, .int 0, .int 0, .int 0, .int 0, .int 0, .null]))]) F rfl rfl (by decide) in_RX2 tyX2 tyX2_ok nmX2 wd_158 rfl (tyX2_ok 5 (by decide)) (by exact rfl) (by exact rfl) (Nat.le_of_ble_eq_true rfl) rfl dX2_init_31 ?_
  refine NJ.aload_n (i := 0) (x := a0) F.1 dX2_init_34 rfl rfl ?_
  refine NJ.iconst (v := 0) F.1 dX2_init_35 rfl ?_
  refine NJ.put (q0 := 0) (ci := 2) (kf := 6) (N := 10) (C := RX2) (T := TX2) (ty := tyX2 6) (ws' := [(a0, .inr (2, [.int 0, .int 0, .int 0, .int 0, .int 0, .int 0, .int 0, .int 0, .int 0, .null]))]) F rfl rfl (by decide) in_RX2 tyX2 tyX2_ok nmX2 wd_160 rfl (tyX2_ok 6 (by decide)) (by exact rfl) (by exact rfl) (Nat.le_of_ble_eq_true rfl) rfl dX2_init_36 ?_
  refine NJ.aload_n (i := 0) (x := a0) F.1 dX2_init_39 rfl rfl ?_
  refine NJ.iconst (v := 0) F.1 dX2_init_40 rfl ?_
  refine NJ.put (q0 := 0) (ci := 2) (kf := 7) (N := 10) (C := RX2) (T := TX2) (ty := tyX2 7) (ws' := [(a0, .inr (2, [.int 0, .int 0, .int 0, .int 0, .int 0, .int 0, .int 0, .int 0, .int 0, .null]))]) F rfl rfl (by decide) in_RX2 tyX2 tyX2_ok nmX2 wd_162 rfl (tyX2_ok 7 (by decide)) (by exact rfl) (by exact rfl) (Nat.le_of_ble_eq_true rfl) rfl dX2_init_41 ?_
  refine NJ.aload_n (i := 0) (x := a0) F.1 dX2_init_44 rfl rfl ?_
  refine NJ.iconst (v := (-1)) F.1 dX2_init_45 rfl ?_
  refine NJ.put (q0 := 0) (ci := 2) (kf := 8) (N := 10) (C := RX2) (T := TX2) (ty := tyX2 8) (ws' := [(a0, .inr (2, [.int 0, .int 0, .int 0, .int 0, .int 0, .int 0, .int 0, .int 0, .int (-1), .null]))]) F rfl rfl (by decide) in_RX2 tyX2 tyX2_ok nmX2 wd_164 rfl (tyX2_ok 8 (by decide)) (by exact rfl) (by exact rfl) (Nat.le_of_ble_eq_true rfl) rfl dX2_init_46 ?_
  refine NJ.aload_n (i := 0) (x := a0) F.1 dX2_init_49 rfl rfl ?_
  refine NJ.bipush (v := 6) F.1 dX2_init_50 (by decide) ?_
  refine NJ.newi (N := 6) F wd_122 (by decide) (by decide) (by decide) (Nat.le_of_ble_eq_true rfl) (Nat.le_of_ble_eq_true rfl) dX2_init_52 (fun q0 => ?_)
  refine NJ.putF (q0 := 0) (ci := 2) (kf := 9) (N := 10) (C := RX2) (T := TX2) (ty := tyX2 9) (ws' := [(a0, .inr (2, [.int 0, .int 0, .int 0, .int 0, .int 0, .int 0, .int 0, .int 0, .int (-1), .ref q0]))] ++ [(q0, .inl ((gl φ).2.2.1 0, 6, .inl (fun _ => 0)))]) F rfl rfl (by decide) in_RX2 tyX2 tyX2_ok nmX2 wd_166 rfl rfl (tyX2_ok 9 (by decide)) (by exact rfl) (by exact rfl) (Nat.le_of_ble_eq_true rfl) rfl dX2_init_54 ?_
  exact NJ.vret (fun i => [q0].getD i 0) F (Nat.le_of_ble_eq_true rfl) (Nat.le_of_ble_eq_true rfl) dX2_init_57
abbrev bP (cy : Nat → ClassId) (a0 : Nat) (u : Nat → Nat) : va_W := [(a0, .inr (3, [.int 0, .ref (u 0), .ref (u 1), .ref (u 2)]))] ++ [((u 0), .inl (cy 0, 6, .inl (fun _ => 0)))] ++ [((u 1), .inl (cy 0, 6, .inl (fun _ => 0)))] ++ [((u 2), .inl (cy 0, 6, .inl (fun _ => 0)))]
set_option maxHeartbeats 4000000 in
set_option maxRecDepth 100000 in
theorem bP_cc (l : Launch) (G : Glo) : Cc l G 0 3 18 yX3_init cX3_init 1 (.inr (3, [.int 0, .null, .null, .null])) (bP G.2.2.1) := by
  refine Cc.intro (by decide) rfl (by decide) ?_
  intro φ a0 A hl hG F
  subst hl
  subst hG
  refine NJ.aload_n (i := 0) (x := a0) F.1 dX3_init_0 rfl rfl ?_
  refine NJ.objInit F wd_214 wd_25 wd_26 dX3_init_1 (Nat.le_of_ble_eq_true rfl) (by decide) ?_
  refine NJ.aload_n (i := 0) (x := a0) F.1 dX3_init_4 rfl rfl ?_
  refine NJ.iconst (v := 0) F.1 dX3_init_5 rfl ?_
  refine NJ.put (q0 := 0) (ci := 3) (kf := 0) (N := 4) (C := RX3) (T := TX3) (ty := tyX3 0) (ws' := [(a0, .inr (3, [.int 0, .null, .null, .null]))]) F rfl rfl (by decide) in_RX3 tyX3 tyX3_ok nmX3 wd_215 rfl (tyX3_ok 0 (by decide)) (by exact rfl) (by exact rfl) (Nat.le_of_ble_eq_true rfl) rfl dX3_init_6 ?_
  refine NJ.aload_n (i := 0) (x := a0) F.1 dX3_init_9 rfl rfl ?_
  refine NJ.bipush (v := 6) F.1 dX3_init_10 (by decide) ?_
  refine NJ.newi (N := 6) F wd_122 (by decide) (by decide) (by decide) (Nat.le_of_ble_eq_true rfl) (Nat.le_of_ble_eq_true rfl) dX3_init_12 (fun q0 => ?_)
  refine NJ.putF (q0 := 0) (ci := 3) (kf := 1) (N := 4) (C := RX3) (T := TX3) (ty := tyX3 1) (ws' := [(a0, .inr (3, [.int 0, .ref q0, .null, .null]))] ++ [(q0, .inl ((gl φ).2.2.1 0, 6, .inl (fun _ => 0)))]) F rfl rfl (by decide) in_RX3 tyX3 tyX3_ok nmX3 wd_217 rfl rfl (tyX3_ok 1 (by decide)) (by exact rfl) (by exact rfl) (Nat.le_of_ble_eq_true rfl) rfl dX3_init_14 ?_
  refine NJ.aload_n (i := 0) (x := a0) F.1 dX3_init_17 rfl rfl ?_
  refine NJ.bipush (v := 6) F.1 dX3_init_18 (by decide) ?_
  refine NJ.newi (N := 6) F wd_122 (by decide) (by decide) (by decide) (Nat.le_of_ble_eq_true rfl) (Nat.le_of_ble_eq_true rfl) dX3_init_20 (fun q1 => ?_)
  refine NJ.putF (q0 := 0) (ci := 3) (kf := 2) (N := 4) (C := RX3) (T := TX3) (ty := tyX3 2) (ws' := [(a0, .inr (3, [.int 0, .ref q0, .ref q1, .null]))] ++ [(q0, .inl ((gl φ).2.2.1 0, 6, .inl (fun _ => 0)))] ++ [(q1, .inl ((gl φ).2.2.1 0, 6, .inl (fun _ => 0)))]) F rfl rfl (by decide) in_RX3 tyX3 tyX3_ok nmX3 wd_219 rfl rfl (tyX3_ok 2 (by decide)) (by exact rfl) (by exact rfl) (Nat.le_of_ble_eq_true rfl) rfl dX3_init_22 ?_
  refine NJ.aload_n (i := 0) (x := a0) F.1 dX3_init_25 rfl rfl ?_
  refine NJ.bipush (v := 6) F.1 dX3_init_26 (by decide) ?_
  refine NJ.newi (N := 6) F wd_122 (by decide) (by decide) (by decide) (Nat.le_of_ble_eq_true rfl) (Nat.le_of_ble_eq_true rfl) dX3_init_28 (fun q2 => ?_)
  refine NJ.putF (q0 := 0) (ci := 3) (kf := 3) (N := 4) (C := RX3) (T := TX3) (ty := tyX3 3) (ws' := [(a0, .inr (3, [.int 0, .ref q0, .ref q1, .ref q2]))] ++ [(q0, .inl ((gl φ).2.2.1 0, 6, .inl (fun _ => 0)))] ++ [(q1, .inl ((gl φ).2.2.1 0, 6, .inl (fun _ => 0)))] ++ [(q2, .inl ((gl φ).2.2.1 0, 6, .inl (fun _ => 0)))]) F rfl rfl (by decide) in_RX3 tyX3 tyX3_ok nmX3 wd_221 rfl rfl (tyX3_ok 3 (by decide)) (by exact rfl) (by exact rfl) (Nat.le_of_ble_eq_true rfl) rfl dX3_init_30 ?_
  exact NJ.vret (fun i => [q0, q1, q2].getD i 0) F (Nat.le_of_ble_eq_true rfl) (Nat.le_of_ble_eq_true rfl) dX3_init_33
abbrev bS (cy : Nat → ClassId) (a0 : Nat) (u : Nat → Nat) : va_W := [(a0, .inr (5, [.int (-1), .int 0, .ref (u 0)]))] ++ [((u 0), .inl (cy 0, 40, .inl (fun _ => 0)))]
set_option maxHeartbeats 4000000 in
set_option maxRecDepth 100000 in
theorem bS_cc (l : Launch) (G : Glo) : Cc l G 0 1 40 yX5_init cX5_init 1 (.inr (5, [.int 0, .int 0, .null])) (bS G.2.2.1) := by
  refine Cc.intro (by decide) rfl (by decide) ?_
  intro φ a0 A hl hG F
  subst hl
  subst hG
  refine NJ.aload_n (i := 0) (x := a0) F.1 dX5_init_0 rfl rfl ?_
  refine NJ.objInit F wd_255 wd_25 wd_26 dX5_init_1 (Nat.le_of_ble_eq_true rfl) (by decide) ?_
  refine NJ.aload_n (i := 0) (x := a0) F.1 dX5_init_4 rfl rfl ?_
  refine NJ.iconst (v := (-1)) F.1 dX5_init_5 rfl ?_
  refine NJ.put (q0 := 0) (ci := 5) (kf := 0) (N := 3) (C := RX5) (T := TX5) (ty := tyX5 0) (ws' := [(a0, .inr (5, [.int (-1), .int 0, .null]))]) F rfl rfl (by decide) in_RX5 tyX5 tyX5_ok nmX5 wd_256 rfl (tyX5_ok 0 (by decide)) (by exact rfl) (by exact rfl) (Nat.le_of_ble_eq_true rfl) rfl dX5_init_6 ?_
  refine NJ.aload_n (i := 0) (x := a0) F.1 dX5_init_9 rfl rfl ?_
  refine NJ.iconst (v := 0) F.1 dX5_init_10 rfl ?_
  refine NJ.put (q0 := 0) (ci := 5) (kf := 1) (N := 3) (C := RX5) (T := TX5) (ty := tyX5 1) (ws' := [(a0, .inr (5, [.int (-1), .int 0, .null]))]) F rfl rfl (by decide) in_RX5 tyX5 tyX5_ok nmX5 wd_258 rfl (tyX5_ok 1 (by decide)) (by exact rfl) (by exact rfl) (Nat.le_of_ble_eq_true rfl) rfl dX5_init_11 ?_
  refine NJ.aload_n (i := 0) (x := a0) F.1 dX5_init_14 rfl rfl ?_
  refine NJ.bipush (v := 40) F.1 dX5_init_15 (by decide) ?_
  refine NJ.newi (N := 40) F wd_122 (by decide) (by decide) (by decide) (Nat.le_of_ble_eq_true rfl) (Nat.le_of_ble_eq_true rfl) dX5_init_17 (fun q0 => ?_)
  refine NJ.putF (q0 := 0) (ci := 5) (kf := 2) (N := 3) (C := RX5) (T := TX5) (ty := tyX5 2) (ws' := [(a0, .inr (5, [.int (-1), .int 0, .ref q0]))] ++ [(q0, .inl ((gl φ).2.2.1 0, 40, .inl (fun _ => 0)))]) F rfl rfl (by decide) in_RX5 tyX5 tyX5_ok nmX5 wd_260 rfl rfl (tyX5_ok 2 (by decide)) (by exact rfl) (by exact rfl) (Nat.le_of_ble_eq_true rfl) rfl dX5_init_19 ?_
  exact NJ.vret (fun i => [q0].getD i 0) F (Nat.le_of_ble_eq_true rfl) (Nat.le_of_ble_eq_true rfl) dX5_init_22
abbrev bTp (cy : Nat → ClassId) (a0 : Nat) (u : Nat → Nat) : va_W := [(a0, .inr (6, [.ref (u 0), .int 0, .ref (u 1), .ref (u 2), .ref (u 3), .int 0]))] ++ [((u 0), .inl (cy 0, 160, .inl (fun _ => 0)))] ++ [((u 1), .inl (cy 0, 161, .inl (fun _ => 0)))] ++ [((u 2), .inl (cy 0, 161, .inl (fun _ => 0)))] ++ [((u 3), .inl (cy 0, 161, .inl (fun _ => 0)))]
set_option maxHeartbeats 4000000 in
set_option maxRecDepth 100000 in
theorem bTp_cc (l : Launch) (G : Glo) : Cc l G 0 4 643 yX6_init cX6_init 1 (.inr (6, [.null, .int 0, .null, .null, .null, .int 0])) (bTp G.2.2.1) := by
  refine Cc.intro (by decide) rfl (by decide) ?_
  intro φ a0 A hl hG F
  subst hl
  subst hG
  refine NJ.aload_n (i := 0) (x := a0) F.1 dX6_init_0 rfl rfl ?_
  refine NJ.objInit F wd_96 wd_25 wd_26 dX6_init_1 (Nat.le_of_ble_eq_true rfl) (by decide) ?_
  refine NJ.aload_n (i := 0) (x := a0) F.1 dX6_init_4 rfl rfl ?_
  refine NJ.sipush (v := 160) F.1 dX6_init_5 (by decide) ?_
  refine NJ.newi (N := 160) F wd_122 (by decide) (by decide) (by decide) (Nat.le_of_ble_eq_true rfl) (Nat.le_of_ble_eq_true rfl) dX6_init_8 (fun q0 => ?_)
  refine NJ.putF (q0 := 0) (ci := 6) (kf := 0) (N := 6) (C := RX6) (T := TX6) (ty := tyX6 0) (ws' := [(a0, .inr (6, [.ref q0, .int 0, .null, .null, .null, .int 0]))] ++ [(q0, .inl ((gl φ).2.2.1 0, 160, .inl (fun _ => 0)))]) F rfl rfl (by decide) in_RX6 tyX6 tyX6_ok nmX6 wd_97 rfl rfl (tyX6_ok 0 (by decide)) (by exact rfl) (by exact rfl) (Nat.le_of_ble_eq_true rfl) rfl dX6_init_10 ?_
  refine NJ.aload_n (i := 0) (x := a0) F.1 dX6_init_13 rfl rfl ?_
  refine NJ.iconst (v := 0) F.1 dX6_init_14 rfl ?_
  refine NJ.put (q0 := 0) (ci := 6) (kf := 1) (N := 6) (C := RX6) (T := TX6) (ty := tyX6 1) (ws' := [(a0, .inr (6, [.ref q0, .int 0, .null, .null, .null, .int 0]))] ++ [(q0, .inl ((gl φ).2.2.1 0, 160, .inl (fun _ => 0)))]) F rfl rfl (by decide) in_RX6 tyX6 tyX6_ok nmX6 wd_99 rfl (tyX6_ok 1 (by decide)) (by exact rfl) (by exact rfl) (Nat.le_of_ble_eq_true rfl) rfl dX6_init_15 ?_
  refine NJ.aload_n (i := 0) (x := a0) F.1 dX6_init_18 rfl rfl ?_
  refine NJ.sipush (v := 161) F.1 dX6_init_19 (by decide) ?_
  refine NJ.newi (N := 161) F wd_122 (by decide) (by decide) (by decide) (Nat.le_of_ble_eq_true rfl) (Nat.le_of_ble_eq_true rfl) dX6_init_22 (fun q1 => ?_)
  refine NJ.putF (q0 := 0) (ci := 6) (kf := 2) (N := 6) (C := RX6) (T := TX6) (ty := tyX6 2) (ws' := [(a0, .inr (6, [.ref q0, .int 0, .ref q1, .null, .null, .int 0]))] ++ [(q0, .inl ((gl φ).2.2.1 0, 160, .inl (fun _ => 0)))] ++ [(q1, .inl ((gl φ).2.2.1 0, 161, .inl (fun _ => 0)))]) F rfl rfl (by decide) in_RX6 tyX6 tyX6_ok nmX6 wd_102 rfl rfl (tyX6_ok 2 (by decide)) (by exact rfl) (by exact rfl) (Nat.le_of_ble_eq_true rfl) rfl dX6_init_24 ?_
  refine NJ.aload_n (i := 0) (x := a0) F.1 dX6_init_27 rfl rfl ?_
  refine NJ.sipush (v := 161) F.1 dX6_init_28 (by decide) ?_
  refine NJ.newi (N := 161) F wd_122 (by decide) (by decide) (by decide) (Nat.le_of_ble_eq_true rfl) (Nat.le_of_ble_eq_true rfl) dX6_init_31 (fun q2 => ?_)
  refine NJ.putF (q0 := 0) (ci := 6) (kf := 3) (N := 6) (C := RX6) (T := TX6) (ty := tyX6 3) (ws' := [(a0, .inr (6, [.ref q0, .int 0, .ref q1, .ref q2, .null, .int 0]))] ++ [(q0, .inl ((gl φ).2.2.1 0, 160, .inl (fun _ => 0)))] ++ [(q1, .inl ((gl φ).2.2.1 0, 161, .inl (fun _ => 0)))] ++ [(q2, .inl ((gl φ).2.2.1 0, 161, .inl (fun _ => 0)))]) F rfl rfl (by decide) in_RX6 tyX6 tyX6_ok nmX6 wd_104 rfl rfl (tyX6_ok 3 (by decide)) (by exact rfl) (by exact rfl) (Nat.le_of_ble_eq_true rfl) rfl dX6_init_33 ?_
  refine NJ.aload_n (i := 0) (x := a0) F.1 dX6_init_36 rfl rfl ?_
  refine NJ.sipush (v := 161) F.1 dX6_init_37 (by decide) ?_
  refine NJ.newi (N := 161) F wd_122 (by decide) (by decide) (by decide) (Nat.le_of_ble_eq_true rfl) (Nat.le_of_ble_eq_true rfl) dX6_init_40 (fun q3 => ?_)
  refine NJ.putF (q0 := 0) (ci := 6) (kf := 4) (N := 6) (C := RX6) (T := TX6) (ty := tyX6 4) (ws' := [(a0, .inr (6, [.ref q0, .int 0, .ref q1, .ref q2, .ref q3, .int 0]))] ++ [(q0, .inl ((gl φ).2.2.1 0, 160, .inl (fun _ => 0)))] ++ [(q1, .inl ((gl φ).2.2.1 0, 161, .inl (fun _ => 0)))] ++ [(q2, .inl ((gl φ).2.2.1 0, 161, .inl (fun _ => 0)))] ++ [(q3, .inl ((gl φ).2.2.1 0, 161, .inl (fun _ => 0)))]) F rfl rfl (by decide) in_RX6 tyX6 tyX6_ok nmX6 wd_106 rfl rfl (tyX6_ok 4 (by decide)) (by exact rfl) (by exact rfl) (Nat.le_of_ble_eq_true rfl) rfl dX6_init_42 ?_
  refine NJ.aload_n (i := 0) (x := a0) F.1 dX6_init_45 rfl rfl ?_
  refine NJ.iconst (v := 0) F.1 dX6_init_46 rfl ?_
  refine NJ.put (q0 := 0) (ci := 6) (kf := 5) (N := 6) (C := RX6) (T := TX6) (ty := tyX6 5) (ws' := [(a0, .inr (6, [.ref q0, .int 0, .ref q1, .ref q2, .ref q3, .int 0]))] ++ [(q0, .inl ((gl φ).2.2.1 0, 160, .inl (fun _ => 0)))] ++ [(q1, .inl ((gl φ).2.2.1 0, 161, .inl (fun _ => 0)))] ++ [(q2, .inl ((gl φ).2.2.1 0, 161, .inl (fun _ => 0)))] ++ [(q3, .inl ((gl φ).2.2.1 0, 161, .inl (fun _ => 0)))]) F rfl rfl (by decide) in_RX6 tyX6 tyX6_ok nmX6 wd_108 rfl (tyX6_ok 5 (by decide)) (by exact rfl) (by exact rfl) (Nat.le_of_ble_eq_true rfl) rfl dX6_init_47 ?_
  exact NJ.vret (fun i => [q0, q1, q2, q3].getD i 0) F (Nat.le_of_ble_eq_true rfl) (Nat.le_of_ble_eq_true rfl) dX6_init_50
abbrev bT (cy : Nat → ClassId) (a0 : Nat) (u : Nat → Nat) : va_W := [(a0, .inr (7, [.ref (u 0), .ref (u 1), .ref (u 2)]))] ++ [((u 0), .inl (cy 0, 160, .inl (fun _ => 0)))] ++ [((u 1), .inl (cy 0, 4, .inl (fun _ => 0)))] ++ [((u 2), .inl (cy 0, 160, .inl (fun _ => 0)))]
set_option maxHeartbeats 4000000 in
set_option maxRecDepth 100000 in
theorem bT_cc (l : Launch) (G : Glo) : Cc l G 0 3 324 yX7_init cX7_init 1 (.inr (7, [.null, .null, .null])) (bT G.2.2.1) := by
  refine Cc.intro (by decide) rfl (by decide) ?_
  intro φ a0 A hl hG F
  subst hl
  subst hG
  refine NJ.aload_n (i := 0) (x := a0) F.1 dX7_init_0 rfl rfl ?_
  refine NJ.objInit F wd_238 wd_25 wd_26 dX7_init_1 (Nat.le_of_ble_eq_true rfl) (by decide) ?_
  refine NJ.aload_n (i := 0) (x := a0) F.1 dX7_init_4 rfl rfl ?_
  refine NJ.sipush (v := 160) F.1 dX7_init_5 (by decide) ?_
  refine NJ.newi (N := 160) F wd_122 (by decide) (by decide) (by decide) (Nat.le_of_ble_eq_true rfl) (Nat.le_of_ble_eq_true rfl) dX7_init_8 (fun q0 => ?_)
  refine NJ.putF (q0 := 0) (ci := 7) (kf := 0) (N := 3) (C := RX7) (T := TX7) (ty := tyX7 0) (ws' := [(a0, .inr (7, [.ref q0, .null, .null]))] ++ [(q0, .inl ((gl φ).2.2.1 0, 160, .inl (fun _ => 0)))]) F rfl rfl (by decide) in_RX7 tyX7 tyX7_ok nmX7 wd_239 rfl rfl (tyX7_ok 0 (by decide)) (by exact rfl) (by exact rfl) (Nat.le_of_ble_eq_true rfl) rfl dX7_init_10 ?_
  refine NJ.aload_n (i := 0) (x := a0) F.1 dX7_init_13 rfl rfl ?_
  refine NJ.iconst (v := 4) F.1 dX7_init_14 rfl ?_
  refine NJ.newi (N := 4) F wd_122 (by decide) (by decide) (by decide) (Nat.le_of_ble_eq_true rfl) (Nat.le_of_ble_eq_true rfl) dX7_init_15 (fun q1 => ?_)
  refine NJ.putF (q0 := 0) (ci := 7) (kf := 1) (N := 3) (C := RX7) (T := TX7) (ty := tyX7 1) (ws' := [(a0, .inr (7, [.ref q0, .ref q1, .null]))] ++ [(q0, .inl ((gl φ).2.2.1 0, 160, .inl (fun _ => 0)))] ++ [(q1, .inl ((gl φ).2.2.1 0, 4, .inl (fun _ => 0)))]) F rfl rfl (by decide) in_RX7 tyX7 tyX7_ok nmX7 wd_241 rfl rfl (tyX7_ok 1 (by decide)) (by exact rfl) (by exact rfl) (Nat.le_of_ble_eq_true rfl) rfl dX7_init_17 ?_
  refine NJ.aload_n (i := 0) (x := a0) F.1 dX7_init_20 rfl rfl ?_
  refine NJ.sipush (v := 160) F.1 dX7_init_21 (by decide) ?_
  refine NJ.newi (N := 160) F wd_122 (by decide) (by decide) (by decide) (Nat.le_of_ble_eq_true rfl) (Nat.le_of_ble_eq_true rfl) dX7_init_24 (fun q2 => ?_)
  refine NJ.putF (q0 := 0) (ci := 7) (kf := 2) (N := 3) (C := RX7) (T := TX7) (ty := tyX7 2) (ws' := [(a0, .inr (7, [.ref q0, .ref q1, .ref q2]))] ++ [(q0, .inl ((gl φ).2.2.1 0, 160, .inl (fun _ => 0)))] ++ [(q1, .inl ((gl φ).2.2.1 0, 4, .inl (fun _ => 0)))] ++ [(q2, .inl ((gl φ).2.2.1 0, 160, .inl (fun _ => 0)))]) F rfl rfl (by decide) in_RX7 tyX7 tyX7_ok nmX7 wd_243 rfl rfl (tyX7_ok 2 (by decide)) (by exact rfl) (by exact rfl) (Nat.le_of_ble_eq_true rfl) rfl dX7_init_26 ?_
  exact NJ.vret (fun i => [q0, q1, q2].getD i 0) F (Nat.le_of_ble_eq_true rfl) (Nat.le_of_ble_eq_true rfl) dX7_init_29
abbrev bW (cy : Nat → ClassId) (a0 : Nat) (u : Nat → Nat) : va_W := [(a0, .inr (8, [.int 0, .int 1, .ref (u 0), .ref (u 1)]))] ++ [((u 0), .inl (cy 0, 6, .inl (fun _ => 0)))] ++ [((u 1), .inl (cy 0, 6, .inl (fun _ => 0)))]
set_option maxHeartbeats 4000000 in
set_option maxRecDepth 100000 in
theorem bW_cc (l : Launch) (G : Glo) : Cc l G 0 2 12 yX8_init cX8_init 1 (.inr (8, [.int 0, .int 0, .null, .null])) (bW G.2.2.1) := by
  refine Cc.intro (by decide) rfl (by decide) ?_
  intro φ a0 A hl hG F
  subst hl
  subst hG
  refine NJ.aload_n (i := 0) (x := a0) F.1 dX8_init_0 rfl rfl ?_
  refine NJ.objInit F wd_193 wd_25 wd_26 dX8_init_1 (Nat.le_of_ble_eq_true rfl) (by decide) ?_
  refine NJ.aload_n (i := 0) (x := a0) F.1 dX8_init_4 rfl rfl ?_
  refine NJ.iconst (v := 0) F.1 dX8_init_5 rfl ?_
  refine NJ.put (q0 := 0) (ci := 8) (kf := 0) (N := 4) (C := RX8) (T := TX8) (ty := tyX8 0) (ws' := [(a0, .inr (8, [.int 0, .int 0, .null, .null]))]) F rfl rfl (by decide) in_RX8 tyX8 tyX8_ok nmX8 wd_194 rfl (tyX8_ok 0 (by decide)) (by exact rfl) (by exact rfl) (Nat.le_of_ble_eq_true rfl) rfl dX8_init_6 ?_
  refine NJ.aload_n (i := 0) (x := a0) F.1 dX8_init_9 rfl rfl ?_
  refine NJ.iconst (v := 1) F.1 dX8_init_10 rfl ?_
  refine NJ.put (q0 := 0) (ci := 8) (kf := 1) (N := 4) (C := RX8) (T := TX8) (ty := tyX8 1) (ws' := [(a0, .inr (8, [.int 0, .int 1, .null, .null]))]) F rfl rfl (by decide) in_RX8 tyX8 tyX8_ok nmX8 wd_195 rfl (tyX8_ok 1 (by decide)) (by exact rfl) (by exact rfl) (Nat.le_of_ble_eq_true rfl) rfl dX8_init_11 ?_
  refine NJ.aload_n (i := 0) (x := a0) F.1 dX8_init_14 rfl rfl ?_
  refine NJ.bipush (v := 6) F.1 dX8_init_15 (by decide) ?_
  refine NJ.newi (N := 6) F wd_122 (by decide) (by decide) (by decide) (Nat.le_of_ble_eq_true rfl) (Nat.le_of_ble_eq_true rfl) dX8_init_17 (fun q0 => ?_)
  refine NJ.putF (q0 := 0) (ci := 8) (kf := 2) (N := 4) (C := RX8) (T := TX8) (ty := tyX8 2) (ws' := [(a0, .inr (8, [.int 0, .int 1, .ref q0, .null]))] ++ [(q0, .inl ((gl φ).2.2.1 0, 6, .inl (fun _ => 0)))]) F rfl rfl (by decide) in_RX8 tyX8 tyX8_ok nmX8 wd_197 rfl rfl (tyX8_ok 2 (by decide)) (by exact rfl) (by exact rfl) (Nat.le_of_ble_eq_true rfl) rfl dX8_init_19 ?_
  refine NJ.aload_n (i := 0) (x := a0) F.1 dX8_init_22 rfl rfl ?_
  refine NJ.bipush (v := 6) F.1 dX8_init_23 (by decide) ?_
  refine NJ.newi (N := 6) F wd_122 (by decide) (by decide) (by decide) (Nat.le_of_ble_eq_true rfl) (Nat.le_of_ble_eq_true rfl) dX8_init_25 (fun q1 => ?_)
  refine NJ.putF (q0 := 0) (ci := 8) (kf := 3) (N := 4) (C := RX8) (T := TX8) (ty := tyX8 3) (ws' := [(a0, .inr (8, [.int 0, .int 1, .ref q0, .ref q1]))] ++ [(q0, .inl ((gl φ).2.2.1 0, 6, .inl (fun _ => 0)))] ++ [(q1, .inl ((gl φ).2.2.1 0, 6, .inl (fun _ => 0)))]) F rfl rfl (by decide) in_RX8 tyX8 tyX8_ok nmX8 wd_199 rfl rfl (tyX8_ok 3 (by decide)) (by exact rfl) (by exact rfl) (Nat.le_of_ble_eq_true rfl) rfl dX8_init_27 ?_
  exact NJ.vret (fun i => [q0, q1].getD i 0) F (Nat.le_of_ble_eq_true rfl) (Nat.le_of_ble_eq_true rfl) dX8_init_30
abbrev bR (cy : Nat → ClassId) (a0 : Nat) (u : Nat → Nat) : va_W := [(a0, .inr (4, [.ref (u 0), .null, .int 0, .int 0, .int 13]))] ++ bTp cy (u 0) (fun i => u (i + 1))
set_option maxHeartbeats 4000000 in
set_option maxRecDepth 100000 in
theorem bR_cc (l : Launch) (G : Glo) : Cc l G 1 5 649 yX4_init cX4_init 1 (.inr (4, [.null, .null, .int 0, .int 0, .int 0])) (bR G.2.2.1) := by
  refine Cc.intro (by decide) rfl (by decide) ?_
  intro φ a0 A hl hG F
  subst hl
  subst hG
  refine NJ.aload_n (i := 0) (x := a0) F.1 dX4_init_0 rfl rfl ?_
  refine NJ.objInit F wd_90 wd_25 wd_26 dX4_init_1 (Nat.le_of_ble_eq_true rfl) (by decide) ?_
  refine NJ.aload_n (i := 0) (x := a0) F.1 dX4_init_4 rfl rfl ?_
  refine NJ.new (ci := 6) (N := 6) (fs := [.null, .int 0, .null, .null, .null, .int 0]) F tyX6 rfl in_RX6 tyX6_ok wd_91 wd_92 wd_5 (by decide) (Nat.le_of_ble_eq_true rfl) (Nat.le_of_ble_eq_true rfl) dX4_init_5 (fun q0 => ?_)
  refine NJ.dup F.1 dX4_init_8 rfl ?_
  refine NJ.ctorN F (bTp_cc _ _) (List.mem_of_getElem? (l := nestL) (i := 2) rfl) wd_94 wd_5 wd_95 rfl (by decide +kernel) (rmC_fit (by decide) (by decide)) (Nat.le_of_ble_eq_true rfl) (Nat.le_of_ble_eq_true rfl) (Nat.le_of_ble_eq_true rfl) dX4_init_9 (fun u0 => ?_)
  refine NJ.putF (q0 := 0) (ci := 4) (kf := 0) (N := 5) (C := RX4) (T := TX4) (ty := tyX4 0) (ws' := [(a0, .inr (4, [.ref q0, .null, .int 0, .int 0, .int 0]))] ++ bTp (gl φ).2.2.1 q0 u0) F rfl rfl (by decide) in_RX4 tyX4 tyX4_ok nmX4 wd_123 rfl rfl (tyX4_ok 0 (by decide)) (by exact rfl) (by exact rfl) (Nat.le_of_ble_eq_true rfl) rfl dX4_init_12 ?_
  refine NJ.aload_n (i := 0) (x := a0) F.1 dX4_init_15 rfl rfl ?_
  refine NJ.null F.1 dX4_init_16 ?_
  refine NJ.put (q0 := 0) (ci := 4) (kf := 1) (N := 5) (C := RX4) (T := TX4) (ty := tyX4 1) (ws' := [(a0, .inr (4, [.ref q0, .null, .int 0, .int 0, .int 0]))] ++ bTp (gl φ).2.2.1 q0 u0) F rfl rfl (by decide) in_RX4 tyX4 tyX4_ok nmX4 wd_125 rfl (tyX4_ok 1 (by decide)) (by exact rfl) (by exact rfl) (Nat.le_of_ble_eq_true rfl) rfl dX4_init_17 ?_
  refine NJ.aload_n (i := 0) (x := a0) F.1 dX4_init_20 rfl rfl ?_
  refine NJ.iconst (v := 0) F.1 dX4_init_21 rfl ?_
  refine NJ.put (q0 := 0) (ci := 4) (kf := 2) (N := 5) (C := RX4) (T := TX4) (ty := tyX4 2) (ws' := [(a0, .inr (4, [.ref q0, .null, .int 0, .int 0, .int 0]))] ++ bTp (gl φ).2.2.1 q0 u0) F rfl rfl (by decide) in_RX4 tyX4 tyX4_ok nmX4 wd_126 rfl (tyX4_ok 2 (by decide)) (by exact rfl) (by exact rfl) (Nat.le_of_ble_eq_true rfl) rfl dX4_init_22 ?_
  refine NJ.aload_n (i := 0) (x := a0) F.1 dX4_init_25 rfl rfl ?_
  refine NJ.iconst (v := 0) F.1 dX4_init_26 rfl ?_
  refine NJ.put (q0 := 0) (ci := 4) (kf := 3) (N := 5) (C := RX4) (T := TX4) (ty := tyX4 3) (ws' := [(a0, .inr (4, [.ref q0, .null, .int 0, .int 0, .int 0]))] ++ bTp (gl φ).2.2.1 q0 u0) F rfl rfl (by decide) in_RX4 tyX4 tyX4_ok nmX4 wd_127 rfl (tyX4_ok 3 (by decide)) (by exact rfl) (by exact rfl) (Nat.le_of_ble_eq_true rfl) rfl dX4_init_27 ?_
  refine NJ.aload_n (i := 0) (x := a0) F.1 dX4_init_30 rfl rfl ?_
  refine NJ.bipush (v := 13) F.1 dX4_init_31 (by decide) ?_
  refine NJ.put (q0 := 0) (ci := 4) (kf := 4) (N := 5) (C := RX4) (T := TX4) (ty := tyX4 4) (ws' := [(a0, .inr (4, [.ref q0, .null, .int 0, .int 0, .int 13]))] ++ bTp (gl φ).2.2.1 q0 u0) F rfl rfl (by decide) in_RX4 tyX4 tyX4_ok nmX4 wd_128 rfl (tyX4_ok 4 (by decide)) (by exact rfl) (by exact rfl) (Nat.le_of_ble_eq_true rfl) rfl dX4_init_33 ?_
  exact NJ.vret (fun i => if i < 1 then [q0].getD i 0 else u0 (i - 1)) F (Nat.le_of_ble_eq_true rfl) (Nat.le_of_ble_eq_true rfl) dX4_init_36
abbrev bH (cy : Nat → ClassId) (a0 : Nat) (u : Nat → Nat) : va_W := [(a0, .inr (1, [.int 0, .int 60, .int 0, .int 0, .ref (u 0)]))] ++ [((u 0), .inl (cy 2, 6, .inr (.inr (.inr (.inr (refL [some (u 1), some (u 2), some (u 3), some (u 4), some (u 5), some (u 6)]))))))] ++ bG cy (u 1) (fun i => u (i + 7)) ++ bG cy (u 2) (fun i => u (i + 7)) ++ bG cy (u 3) (fun i => u (i + 7)) ++ bG cy (u 4) (fun i => u (i + 7)) ++ bG cy (u 5) (fun i => u (i + 7)) ++ bG cy (u 6) (fun i => u (i + 7))
set_option maxHeartbeats 4000000 in
set_option maxRecDepth 100000 in
theorem bH_cc (l : Launch) (G : Glo) : Cc l G 1 7 36 yX1_init cX1_init 2 (.inr (1, [.int 0, .int 0, .int 0, .int 0, .null])) (bH G.2.2.1) := by
  refine Cc.intro (by decide) rfl (by decide) ?_
  intro φ a0 A hl hG F
  subst hl
  subst hG
  refine NJ.aload_n (i := 0) (x := a0) F.1 dX1_init_0 rfl rfl ?_
  refine NJ.objInit F wd_32 wd_25 wd_26 dX1_init_1 (Nat.le_of_ble_eq_true rfl) (by decide) ?_
  refine NJ.aload_n (i := 0) (x := a0) F.1 dX1_init_4 rfl rfl ?_
  refine NJ.iconst (v := 0) F.1 dX1_init_5 rfl ?_
  refine NJ.put (q0 := 0) (ci := 1) (kf := 0) (N := 5) (C := RX1) (T := TX1) (ty := tyX1 0) (ws' := [(a0, .inr (1, [.int 0, .int 0, .int 0, .int 0, .null]))]) F rfl rfl (by decide) in_RX1 tyX1 tyX1_ok nmX1 wd_62 rfl (tyX1_ok 0 (by decide)) (by exact rfl) (by exact rfl) (Nat.le_of_ble_eq_true rfl) rfl dX1_init_6 ?_
  refine NJ.aload_n (i := 0) (x := a0) F.1 dX1_init_9 rfl rfl ?_
  refine NJ.bipush (v := 60) F.1 dX1_init_10 (by decide) ?_
  refine NJ.put (q0 := 0) (ci := 1) (kf := 1) (N := 5) (C := RX1) (T := TX1) (ty := tyX1 1) (ws' := [(a0, .inr (1, [.int 0, .int 60, .int 0, .int 0, .null]))]) F rfl rfl (by decide) in_RX1 tyX1 tyX1_ok nmX1 wd_64 rfl (tyX1_ok 1 (by decide)) (by exact rfl) (by exact rfl) (Nat.le_of_ble_eq_true rfl) rfl dX1_init_12 ?_
  refine NJ.aload_n (i := 0) (x := a0) F.1 dX1_init_15 rfl rfl ?_
  refine NJ.iconst (v := 0) F.1 dX1_init_16 rfl ?_
  refine NJ.put (q0 := 0) (ci := 1) (kf := 2) (N := 5) (C := RX1) (T := TX1) (ty := tyX1 2) (ws' := [(a0, .inr (1, [.int 0, .int 60, .int 0, .int 0, .null]))]) F rfl rfl (by decide) in_RX1 tyX1 tyX1_ok nmX1 wd_66 rfl (tyX1_ok 2 (by decide)) (by exact rfl) (by exact rfl) (Nat.le_of_ble_eq_true rfl) rfl dX1_init_17 ?_
  refine NJ.aload_n (i := 0) (x := a0) F.1 dX1_init_20 rfl rfl ?_
  refine NJ.iconst (v := 0) F.1 dX1_init_21 rfl ?_
  refine NJ.put (q0 := 0) (ci := 1) (kf := 3) (N := 5) (C := RX1) (T := TX1) (ty := tyX1 3) (ws' := [(a0, .inr (1, [.int 0, .int 60, .int 0, .int 0, .null]))]) F rfl rfl (by decide) in_RX1 tyX1 tyX1_ok nmX1 wd_68 rfl (tyX1_ok 3 (by decide)) (by exact rfl) (by exact rfl) (Nat.le_of_ble_eq_true rfl) rfl dX1_init_22 ?_
  refine NJ.aload_n (i := 0) (x := a0) F.1 dX1_init_25 rfl rfl ?_
  refine NJ.bipush (v := 6) F.1 dX1_init_26 (by decide) ?_
  refine NJ.newq (t := 2) (N := 6) F wd_33 F.2.2.2.2.2.1 rfl (by decide) (by decide) (by decide) (Nat.le_of_ble_eq_true rfl) (Nat.le_of_ble_eq_true rfl) dX1_init_28 (fun q0 => ?_)
  refine NJ.world (ws' := [(a0, .inr (1, [.int 0, .int 60, .int 0, .int 0, .null]))] ++ [(q0, .inl ((gl φ).2.2.1 2, 6, .inr (.inr (.inr (.inr (refL [none, none, none, none, none, none]))))))]) (by rw [refL_no6]) ?_
  refine NJ.putF (q0 := 0) (ci := 1) (kf := 4) (N := 5) (C := RX1) (T := TX1) (ty := tyX1 4) (ws' := [(a0, .inr (1, [.int 0, .int 60, .int 0, .int 0, .ref q0]))] ++ [(q0, .inl ((gl φ).2.2.1 2, 6, .inr (.inr (.inr (.inr (refL [none, none, none, none, none, none]))))))]) F rfl rfl (by decide) in_RX1 tyX1 tyX1_ok nmX1 wd_70 rfl rfl (tyX1_ok 4 (by decide)) (by exact rfl) (by exact rfl) (Nat.le_of_ble_eq_true rfl) rfl dX1_init_31 ?_
  refine NJ.iconst (v := 0) F.1 dX1_init_34 rfl ?_
  refine NJ.istore_n (i := 1) (y := 0) (L' := [some (.ref a0), some (.int 0)]) F.1 dX1_init_35 rfl (by decide) rfl rfl rfl ?_
  refine NJ.iload_n (i := 1) (x := 0) F.1 dX1_init_36 rfl rfl ?_
  refine NJ.bipush (v := 6) F.1 dX1_init_37 (by decide) ?_
  refine NJ.icmp_ge (tgt := 61) F.1 dX1_init_39 (by decide) (fun h => absurd h (by decide)) (fun _ => ?_)
  refine NJ.aload_n (i := 0) (x := a0) F.1 dX1_init_42 rfl rfl ?_
  refine NJ.get (q0 := 0) (ci := 1) (kf := 4) (N := 5) (C := RX1) (T := TX1) (v := .ref q0) F rfl rfl (by decide) in_RX1 wd_70 rfl dX1_init_43 ?_
  refine NJ.iload_n (i := 1) (x := 0) F.1 dX1_init_46 rfl rfl ?_
  refine NJ.new (ci := 0) (N := 5) (fs := [.int 0, .int 0, .int 0, .int 0, .int 0]) F tyX0 rfl in_RX0 tyX0_ok wd_33 wd_35 wd_3 (by decide) (Nat.le_of_ble_eq_true rfl) (Nat.le_of_ble_eq_true rfl) dX1_init_47 (fun q1 => ?_)
  refine NJ.dup F.1 dX1_init_50 rfl ?_
  refine NJ.ctorN F (bG_cc _ _) (List.mem_of_getElem? (l := nestL) (i := 0) rfl) wd_37 wd_3 wd_38 rfl (by decide +kernel) (rmC_fit (by decide) (by decide)) (Nat.le_of_ble_eq_true rfl) (Nat.le_of_ble_eq_true rfl) (Nat.le_of_ble_eq_true rfl) dX1_init_51 (fun u1 => ?_)
  refine NJ.astq (q0 := 1) (qk := 2) (t := 2) (ci := 0) (i := 0) (N := 6) (r := (RX0, TX0, 5)) (ws' := [(a0, .inr (1, [.int 0, .int 60, .int 0, .int 0, .ref q0]))] ++ [(q0, .inl ((gl φ).2.2.1 2, 6, .inr (.inr (.inr (.inr (refL [some q1, none, none, none, none, none]))))))] ++ bG (gl φ).2.2.1 q1 u1) F rfl rfl rfl rfl (by decide) (by decide) (Nat.le_of_ble_eq_true rfl) rfl dX1_init_54 ?_
  refine NJ.iinc (i := 1) (z := 1) (v := 1) (L' := [some (.ref a0), some (.int 1)]) F.1 dX1_init_55 rfl (by decide) (by decide) (by decide) rfl rfl ?_
  refine NJ.goto (tgt := 36) F.1 dX1_init_58 (by decide) ?_
  refine NJ.iload_n (i := 1) (x := 1) F.1 dX1_init_36 rfl rfl ?_
  refine NJ.bipush (v := 6) F.1 dX1_init_37 (by decide) ?_
  refine NJ.icmp_ge (tgt := 61) F.1 dX1_init_39 (by decide) (fun h => absurd h (by decide)) (fun _ => ?_)
  refine NJ.aload_n (i := 0) (x := a0) F.1 dX1_init_42 rfl rfl ?_
  refine NJ.get (q0 := 0) (ci := 1) (kf := 4) (N := 5) (C := RX1) (T := TX1) (v := .ref q0) F rfl rfl (by decide) in_RX1 wd_70 rfl dX1_init_43 ?_
  refine NJ.iload_n (i := 1) (x := 1) F.1 dX1_init_46 rfl rfl ?_
  refine NJ.new (ci := 0) (N := 5) (fs := [.int 0, .int 0, .int 0, .int 0, .int 0]) F tyX0 rfl in_RX0 tyX0_ok wd_33 wd_35 wd_3 (by decide) (Nat.le_of_ble_eq_true rfl) (Nat.le_of_ble_eq_true rfl) dX1_init_47 (fun q2 => ?_)
  refine NJ.dup F.1 dX1_init_50 rfl ?_
  refine NJ.ctorN F (bG_cc _ _) (List.mem_of_getElem? (l := nestL) (i := 0) rfl) wd_37 wd_3 wd_38 rfl (by decide +kernel) (rmC_fit (by decide) (by decide)) (Nat.le_of_ble_eq_true rfl) (Nat.le_of_ble_eq_true rfl) (Nat.le_of_ble_eq_true rfl) dX1_init_51 (fun u2 => ?_)
  refine NJ.astq (q0 := 1) (qk := 3) (t := 2) (ci := 0) (i := 1) (N := 6) (r := (RX0, TX0, 5)) (ws' := [(a0, .inr (1, [.int 0, .int 60, .int 0, .int 0, .ref q0]))] ++ [(q0, .inl ((gl φ).2.2.1 2, 6, .inr (.inr (.inr (.inr (refL [some q1, some q2, none, none, none, none]))))))] ++ bG (gl φ).2.2.1 q1 u1 ++ bG (gl φ).2.2.1 q2 u2) F rfl rfl rfl rfl (by decide) (by decide) (Nat.le_of_ble_eq_true rfl) rfl dX1_init_54 ?_
  refine NJ.iinc (i := 1) (z := 1) (v := 2) (L' := [some (.ref a0), some (.int 2)]) F.1 dX1_init_55 rfl (by decide) (by decide) (by decide) rfl rfl ?_
  refine NJ.goto (tgt := 36) F.1 dX1_init_58 (by decide) ?_
  refine NJ.iload_n (i := 1) (x := 2) F.1 dX1_init_36 rfl rfl ?_
  refine NJ.bipush (v := 6) F.1 dX1_init_37 (by decide) ?_
  refine NJ.icmp_ge (tgt := 61) F.1 dX1_init_39 (by decide) (fun h => absurd h (by decide)) (fun _ => ?_)
  refine NJ.aload_n (i := 0) (x := a0) F.1 dX1_init_42 rfl rfl ?_
  refine NJ.get (q0 := 0) (ci := 1) (kf := 4) (N := 5) (C := RX1) (T := TX1) (v := .ref q0) F rfl rfl (by decide) in_RX1 wd_70 rfl dX1_init_43 ?_
  refine NJ.iload_n (i := 1) (x := 2) F.1 dX1_init_46 rfl rfl ?_
  refine NJ.new (ci := 0) (N := 5) (fs := [.int 0, .int 0, .int 0, .int 0, .int 0]) F tyX0 rfl in_RX0 tyX0_ok wd_33 wd_35 wd_3 (by decide) (Nat.le_of_ble_eq_true rfl) (Nat.le_of_ble_eq_true rfl) dX1_init_47 (fun q3 => ?_)
  refine NJ.dup F.1 dX1_init_50 rfl ?_
  refine NJ.ctorN F (bG_cc _ _) (List.mem_of_getElem? (l := nestL) (i := 0) rfl) wd_37 wd_3 wd_38 rfl (by decide +kernel) (rmC_fit (by decide) (by decide)) (Nat.le_of_ble_eq_true rfl) (Nat.le_of_ble_eq_true rfl) (Nat.le_of_ble_eq_true rfl) dX1_init_51 (fun u3 => ?_)
  refine NJ.astq (q0 := 1) (qk := 4) (t := 2) (ci := 0) (i := 2) (N := 6) (r := (RX0, TX0, 5)) (ws' := [(a0, .inr (1, [.int 0, .int 60, .int 0, .int 0, .ref q0]))] ++ [(q0, .inl ((gl φ).2.2.1 2, 6, .inr (.inr (.inr (.inr (refL [some q1, some q2, some q3, none, none, none]))))))] ++ bG (gl φ).2.2.1 q1 u1 ++ bG (gl φ).2.2.1 q2 u2 ++ bG (gl φ).2.2.1 q3 u3) F rfl rfl rfl rfl (by decide) (by decide) (Nat.le_of_ble_eq_true rfl) rfl dX1_init_54 ?_
  refine NJ.iinc (i := 1) (z := 1) (v := 3) (L' := [some (.ref a0), some (.int 3)]) F.1 dX1_init_55 rfl (by decide) (by decide) (by decide) rfl rfl ?_
  refine NJ.goto (tgt := 36) F.1 dX1_init_58 (by decide) ?_
  refine NJ.iload_n (i := 1) (x := 3) F.1 dX1_init_36 rfl rfl ?_
  refine NJ.bipush (v := 6) F.1 dX1_init_37 (by decide) ?_
  refine NJ.icmp_ge (tgt := 61) F.1 dX1_init_39 (by decide) (fun h => absurd h (by decide)) (fun _ => ?_)
  refine NJ.aload_n (i := 0) (x := a0) F.1 dX1_init_42 rfl rfl ?_
  refine NJ.get (q0 := 0) (ci := 1) (kf := 4) (N := 5) (C := RX1) (T := TX1) (v := .ref q0) F rfl rfl (by decide) in_RX1 wd_70 rfl dX1_init_43 ?_
  refine NJ.iload_n (i := 1) (x := 3) F.1 dX1_init_46 rfl rfl ?_
  refine NJ.new (ci := 0) (N := 5) (fs := [.int 0, .int 0, .int 0, .int 0, .int 0]) F tyX0 rfl in_RX0 tyX0_ok wd_33 wd_35 wd_3 (by decide) (Nat.le_of_ble_eq_true rfl) (Nat.le_of_ble_eq_true rfl) dX1_init_47 (fun q4 => ?_)
  refine NJ.dup F.1 dX1_init_50 rfl ?_
  refine NJ.ctorN F (bG_cc _ _) (List.mem_of_getElem? (l := nestL) (i := 0) rfl) wd_37 wd_3 wd_38 rfl (by decide +kernel) (rmC_fit (by decide) (by decide)) (Nat.le_of_ble_eq_true rfl) (Nat.le_of_ble_eq_true rfl) (Nat.le_of_ble_eq_true rfl) dX1_init_51 (fun u4 => ?_)
  refine NJ.astq (q0 := 1) (qk := 5) (t := 2) (ci := 0) (i := 3) (N := 6) (r := (RX0, TX0, 5)) (ws' := [(a0, .inr (1, [.int 0, .int 60, .int 0, .int 0, .ref q0]))] ++ [(q0, .inl ((gl φ).2.2.1 2, 6, .inr (.inr (.inr (.inr (refL [some q1, some q2, some q3, some q4, none, none]))))))] ++ bG (gl φ).2.2.1 q1 u1 ++ bG (gl φ).2.2.1 q2 u2 ++ bG (gl φ).2.2.1 q3 u3 ++ bG (gl φ).2.2.1 q4 u4) F rfl rfl rfl rfl (by decide) (by decide) (Nat.le_of_ble_eq_true rfl) rfl dX1_init_54 ?_
  refine NJ.iinc (i := 1) (z := 1) (v := 4) (L' := [some (.ref a0), some (.int 4)]) F.1 dX1_init_55 rfl (by decide) (by decide) (by decide) rfl rfl ?_
  refine NJ.goto (tgt := 36) F.1 dX1_init_58 (by decide) ?_
  refine NJ.iload_n (i := 1) (x := 4) F.1 dX1_init_36 rfl rfl ?_
  refine NJ.bipush (v := 6) F.1 dX1_init_37 (by decide) ?_
  refine NJ.icmp_ge (tgt := 61) F.1 dX1_init_39 (by decide) (fun h => absurd h (by decide)) (fun _ => ?_)
  refine NJ.aload_n (i := 0) (x := a0) F.1 dX1_init_42 rfl rfl ?_
  refine NJ.get (q0 := 0) (ci := 1) (kf := 4) (N := 5) (C := RX1) (T := TX1) (v := .ref q0) F rfl rfl (by decide) in_RX1 wd_70 rfl dX1_init_43 ?_
  refine NJ.iload_n (i := 1) (x := 4) F.1 dX1_init_46 rfl rfl ?_
  refine NJ.new (ci := 0) (N := 5) (fs := [.int 0, .int 0, .int 0, .int 0, .int 0]) F tyX0 rfl in_RX0 tyX0_ok wd_33 wd_35 wd_3 (by decide) (Nat.le_of_ble_eq_true rfl) (Nat.le_of_ble_eq_true rfl) dX1_init_47 (fun q5 => ?_)
  refine NJ.dup F.1 dX1_init_50 rfl ?_
  refine NJ.ctorN F (bG_cc _ _) (List.mem_of_getElem? (l := nestL) (i := 0) rfl) wd_37 wd_3 wd_38 rfl (by decide +kernel) (rmC_fit (by decide) (by decide)) (Nat.le_of_ble_eq_true rfl) (Nat.le_of_ble_eq_true rfl) (Nat.le_of_ble_eq_true rfl) dX1_init_51 (fun u5 => ?_)
  refine NJ.astq (q0 := 1) (qk := 6) (t := 2) (ci := 0) (i := 4) (N := 6) (r := (RX0, TX0, 5)) (ws' := [(a0, .inr (1, [.int 0, .int 60, .int 0, .int 0, .ref q0]))] ++ [(q0, .inl ((gl φ).2.2.1 2, 6, .inr (.inr (.inr (.inr (refL [some q1, some q2, some q3, some q4, some q5, none]))))))] ++ bG (gl φ).2.2.1 q1 u1 ++ bG (gl φ).2.2.1 q2 u2 ++ bG (gl φ).2.2.1 q3 u3 ++ bG (gl φ).2.2.1 q4 u4 ++ bG (gl φ).2.2.1 q5 u5) F rfl rfl rfl rfl (by decide) (by decide) (Nat.le_of_ble_eq_true rfl) rfl dX1_init_54 ?_
  refine NJ.iinc (i := 1) (z := 1) (v := 5) (L' := [some (.ref a0), some (.int 5)]) F.1 dX1_init_55 rfl (by decide) (by decide) (by decide) rfl rfl ?_
  refine NJ.goto (tgt := 36) F.1 dX1_init_58 (by decide) ?_
  refine NJ.iload_n (i := 1) (x := 5) F.1 dX1_init_36 rfl rfl ?_
  refine NJ.bipush (v := 6) F.1 dX1_init_37 (by decide) ?_
  refine NJ.icmp_ge (tgt := 61) F.1 dX1_init_39 (by decide) (fun h => absurd h (by decide)) (fun _ => ?_)
  refine NJ.aload_n (i := 0) (x := a0) F.1 dX1_init_42 rfl rfl ?_
  refine NJ.get (q0 := 0) (ci := 1) (kf := 4) (N := 5) (C := RX1) (T := TX1) (v := .ref q0) F rfl rfl (by decide) in_RX1 wd_70 rfl dX1_init_43 ?_
  refine NJ.iload_n (i := 1) (x := 5) F.1 dX1_init_46 rfl rfl ?_
  refine NJ.new (ci := 0) (N := 5) (fs := [.int 0, .int 0, .int 0, .int 0, .int 0]) F tyX0 rfl in_RX0 tyX0_ok wd_33 wd_35 wd_3 (by decide) (Nat.le_of_ble_eq_true rfl) (Nat.le_of_ble_eq_true rfl) dX1_init_47 (fun q6 => ?_)
  refine NJ.dup F.1 dX1_init_50 rfl ?_
  refine NJ.ctorN F (bG_cc _ _) (List.mem_of_getElem? (l := nestL) (i := 0) rfl) wd_37 wd_3 wd_38 rfl (by decide +kernel) (rmC_fit (by decide) (by decide)) (Nat.le_of_ble_eq_true rfl) (Nat.le_of_ble_eq_true rfl) (Nat.le_of_ble_eq_true rfl) dX1_init_51 (fun u6 => ?_)
  refine NJ.astq (q0 := 1) (qk := 7) (t := 2) (ci := 0) (i := 5) (N := 6) (r := (RX0, TX0, 5)) (ws' := [(a0, .inr (1, [.int 0, .int 60, .int 0, .int 0, .ref q0]))] ++ [(q0, .inl ((gl φ).2.2.1 2, 6, .inr (.inr (.inr (.inr (refL [some q1, some q2, some q3, some q4, some q5, some q6]))))))] ++ bG (gl φ).2.2.1 q1 u1 ++ bG (gl φ).2.2.1 q2 u2 ++ bG (gl φ).2.2.1 q3 u3 ++ bG (gl φ).2.2.1 q4 u4 ++ bG (gl φ).2.2.1 q5 u5 ++ bG (gl φ).2.2.1 q6 u6) F rfl rfl rfl rfl (by decide) (by decide) (Nat.le_of_ble_eq_true rfl) rfl dX1_init_54 ?_
  refine NJ.iinc (i := 1) (z := 1) (v := 6) (L' := [some (.ref a0), some (.int 6)]) F.1 dX1_init_55 rfl (by decide) (by decide) (by decide) rfl rfl ?_
  refine NJ.goto (tgt := 36) F.1 dX1_init_58 (by decide) ?_
  refine NJ.iload_n (i := 1) (x := 6) F.1 dX1_init_36 rfl rfl ?_
  refine NJ.bipush (v := 6) F.1 dX1_init_37 (by decide) ?_
  refine NJ.icmp_ge (tgt := 61) F.1 dX1_init_39 (by decide) (fun _ => ?_) (fun h => absurd (by decide) h)
  exact NJ.vret (fun i => [q0, q1, q2, q3, q4, q5, q6].getD i 0) F (Nat.le_of_ble_eq_true rfl) (Nat.le_of_ble_eq_true rfl) dX1_init_61
