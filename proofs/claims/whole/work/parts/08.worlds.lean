def famA : List (Nat × Nat) := [(0, 1), (1, 2), (2, 12), (3, 2), (4, 1), (5, 6), (6, 6), (7, 6), (8, 6), (9, 1), (10, 1), (11, 1), (12, 1), (13, 1), (14, 1), (15, 1), (16, 4), (17, 4), (18, 1), (19, 1), (20, 1), (21, 1), (22, 1), (23, 1), (24, 1), (25, 1), (26, 1), (27, 1), (28, 6), (29, 1)]
def entA (ad : Nat → Nat → Nat) (cy : Nat → ClassId) (r : Nat → Int32) (w : Int64) (i f : Nat) : va_E := ([.inr (9, [.ref (ad 1 0), .ref (ad 1 1), .int (r 2), .ref (ad 4 0), .int (r 4), .ref (ad 9 0), .ref (ad 15 0), .ref (ad 18 0), .ref (ad 20 0), .ref (ad 23 0), .ref (ad 27 0), .ref (ad 29 0)]),
  .inr (1, [.int (r 0), .int (r 1), .int (r 2), .int (r 3), .ref (ad 3 i)]),
  .inr (0, [.int (r 0), .int (r 1), .int (r 2), .int (r 3), .int (r 4)]),
  .inl (cy 2, 6, .inr (.inr (.inr (.inr (fun j => some (ad 2 (j + 6 * i))))))),
  .inl (cy 3, 6, .inr (.inr (.inr (.inr (fun j => some (ad 5 j)))))),
  .inr (7, [.ref (ad 6 i), .ref (ad 7 i), .ref (ad 8 i)]),
  .inl (cy 0, 160, .inl r),
  .inl (cy 0, 4, .inl r),
  .inl (cy 0, 160, .inl r),
  .inr (4, [.ref (ad 10 0), inV ad (r 1), .int (r 2), .int (r 3), .int (r 4)]),
  .inr (6, [.ref (ad 11 0), .int (r 1), .ref (ad 12 0), .ref (ad 13 0), .ref (ad 14 0), .int (r 5)]),
  .inl (cy 0, 160, .inl r),
  .inl (cy 0, 161, .inl r),
  .inl (cy 0, 161, .inl r),
  .inl (cy 0, 161, .inl r),
  .inl (cy 4, 4, .inr (.inr (.inr (.inr (fun j => some (ad 16 j)))))),
  .inr (5, [.int (r 0), .int (r 1), .ref (ad 17 i)]),
  .inl (cy 0, 40, .inl r),
  .inr (2, [.int (r 0), .int (r 1), .int (r 2), .int (r 3), .int (r 4), .int (r 5), .int (r 6), .int (r 7), .int (r 8), .ref (ad 19 0)]),
  .inl (cy 0, 6, .inl r),
  .inr (8, [.int (r 0), .int (r 1), .ref (ad 21 0), .ref (ad 22 0)]),
  .inl (cy 0, 6, .inl r),
  .inl (cy 0, 6, .inl r),
  .inr (3, [.int (r 0), .ref (ad 24 0), .ref (ad 25 0), .ref (ad 26 0)]),
  .inl (cy 0, 6, .inl r),
  .inl (cy 0, 6, .inl r),
  .inl (cy 0, 6, .inl r),
  .inl (cy 5, 6, .inr (.inr (.inr (.inr (fun j => some (ad 28 j)))))),
  .inl (cy 0, 6, .inl r),
  .inl (cy 0, 6, .inl r)] : List va_E).getD f (.inl (0, 0, .inl r))
def ΩA : Wld := (famA.flatMap (fun q => (List.range q.2).map (fun i => (q.1, i))), entA)
theorem ΩA_nd : ΩA.1.Nodup := by decide +kernel
theorem mA {f n i : Nat} (h : (f, n) ∈ famA) (hi : i < n) : (f, i) ∈ ΩA.1 := List.mem_flatMap.mpr ⟨(f, n), h, List.mem_map.mpr ⟨i, List.mem_range.mpr hi, rfl⟩⟩
theorem mA0 : (0, 0) ∈ ΩA.1 := mA (n := 1) (by decide) (by decide)
theorem mA1 {i : Nat} (h : i < 2) : (1, i) ∈ ΩA.1 := mA (n := 2) (by decide) h
theorem mA2 {i : Nat} (h : i < 12) : (2, i) ∈ ΩA.1 := mA (n := 12) (by decide) h
theorem mA3 {i : Nat} (h : i < 2) : (3, i) ∈ ΩA.1 := mA (n := 2) (by decide) h
theorem mA4 : (4, 0) ∈ ΩA.1 := mA (n := 1) (by decide) (by decide)
theorem mA5 {i : Nat} (h : i < 6) : (5, i) ∈ ΩA.1 := mA (n := 6) (by decide) h
theorem mA6 {i : Nat} (h : i < 6) : (6, i) ∈ ΩA.1 := mA (n := 6) (by decide) h
theorem mA7 {i : Nat} (h : i < 6) : (7, i) ∈ ΩA.1 := mA (n := 6) (by decide) h
theorem mA8 {i : Nat} (h : i < 6) : (8, i) ∈ ΩA.1 := mA (n := 6) (by decide) h
theorem mA9 : (9, 0) ∈ ΩA.1 := mA (n := 1) (by decide) (by decide)
theorem mA10 : (10, 0) ∈ ΩA.1 := mA (n := 1) (by decide) (by decide)
theorem mA11 : (11, 0) ∈ ΩA.1 := mA (n := 1) (by decide) (by decide)
theorem mA12 : (12, 0) ∈ ΩA.1 := mA (n := 1) (by decide) (by decide)
theorem mA13 : (13, 0) ∈ ΩA.1 := mA (n := 1) (by decide) (by decide)
theorem mA14 : (14, 0) ∈ ΩA.1 := mA (n := 1) (by decide) (by decide)
theorem mA15 : (15, 0) ∈ ΩA.1 := mA (n := 1) (by decide) (by decide)
theorem mA16 {i : Nat} (h : i < 4) : (16, i) ∈ ΩA.1 := mA (n := 4) (by decide) h
theorem mA17 {i : Nat} (h : i < 4) : (17, i) ∈ ΩA.1 := mA (n := 4) (by decide) h
theorem mA18 : (18, 0) ∈ ΩA.1 := mA (n := 1) (by decide) (by decide)
theorem mA19 : (19, 0) ∈ ΩA.1 := mA (n := 1) (by decide) (by decide)
theorem mA20 : (20, 0) ∈ ΩA.1 := mA (n := 1) (by decide) (by decide)
theorem mA21 : (21, 0) ∈ ΩA.1 := mA (n := 1) (by decide) (by decide)
theorem mA22 : (22, 0) ∈ ΩA.1 := mA (n := 1) (by decide) (by decide)
theorem mA23 : (23, 0) ∈ ΩA.1 := mA (n := 1) (by decide) (by decide)
theorem mA24 : (24, 0) ∈ ΩA.1 := mA (n := 1) (by decide) (by decide)
theorem mA25 : (25, 0) ∈ ΩA.1 := mA (n := 1) (by decide) (by decide)
theorem mA26 : (26, 0) ∈ ΩA.1 := mA (n := 1) (by decide) (by decide)
theorem mA27 : (27, 0) ∈ ΩA.1 := mA (n := 1) (by decide) (by decide)
theorem mA28 {i : Nat} (h : i < 6) : (28, i) ∈ ΩA.1 := mA (n := 6) (by decide) h
theorem mA29 : (29, 0) ∈ ΩA.1 := mA (n := 1) (by decide) (by decide)
def famB : List (Nat × Nat) := [(0, 1), (1, 1), (2, 1), (3, 1), (4, 1), (5, 1), (6, 1), (7, 1), (8, 1), (9, 1), (10, 1), (11, 1), (12, 1), (13, 1), (14, 1), (15, 1), (16, 1)]
def entB (ad : Nat → Nat → Nat) (cy : Nat → ClassId) (r : Nat → Int32) (w : Int64) (i f : Nat) : va_E := ([.inr (10, [.int (r 0), .ref (ad 1 0), .ref (ad 2 0), .int (r 3), .int (r 4), .ref (ad 3 0), .int (r 6), .int (r 7), .int (r 8), .ref (ad 4 0), .ref (ad 5 0), .ref (ad 6 0), .int (r 12), .int (r 13), .int (r 14), .int (r 15), .int (r 16), .int (r 17), .int (r 18), .int (r 19), .int (r 20), .int (r 21), .int (r 22), .int (r 23), .long w, .int (r 25), .int (r 26), .int (r 27), .int (r 28), .int (r 29), .int (r 30), .ref (ad 7 0), .int (r 32), .int (r 33), .int (r 34), .int (r 35), .int (r 36), .ref (ad 8 0), .ref (ad 9 0), .ref (ad 10 0), .ref (ad 11 0), .ref (ad 12 0), .int (r 42), .int (r 43), .int (r 44), .int (r 45), .ref (ad 13 0), .ref (ad 14 0), .ref (ad 15 0), .ref (ad 16 0)]),
  .inl (cy 0, 960, .inl r),
  .inl (cy 0, 6, .inl r),
  .inl (cy 0, 160, .inl r),
  .inl (cy 0, 6, .inl r),
  .inl (cy 0, 18, .inl r),
  .inl (cy 0, 6, .inl r),
  .inl (cy 0, 36, .inl r),
  .inl (cy 0, 6, .inl r),
  .inl (cy 0, 6, .inl r),
  .inl (cy 0, 6, .inl r),
  .inl (cy 0, 18, .inl r),
  .inl (cy 0, 6, .inl r),
  .inl (cy 1, 4, .inl r),
  .inl (cy 0, 4, .inl r),
  .inl (cy 0, 4, .inl r),
  .inl (cy 0, 160, .inl r)] : List va_E).getD f (.inl (0, 0, .inl r))
def ΩB : Wld := (famB.flatMap (fun q => (List.range q.2).map (fun i => (q.1, i))), entB)
theorem ΩB_nd : ΩB.1.Nodup := by decide +kernel
theorem mB {f n i : Nat} (h : (f, n) ∈ famB) (hi : i < n) : (f, i) ∈ ΩB.1 := List.mem_flatMap.mpr ⟨(f, n), h, List.mem_map.mpr ⟨i, List.mem_range.mpr hi, rfl⟩⟩
theorem mB0 : (0, 0) ∈ ΩB.1 := mB (n := 1) (by decide) (by decide)
theorem mB1 : (1, 0) ∈ ΩB.1 := mB (n := 1) (by decide) (by decide)
theorem mB2 : (2, 0) ∈ ΩB.1 := mB (n := 1) (by decide) (by decide)
theorem mB3 : (3, 0) ∈ ΩB.1 := mB (n := 1) (by decide) (by decide)
theorem mB4 : (4, 0) ∈ ΩB.1 := mB (n := 1) (by decide) (by decide)
theorem mB5 : (5, 0) ∈ ΩB.1 := mB (n := 1) (by decide) (by decide)
theorem mB6 : (6, 0) ∈ ΩB.1 := mB (n := 1) (by decide) (by decide)
theorem mB7 : (7, 0) ∈ ΩB.1 := mB (n := 1) (by decide) (by decide)
theorem mB8 : (8, 0) ∈ ΩB.1 := mB (n := 1) (by decide) (by decide)
theorem mB9 : (9, 0) ∈ ΩB.1 := mB (n := 1) (by decide) (by decide)
theorem mB10 : (10, 0) ∈ ΩB.1 := mB (n := 1) (by decide) (by decide)
theorem mB11 : (11, 0) ∈ ΩB.1 := mB (n := 1) (by decide) (by decide)
theorem mB12 : (12, 0) ∈ ΩB.1 := mB (n := 1) (by decide) (by decide)
theorem mB13 : (13, 0) ∈ ΩB.1 := mB (n := 1) (by decide) (by decide)
theorem mB14 : (14, 0) ∈ ΩB.1 := mB (n := 1) (by decide) (by decide)
theorem mB15 : (15, 0) ∈ ΩB.1 := mB (n := 1) (by decide) (by decide)
theorem mB16 : (16, 0) ∈ ΩB.1 := mB (n := 1) (by decide) (by decide)

theorem entB_w {ad : Nat → Nat → Nat} {cy : Nat → ClassId} {r : Nat → Int32} {w w' : Int64} {i f : Nat} (h : f ≠ 0) : entB ad cy r w i f = entB ad cy r w' i f := by
  cases f with
  | zero => exact absurd rfl h
  | succ f => rfl
theorem mB0_one {i : Nat} (h : (0, i) ∈ ΩB.1) : (0, i) = (0, 0) := by
  have hq : ∀ q ∈ ΩB.1, q.1 = 0 → q = (0, 0) := by decide +kernel
  exact hq _ h rfl
theorem inV_nI {ad : Nat → Nat → Nat} {t : Nat} (ht : t < 6) : inV ad (nI t) = .ref (ad 5 t) := by
  match t, ht with
  | 0, _ => rfl
  | 1, _ => rfl
  | 2, _ => rfl
  | 3, _ => rfl
  | 4, _ => rfl
  | 5, _ => rfl
theorem inV_fs {ad : Nat → Nat → Nat} {cy : Nat → ClassId} (μ : Mem) {t : Nat} (ht : t < 6) : entA ad cy (upd (μ.1 9 0) 1 (nI t)) (up μ 9 0 1 (nI t)).2 0 9 = .inr (4, ([.ref (ad 10 0), inV ad (μ.1 9 0 1), .int (μ.1 9 0 2), .int (μ.1 9 0 3), .int (μ.1 9 0 4)] : List Value).set 1 (.ref (ad 5 t))) := by
  rw [← inV_nI (ad := ad) ht]
  rfl

theorem in_RX0 : ∀ w ∈ u_ws RX0 TX0 5, w ∈ lw_G := by decide +kernel
theorem in_RX1 : ∀ w ∈ u_ws RX1 TX1 5, w ∈ lw_G := by decide +kernel
theorem in_RX2 : ∀ w ∈ u_ws RX2 TX2 10, w ∈ lw_G := by decide +kernel
theorem in_RX3 : ∀ w ∈ u_ws RX3 TX3 4, w ∈ lw_G := by decide +kernel
theorem in_RX4 : ∀ w ∈ u_ws RX4 TX4 5, w ∈ lw_G := by decide +kernel
theorem in_RX5 : ∀ w ∈ u_ws RX5 TX5 3, w ∈ lw_G := by decide +kernel
theorem in_RX6 : ∀ w ∈ u_ws RX6 TX6 6, w ∈ lw_G := by decide +kernel
theorem in_RX7 : ∀ w ∈ u_ws RX7 TX7 3, w ∈ lw_G := by decide +kernel
theorem in_RX8 : ∀ w ∈ u_ws RX8 TX8 4, w ∈ lw_G := by decide +kernel
theorem in_RX9 : ∀ w ∈ u_ws RX9 TX9 12, w ∈ lw_G := by decide +kernel
theorem in_RX10 : ∀ w ∈ u_ws RX10 TX10 50, w ∈ lw_G := by decide +kernel
theorem fl_RX0_7 : Cond.fieldLink RX0 7 "SewnUp$Groom" "kind" "I" ∈ lw_G := mG 126 (by decide +kernel) rfl
theorem gf_RX0_7 {φ : Fr} {cc : ByteArray} {nL : Nat} {ret : Option FieldType} {d pc : Nat} {L : List (Option Value)} {rest : List Value} {μ : Mem} {ρ : Option Value × Mem} {i : Nat} (hi : i < 12) (F : Fx φ ΩA cc RX0 nL ret) (hd : decode cc pc = .ok (.getfield 7, 3)) (k : V φ ΩA nL d (pc + 3) L (.int (rd μ 2 i 0) :: rest) μ ρ) : V φ ΩA nL d pc L (rf φ 2 i :: rest) μ ρ := V.getf F (mA2 hi) (ci := 0) (k := 0) (N := 5) (C := RX0) (T := TX0) rfl rfl (by decide) in_RX0 fl_RX0_7 rfl hd k
theorem pf_RX0_7 {φ : Fr} {cc : ByteArray} {nL : Nat} {ret : Option FieldType} {d pc : Nat} {L : List (Option Value)} {rest : List Value} {μ : Mem} {ρ : Option Value × Mem} {i : Nat} (hi : i < 12) {x : Int32} {μ' : Mem} (F : Fx φ ΩA cc RX0 nL ret) (eμ : up μ 2 i 0 x = μ') (hd : decode cc pc = .ok (.putfield 7, 3)) (k : V φ ΩA nL d (pc + 3) L rest μ' ρ) : V φ ΩA nL d pc L (.int x :: rf φ 2 i :: rest) μ ρ := V.puti F (mA2 hi) (ci := 0) (k := 0) (N := 5) (C := RX0) (T := TX0) (ty := .int) rfl rfl (by decide) in_RX0 tyX0 tyX0_ok nmX0 fl_RX0_7 rfl (by decide +kernel) rfl (by exact rfl) (by simp) rfl eμ hd k
theorem fl_RX9_134 : Cond.fieldLink RX9 134 "SewnUp$Groom" "kind" "I" ∈ lw_G := mG 127 (by decide +kernel) rfl
theorem gf_RX9_134 {φ : Fr} {cc : ByteArray} {nL : Nat} {ret : Option FieldType} {d pc : Nat} {L : List (Option Value)} {rest : List Value} {μ : Mem} {ρ : Option Value × Mem} {i : Nat} (hi : i < 12) (F : Fx φ ΩA cc RX9 nL ret) (hd : decode cc pc = .ok (.getfield 134, 3)) (k : V φ ΩA nL d (pc + 3) L (.int (rd μ 2 i 0) :: rest) μ ρ) : V φ ΩA nL d pc L (rf φ 2 i :: rest) μ ρ := V.getf F (mA2 hi) (ci := 0) (k := 0) (N := 5) (C := RX0) (T := TX0) rfl rfl (by decide) in_RX0 fl_RX9_134 rfl hd k
theorem pf_RX9_134 {φ : Fr} {cc : ByteArray} {nL : Nat} {ret : Option FieldType} {d pc : Nat} {L : List (Option Value)} {rest : List Value} {μ : Mem} {ρ : Option Value × Mem} {i : Nat} (hi : i < 12) {x : Int32} {μ' : Mem} (F : Fx φ ΩA cc RX9 nL ret) (eμ : up μ 2 i 0 x = μ') (hd : decode cc pc = .ok (.putfield 134, 3)) (k : V φ ΩA nL d (pc + 3) L rest μ' ρ) : V φ ΩA nL d pc L (.int x :: rf φ 2 i :: rest) μ ρ := V.puti F (mA2 hi) (ci := 0) (k := 0) (N := 5) (C := RX0) (T := TX0) (ty := .int) rfl rfl (by decide) in_RX0 tyX0 tyX0_ok nmX0 fl_RX9_134 rfl (by decide +kernel) rfl (by exact rfl) (by simp) rfl eμ hd k
theorem fl_RX0_13 : Cond.fieldLink RX0 13 "SewnUp$Groom" "number" "I" ∈ lw_G := mG 128 (by decide +kernel) rfl
theorem gf_RX0_13 {φ : Fr} {cc : ByteArray} {nL : Nat} {ret : Option FieldType} {d pc : Nat} {L : List (Option Value)} {rest : List Value} {μ : Mem} {ρ : Option Value × Mem} {i : Nat} (hi : i < 12) (F : Fx φ ΩA cc RX0 nL ret) (hd : decode cc pc = .ok (.getfield 13, 3)) (k : V φ ΩA nL d (pc + 3) L (.int (rd μ 2 i 1) :: rest) μ ρ) : V φ ΩA nL d pc L (rf φ 2 i :: rest) μ ρ := V.getf F (mA2 hi) (ci := 0) (k := 1) (N := 5) (C := RX0) (T := TX0) rfl rfl (by decide) in_RX0 fl_RX0_13 rfl hd k
theorem pf_RX0_13 {φ : Fr} {cc : ByteArray} {nL : Nat} {ret : Option FieldType} {d pc : Nat} {L : List (Option Value)} {rest : List Value} {μ : Mem} {ρ : Option Value × Mem} {i : Nat} (hi : i < 12) {x : Int32} {μ' : Mem} (F : Fx φ ΩA cc RX0 nL ret) (eμ : up μ 2 i 1 x = μ') (hd : decode cc pc = .ok (.putfield 13, 3)) (k : V φ ΩA nL d (pc + 3) L rest μ' ρ) : V φ ΩA nL d pc L (.int x :: rf φ 2 i :: rest) μ ρ := V.puti F (mA2 hi) (ci := 0) (k := 1) (N := 5) (C := RX0) (T := TX0) (ty := .int) rfl rfl (by decide) in_RX0 tyX0 tyX0_ok nmX0 fl_RX0_13 rfl (by decide +kernel) rfl (by exact rfl) (by simp) rfl eμ hd k
theorem fl_RX9_116 : Cond.fieldLink RX9 116 "SewnUp$Groom" "number" "I" ∈ lw_G := mG 129 (by decide +kernel) rfl
theorem gf_RX9_116 {φ : Fr} {cc : ByteArray} {nL : Nat} {ret : Option FieldType} {d pc : Nat} {L : List (Option Value)} {rest : List Value} {μ : Mem} {ρ : Option Value × Mem} {i : Nat} (hi : i < 12) (F : Fx φ ΩA cc RX9 nL ret) (hd : decode cc pc = .ok (.getfield 116, 3)) (k : V φ ΩA nL d (pc + 3) L (.int (rd μ 2 i 1) :: rest) μ ρ) : V φ ΩA nL d pc L (rf φ 2 i :: rest) μ ρ := V.getf F (mA2 hi) (ci := 0) (k := 1) (N := 5) (C := RX0) (T := TX0) rfl rfl (by decide) in_RX0 fl_RX9_116 rfl hd k
theorem pf_RX9_116 {φ : Fr} {cc : ByteArray} {nL : Nat} {ret : Option FieldType} {d pc : Nat} {L : List (Option Value)} {rest : List Value} {μ : Mem} {ρ : Option Value × Mem} {i : Nat} (hi : i < 12) {x : Int32} {μ' : Mem} (F : Fx φ ΩA cc RX9 nL ret) (eμ : up μ 2 i 1 x = μ') (hd : decode cc pc = .ok (.putfield 116, 3)) (k : V φ ΩA nL d (pc + 3) L rest μ' ρ) : V φ ΩA nL d pc L (.int x :: rf φ 2 i :: rest) μ ρ := V.puti F (mA2 hi) (ci := 0) (k := 1) (N := 5) (C := RX0) (T := TX0) (ty := .int) rfl rfl (by decide) in_RX0 tyX0 tyX0_ok nmX0 fl_RX9_116 rfl (by decide +kernel) rfl (by exact rfl) (by simp) rfl eμ hd k
theorem fl_RX0_16 : Cond.fieldLink RX0 16 "SewnUp$Groom" "thing" "I" ∈ lw_G := mG 130 (by decide +kernel) rfl
theorem gf_RX0_16 {φ : Fr} {cc : ByteArray} {nL : Nat} {ret : Option FieldType} {d pc : Nat} {L : List (Option Value)} {rest : List Value} {μ : Mem} {ρ : Option Value × Mem} {i : Nat} (hi : i < 12) (F : Fx φ ΩA cc RX0 nL ret) (hd : decode cc pc = .ok (.getfield 16, 3)) (k : V φ ΩA nL d (pc + 3) L (.int (rd μ 2 i 2) :: rest) μ ρ) : V φ ΩA nL d pc L (rf φ 2 i :: rest) μ ρ := V.getf F (mA2 hi) (ci := 0) (k := 2) (N := 5) (C := RX0) (T := TX0) rfl rfl (by decide) in_RX0 fl_RX0_16 rfl hd k
theorem pf_RX0_16 {φ : Fr} {cc : ByteArray} {nL : Nat} {ret : Option FieldType} {d pc : Nat} {L : List (Option Value)} {rest : List Value} {μ : Mem} {ρ : Option Value × Mem} {i : Nat} (hi : i < 12) {x : Int32} {μ' : Mem} (F : Fx φ ΩA cc RX0 nL ret) (eμ : up μ 2 i 2 x = μ') (hd : decode cc pc = .ok (.putfield 16, 3)) (k : V φ ΩA nL d (pc + 3) L rest μ' ρ) : V φ ΩA nL d pc L (.int x :: rf φ 2 i :: rest) μ ρ := V.puti F (mA2 hi) (ci := 0) (k := 2) (N := 5) (C := RX0) (T := TX0) (ty := .int) rfl rfl (by decide) in_RX0 tyX0 tyX0_ok nmX0 fl_RX0_16 rfl (by decide +kernel) rfl (by exact rfl) (by simp) rfl eμ hd k
theorem fl_RX9_121 : Cond.fieldLink RX9 121 "SewnUp$Groom" "thing" "I" ∈ lw_G := mG 131 (by decide +kernel) rfl
theorem gf_RX9_121 {φ : Fr} {cc : ByteArray} {nL : Nat} {ret : Option FieldType} {d pc : Nat} {L : List (Option Value)} {rest : List Value} {μ : Mem} {ρ : Option Value × Mem} {i : Nat} (hi : i < 12) (F : Fx φ ΩA cc RX9 nL ret) (hd : decode cc pc = .ok (.getfield 121, 3)) (k : V φ ΩA nL d (pc + 3) L (.int (rd μ 2 i 2) :: rest) μ ρ) : V φ ΩA nL d pc L (rf φ 2 i :: rest) μ ρ := V.getf F (mA2 hi) (ci := 0) (k := 2) (N := 5) (C := RX0) (T := TX0) rfl rfl (by decide) in_RX0 fl_RX9_121 rfl hd k
theorem pf_RX9_121 {φ : Fr} {cc : ByteArray} {nL : Nat} {ret : Option FieldType} {d pc : Nat} {L : List (Option Value)} {rest : List Value} {μ : Mem} {ρ : Option Value × Mem} {i : Nat} (hi : i < 12) {x : Int32} {μ' : Mem} (F : Fx φ ΩA cc RX9 nL ret) (eμ : up μ 2 i 2 x = μ') (hd : decode cc pc = .ok (.putfield 121, 3)) (k : V φ ΩA nL d (pc + 3) L rest μ' ρ) : V φ ΩA nL d pc L (.int x :: rf φ 2 i :: rest) μ ρ := V.puti F (mA2 hi) (ci := 0) (k := 2) (N := 5) (C := RX0) (T := TX0) (ty := .int) rfl rfl (by decide) in_RX0 tyX0 tyX0_ok nmX0 fl_RX9_121 rfl (by decide +kernel) rfl (by exact rfl) (by simp) rfl eμ hd k
theorem fl_RX0_19 : Cond.fieldLink RX0 19 "SewnUp$Groom" "temper" "I" ∈ lw_G := mG 132 (by decide +kernel) rfl
theorem gf_RX0_19 {φ : Fr} {cc : ByteArray} {nL : Nat} {ret : Option FieldType} {d pc : Nat} {L : List (Option Value)} {rest : List Value} {μ : Mem} {ρ : Option Value × Mem} {i : Nat} (hi : i < 12) (F : Fx φ ΩA cc RX0 nL ret) (hd : decode cc pc = .ok (.getfield 19, 3)) (k : V φ ΩA nL d (pc + 3) L (.int (rd μ 2 i 3) :: rest) μ ρ) : V φ ΩA nL d pc L (rf φ 2 i :: rest) μ ρ := V.getf F (mA2 hi) (ci := 0) (k := 3) (N := 5) (C := RX0) (T := TX0) rfl rfl (by decide) in_RX0 fl_RX0_19 rfl hd k
theorem pf_RX0_19 {φ : Fr} {cc : ByteArray} {nL : Nat} {ret : Option FieldType} {d pc : Nat} {L : List (Option Value)} {rest : List Value} {μ : Mem} {ρ : Option Value × Mem} {i : Nat} (hi : i < 12) {x : Int32} {μ' : Mem} (F : Fx φ ΩA cc RX0 nL ret) (eμ : up μ 2 i 3 x = μ') (hd : decode cc pc = .ok (.putfield 19, 3)) (k : V φ ΩA nL d (pc + 3) L rest μ' ρ) : V φ ΩA nL d pc L (.int x :: rf φ 2 i :: rest) μ ρ := V.puti F (mA2 hi) (ci := 0) (k := 3) (N := 5) (C := RX0) (T := TX0) (ty := .int) rfl rfl (by decide) in_RX0 tyX0 tyX0_ok nmX0 fl_RX0_19 rfl (by decide +kernel) rfl (by exact rfl) (by simp) rfl eμ hd k
theorem fl_RX9_124 : Cond.fieldLink RX9 124 "SewnUp$Groom" "temper" "I" ∈ lw_G := mG 133 (by decide +kernel) rfl
theorem gf_RX9_124 {φ : Fr} {cc : ByteArray} {nL : Nat} {ret : Option FieldType} {d pc : Nat} {L : List (Option Value)} {rest : List Value} {μ : Mem} {ρ : Option Value × Mem} {i : Nat} (hi : i < 12) (F : Fx φ ΩA cc RX9 nL ret) (hd : decode cc pc = .ok (.getfield 124, 3)) (k : V φ ΩA nL d (pc + 3) L (.int (rd μ 2 i 3) :: rest) μ ρ) : V φ ΩA nL d pc L (rf φ 2 i :: rest) μ ρ := V.getf F (mA2 hi) (ci := 0) (k := 3) (N := 5) (C := RX0) (T := TX0) rfl rfl (by decide) in_RX0 fl_RX9_124 rfl hd k
theorem pf_RX9_124 {φ : Fr} {cc : ByteArray} {nL : Nat} {ret : Option FieldType} {d pc : Nat} {L : List (Option Value)} {rest : List Value} {μ : Mem} {ρ : Option Value × Mem} {i : Nat} (hi : i < 12) {x : Int32} {μ' : Mem} (F : Fx φ ΩA cc RX9 nL ret) (eμ : up μ 2 i 3 x = μ') (hd : decode cc pc = .ok (.putfield 124, 3)) (k : V φ ΩA nL d (pc + 3) L rest μ' ρ) : V φ ΩA nL d pc L (.int x :: rf φ 2 i :: rest) μ ρ := V.puti F (mA2 hi) (ci := 0) (k := 3) (N := 5) (C := RX0) (T := TX0) (ty := .int) rfl rfl (by decide) in_RX0 tyX0 tyX0_ok nmX0 fl_RX9_124 rfl (by decide +kernel) rfl (by exact rfl) (by simp) rfl eμ hd k
theorem fl_RX1_35 : Cond.fieldLink RX1 35 "SewnUp$Groom" "temper" "I" ∈ lw_G := mG 134 (by decide +kernel) rfl
theorem gf_RX1_35 {φ : Fr} {cc : ByteArray} {nL : Nat} {ret : Option FieldType} {d pc : Nat} {L : List (Option Value)} {rest : List Value} {μ : Mem} {ρ : Option Value × Mem} {i : Nat} (hi : i < 12) (F : Fx φ ΩA cc RX1 nL ret) (hd : decode cc pc = .ok (.getfield 35, 3)) (k : V φ ΩA nL d (pc + 3) L (.int (rd μ 2 i 3) :: rest) μ ρ) : V φ ΩA nL d pc L (rf φ 2 i :: rest) μ ρ := V.getf F (mA2 hi) (ci := 0) (k := 3) (N := 5) (C := RX0) (T := TX0) rfl rfl (by decide) in_RX0 fl_RX1_35 rfl hd k
theorem pf_RX1_35 {φ : Fr} {cc : ByteArray} {nL : Nat} {ret : Option FieldType} {d pc : Nat} {L : List (Option Value)} {rest : List Value} {μ : Mem} {ρ : Option Value × Mem} {i : Nat} (hi : i < 12) {x : Int32} {μ' : Mem} (F : Fx φ ΩA cc RX1 nL ret) (eμ : up μ 2 i 3 x = μ') (hd : decode cc pc = .ok (.putfield 35, 3)) (k : V φ ΩA nL d (pc + 3) L rest μ' ρ) : V φ ΩA nL d pc L (.int x :: rf φ 2 i :: rest) μ ρ := V.puti F (mA2 hi) (ci := 0) (k := 3) (N := 5) (C := RX0) (T := TX0) (ty := .int) rfl rfl (by decide) in_RX0 tyX0 tyX0_ok nmX0 fl_RX1_35 rfl (by decide +kernel) rfl (by exact rfl) (by simp) rfl eμ hd k
theorem fl_RX0_22 : Cond.fieldLink RX0 22 "SewnUp$Groom" "wears" "I" ∈ lw_G := mG 135 (by decide +kernel) rfl
theorem gf_RX0_22 {φ : Fr} {cc : ByteArray} {nL : Nat} {ret : Option FieldType} {d pc : Nat} {L : List (Option Value)} {rest : List Value} {μ : Mem} {ρ : Option Value × Mem} {i : Nat} (hi : i < 12) (F : Fx φ ΩA cc RX0 nL ret) (hd : decode cc pc = .ok (.getfield 22, 3)) (k : V φ ΩA nL d (pc + 3) L (.int (rd μ 2 i 4) :: rest) μ ρ) : V φ ΩA nL d pc L (rf φ 2 i :: rest) μ ρ := V.getf F (mA2 hi) (ci := 0) (k := 4) (N := 5) (C := RX0) (T := TX0) rfl rfl (by decide) in_RX0 fl_RX0_22 rfl hd k
theorem pf_RX0_22 {φ : Fr} {cc : ByteArray} {nL : Nat} {ret : Option FieldType} {d pc : Nat} {L : List (Option Value)} {rest : List Value} {μ : Mem} {ρ : Option Value × Mem} {i : Nat} (hi : i < 12) {x : Int32} {μ' : Mem} (F : Fx φ ΩA cc RX0 nL ret) (eμ : up μ 2 i 4 x = μ') (hd : decode cc pc = .ok (.putfield 22, 3)) (k : V φ ΩA nL d (pc + 3) L rest μ' ρ) : V φ ΩA nL d pc L (.int x :: rf φ 2 i :: rest) μ ρ := V.puti F (mA2 hi) (ci := 0) (k := 4) (N := 5) (C := RX0) (T := TX0) (ty := .int) rfl rfl (by decide) in_RX0 tyX0 tyX0_ok nmX0 fl_RX0_22 rfl (by decide +kernel) rfl (by exact rfl) (by simp) rfl eμ hd k
theorem fl_RX9_137 : Cond.fieldLink RX9 137 "SewnUp$Groom" "wears" "I" ∈ lw_G := mG 136 (by decide +kernel) rfl
theorem gf_RX9_137 {φ : Fr} {cc : ByteArray} {nL : Nat} {ret : Option FieldType} {d pc : Nat} {L : List (Option Value)} {rest : List Value} {μ : Mem} {ρ : Option Value × Mem} {i : Nat} (hi : i < 12) (F : Fx φ ΩA cc RX9 nL ret) (hd : decode cc pc = .ok (.getfield 137, 3)) (k : V φ ΩA nL d (pc + 3) L (.int (rd μ 2 i 4) :: rest) μ ρ) : V φ ΩA nL d pc L (rf φ 2 i :: rest) μ ρ := V.getf F (mA2 hi) (ci := 0) (k := 4) (N := 5) (C := RX0) (T := TX0) rfl rfl (by decide) in_RX0 fl_RX9_137 rfl hd k
theorem pf_RX9_137 {φ : Fr} {cc : ByteArray} {nL : Nat} {ret : Option FieldType} {d pc : Nat} {L : List (Option Value)} {rest : List Value} {μ : Mem} {ρ : Option Value × Mem} {i : Nat} (hi : i < 12) {x : Int32} {μ' : Mem} (F : Fx φ ΩA cc RX9 nL ret) (eμ : up μ 2 i 4 x = μ') (hd : decode cc pc = .ok (.putfield 137, 3)) (k : V φ ΩA nL d (pc + 3) L rest μ' ρ) : V φ ΩA nL d pc L (.int x :: rf φ 2 i :: rest) μ ρ := V.puti F (mA2 hi) (ci := 0) (k := 4) (N := 5) (C := RX0) (T := TX0) (ty := .int) rfl rfl (by decide) in_RX0 tyX0 tyX0_ok nmX0 fl_RX9_137 rfl (by decide +kernel) rfl (by exact rfl) (by simp) rfl eμ hd k
theorem fl_RX1_9 : Cond.fieldLink RX1 9 "SewnUp$House" "day" "I" ∈ lw_G := mG 148 (by decide +kernel) rfl
theorem gf_RX1_9 {φ : Fr} {cc : ByteArray} {nL : Nat} {ret : Option FieldType} {d pc : Nat} {L : List (Option Value)} {rest : List Value} {μ : Mem} {ρ : Option Value × Mem} {i : Nat} (hi : i < 2) (F : Fx φ ΩA cc RX1 nL ret) (hd : decode cc pc = .ok (.getfield 9, 3)) (k : V φ ΩA nL d (pc + 3) L (.int (rd μ 1 i 0) :: rest) μ ρ) : V φ ΩA nL d pc L (rf φ 1 i :: rest) μ ρ := V.getf F (mA1 hi) (ci := 1) (k := 0) (N := 5) (C := RX1) (T := TX1) rfl rfl (by decide) in_RX1 fl_RX1_9 rfl hd k
theorem pf_RX1_9 {φ : Fr} {cc : ByteArray} {nL : Nat} {ret : Option FieldType} {d pc : Nat} {L : List (Option Value)} {rest : List Value} {μ : Mem} {ρ : Option Value × Mem} {i : Nat} (hi : i < 2) {x : Int32} {μ' : Mem} (F : Fx φ ΩA cc RX1 nL ret) (eμ : up μ 1 i 0 x = μ') (hd : decode cc pc = .ok (.putfield 9, 3)) (k : V φ ΩA nL d (pc + 3) L rest μ' ρ) : V φ ΩA nL d pc L (.int x :: rf φ 1 i :: rest) μ ρ := V.puti F (mA1 hi) (ci := 1) (k := 0) (N := 5) (C := RX1) (T := TX1) (ty := .int) rfl rfl (by decide) in_RX1 tyX1 tyX1_ok nmX1 fl_RX1_9 rfl (by decide +kernel) rfl (by exact rfl) (by simp) rfl eμ hd k
theorem fl_RX9_106 : Cond.fieldLink RX9 106 "SewnUp$House" "day" "I" ∈ lw_G := mG 149 (by decide +kernel) rfl
theorem gf_RX9_106 {φ : Fr} {cc : ByteArray} {nL : Nat} {ret : Option FieldType} {d pc : Nat} {L : List (Option Value)} {rest : List Value} {μ : Mem} {ρ : Option Value × Mem} {i : Nat} (hi : i < 2) (F : Fx φ ΩA cc RX9 nL ret) (hd : decode cc pc = .ok (.getfield 106, 3)) (k : V φ ΩA nL d (pc + 3) L (.int (rd μ 1 i 0) :: rest) μ ρ) : V φ ΩA nL d pc L (rf φ 1 i :: rest) μ ρ := V.getf F (mA1 hi) (ci := 1) (k := 0) (N := 5) (C := RX1) (T := TX1) rfl rfl (by decide) in_RX1 fl_RX9_106 rfl hd k
theorem pf_RX9_106 {φ : Fr} {cc : ByteArray} {nL : Nat} {ret : Option FieldType} {d pc : Nat} {L : List (Option Value)} {rest : List Value} {μ : Mem} {ρ : Option Value × Mem} {i : Nat} (hi : i < 2) {x : Int32} {μ' : Mem} (F : Fx φ ΩA cc RX9 nL ret) (eμ : up μ 1 i 0 x = μ') (hd : decode cc pc = .ok (.putfield 106, 3)) (k : V φ ΩA nL d (pc + 3) L rest μ' ρ) : V φ ΩA nL d pc L (.int x :: rf φ 1 i :: rest) μ ρ := V.puti F (mA1 hi) (ci := 1) (k := 0) (N := 5) (C := RX1) (T := TX1) (ty := .int) rfl rfl (by decide) in_RX1 tyX1 tyX1_ok nmX1 fl_RX9_106 rfl (by decide +kernel) rfl (by exact rfl) (by simp) rfl eμ hd k
theorem fl_RX1_15 : Cond.fieldLink RX1 15 "SewnUp$House" "limit" "I" ∈ lw_G := mG 150 (by decide +kernel) rfl
theorem gf_RX1_15 {φ : Fr} {cc : ByteArray} {nL : Nat} {ret : Option FieldType} {d pc : Nat} {L : List (Option Value)} {rest : List Value} {μ : Mem} {ρ : Option Value × Mem} {i : Nat} (hi : i < 2) (F : Fx φ ΩA cc RX1 nL ret) (hd : decode cc pc = .ok (.getfield 15, 3)) (k : V φ ΩA nL d (pc + 3) L (.int (rd μ 1 i 1) :: rest) μ ρ) : V φ ΩA nL d pc L (rf φ 1 i :: rest) μ ρ := V.getf F (mA1 hi) (ci := 1) (k := 1) (N := 5) (C := RX1) (T := TX1) rfl rfl (by decide) in_RX1 fl_RX1_15 rfl hd k
theorem pf_RX1_15 {φ : Fr} {cc : ByteArray} {nL : Nat} {ret : Option FieldType} {d pc : Nat} {L : List (Option Value)} {rest : List Value} {μ : Mem} {ρ : Option Value × Mem} {i : Nat} (hi : i < 2) {x : Int32} {μ' : Mem} (F : Fx φ ΩA cc RX1 nL ret) (eμ : up μ 1 i 1 x = μ') (hd : decode cc pc = .ok (.putfield 15, 3)) (k : V φ ΩA nL d (pc + 3) L rest μ' ρ) : V φ ΩA nL d pc L (.int x :: rf φ 1 i :: rest) μ ρ := V.puti F (mA1 hi) (ci := 1) (k := 1) (N := 5) (C := RX1) (T := TX1) (ty := .int) rfl rfl (by decide) in_RX1 tyX1 tyX1_ok nmX1 fl_RX1_15 rfl (by decide +kernel) rfl (by exact rfl) (by simp) rfl eμ hd k
theorem fl_RX9_109 : Cond.fieldLink RX9 109 "SewnUp$House" "limit" "I" ∈ lw_G := mG 151 (by decide +kernel) rfl
theorem gf_RX9_109 {φ : Fr} {cc : ByteArray} {nL : Nat} {ret : Option FieldType} {d pc : Nat} {L : List (Option Value)} {rest : List Value} {μ : Mem} {ρ : Option Value × Mem} {i : Nat} (hi : i < 2) (F : Fx φ ΩA cc RX9 nL ret) (hd : decode cc pc = .ok (.getfield 109, 3)) (k : V φ ΩA nL d (pc + 3) L (.int (rd μ 1 i 1) :: rest) μ ρ) : V φ ΩA nL d pc L (rf φ 1 i :: rest) μ ρ := V.getf F (mA1 hi) (ci := 1) (k := 1) (N := 5) (C := RX1) (T := TX1) rfl rfl (by decide) in_RX1 fl_RX9_109 rfl hd k
theorem pf_RX9_109 {φ : Fr} {cc : ByteArray} {nL : Nat} {ret : Option FieldType} {d pc : Nat} {L : List (Option Value)} {rest : List Value} {μ : Mem} {ρ : Option Value × Mem} {i : Nat} (hi : i < 2) {x : Int32} {μ' : Mem} (F : Fx φ ΩA cc RX9 nL ret) (eμ : up μ 1 i 1 x = μ') (hd : decode cc pc = .ok (.putfield 109, 3)) (k : V φ ΩA nL d (pc + 3) L rest μ' ρ) : V φ ΩA nL d pc L (.int x :: rf φ 1 i :: rest) μ ρ := V.puti F (mA1 hi) (ci := 1) (k := 1) (N := 5) (C := RX1) (T := TX1) (ty := .int) rfl rfl (by decide) in_RX1 tyX1 tyX1_ok nmX1 fl_RX9_109 rfl (by decide +kernel) rfl (by exact rfl) (by simp) rfl eμ hd k
theorem fl_RX1_18 : Cond.fieldLink RX1 18 "SewnUp$House" "rule" "I" ∈ lw_G := mG 152 (by decide +kernel) rfl
theorem gf_RX1_18 {φ : Fr} {cc : ByteArray} {nL : Nat} {ret : Option FieldType} {d pc : Nat} {L : List (Option Value)} {rest : List Value} {μ : Mem} {ρ : Option Value × Mem} {i : Nat} (hi : i < 2) (F : Fx φ ΩA cc RX1 nL ret) (hd : decode cc pc = .ok (.getfield 18, 3)) (k : V φ ΩA nL d (pc + 3) L (.int (rd μ 1 i 2) :: rest) μ ρ) : V φ ΩA nL d pc L (rf φ 1 i :: rest) μ ρ := V.getf F (mA1 hi) (ci := 1) (k := 2) (N := 5) (C := RX1) (T := TX1) rfl rfl (by decide) in_RX1 fl_RX1_18 rfl hd k
theorem pf_RX1_18 {φ : Fr} {cc : ByteArray} {nL : Nat} {ret : Option FieldType} {d pc : Nat} {L : List (Option Value)} {rest : List Value} {μ : Mem} {ρ : Option Value × Mem} {i : Nat} (hi : i < 2) {x : Int32} {μ' : Mem} (F : Fx φ ΩA cc RX1 nL ret) (eμ : up μ 1 i 2 x = μ') (hd : decode cc pc = .ok (.putfield 18, 3)) (k : V φ ΩA nL d (pc + 3) L rest μ' ρ) : V φ ΩA nL d pc L (.int x :: rf φ 1 i :: rest) μ ρ := V.puti F (mA1 hi) (ci := 1) (k := 2) (N := 5) (C := RX1) (T := TX1) (ty := .int) rfl rfl (by decide) in_RX1 tyX1 tyX1_ok nmX1 fl_RX1_18 rfl (by decide +kernel) rfl (by exact rfl) (by simp) rfl eμ hd k
theorem fl_RX9_167 : Cond.fieldLink RX9 167 "SewnUp$House" "rule" "I" ∈ lw_G := mG 153 (by decide +kernel) rfl
theorem gf_RX9_167 {φ : Fr} {cc : ByteArray} {nL : Nat} {ret : Option FieldType} {d pc : Nat} {L : List (Option Value)} {rest : List Value} {μ : Mem} {ρ : Option Value × Mem} {i : Nat} (hi : i < 2) (F : Fx φ ΩA cc RX9 nL ret) (hd : decode cc pc = .ok (.getfield 167, 3)) (k : V φ ΩA nL d (pc + 3) L (.int (rd μ 1 i 2) :: rest) μ ρ) : V φ ΩA nL d pc L (rf φ 1 i :: rest) μ ρ := V.getf F (mA1 hi) (ci := 1) (k := 2) (N := 5) (C := RX1) (T := TX1) rfl rfl (by decide) in_RX1 fl_RX9_167 rfl hd k
theorem pf_RX9_167 {φ : Fr} {cc : ByteArray} {nL : Nat} {ret : Option FieldType} {d pc : Nat} {L : List (Option Value)} {rest : List Value} {μ : Mem} {ρ : Option Value × Mem} {i : Nat} (hi : i < 2) {x : Int32} {μ' : Mem} (F : Fx φ ΩA cc RX9 nL ret) (eμ : up μ 1 i 2 x = μ') (hd : decode cc pc = .ok (.putfield 167, 3)) (k : V φ ΩA nL d (pc + 3) L rest μ' ρ) : V φ ΩA nL d pc L (.int x :: rf φ 1 i :: rest) μ ρ := V.puti F (mA1 hi) (ci := 1) (k := 2) (N := 5) (C := RX1) (T := TX1) (ty := .int) rfl rfl (by decide) in_RX1 tyX1 tyX1_ok nmX1 fl_RX9_167 rfl (by decide +kernel) rfl (by exact rfl) (by simp) rfl eμ hd k
theorem fl_RX1_21 : Cond.fieldLink RX1 21 "SewnUp$House" "size" "I" ∈ lw_G := mG 154 (by decide +kernel) rfl
theorem gf_RX1_21 {φ : Fr} {cc : ByteArray} {nL : Nat} {ret : Option FieldType} {d pc : Nat} {L : List (Option Value)} {rest : List Value} {μ : Mem} {ρ : Option Value × Mem} {i : Nat} (hi : i < 2) (F : Fx φ ΩA cc RX1 nL ret) (hd : decode cc pc = .ok (.getfield 21, 3)) (k : V φ ΩA nL d (pc + 3) L (.int (rd μ 1 i 3) :: rest) μ ρ) : V φ ΩA nL d pc L (rf φ 1 i :: rest) μ ρ := V.getf F (mA1 hi) (ci := 1) (k := 3) (N := 5) (C := RX1) (T := TX1) rfl rfl (by decide) in_RX1 fl_RX1_21 rfl hd k
theorem pf_RX1_21 {φ : Fr} {cc : ByteArray} {nL : Nat} {ret : Option FieldType} {d pc : Nat} {L : List (Option Value)} {rest : List Value} {μ : Mem} {ρ : Option Value × Mem} {i : Nat} (hi : i < 2) {x : Int32} {μ' : Mem} (F : Fx φ ΩA cc RX1 nL ret) (eμ : up μ 1 i 3 x = μ') (hd : decode cc pc = .ok (.putfield 21, 3)) (k : V φ ΩA nL d (pc + 3) L rest μ' ρ) : V φ ΩA nL d pc L (.int x :: rf φ 1 i :: rest) μ ρ := V.puti F (mA1 hi) (ci := 1) (k := 3) (N := 5) (C := RX1) (T := TX1) (ty := .int) rfl rfl (by decide) in_RX1 tyX1 tyX1_ok nmX1 fl_RX1_21 rfl (by decide +kernel) rfl (by exact rfl) (by simp) rfl eμ hd k
theorem fl_RX9_131 : Cond.fieldLink RX9 131 "SewnUp$House" "size" "I" ∈ lw_G := mG 155 (by decide +kernel) rfl
theorem gf_RX9_131 {φ : Fr} {cc : ByteArray} {nL : Nat} {ret : Option FieldType} {d pc : Nat} {L : List (Option Value)} {rest : List Value} {μ : Mem} {ρ : Option Value × Mem} {i : Nat} (hi : i < 2) (F : Fx φ ΩA cc RX9 nL ret) (hd : decode cc pc = .ok (.getfield 131, 3)) (k : V φ ΩA nL d (pc + 3) L (.int (rd μ 1 i 3) :: rest) μ ρ) : V φ ΩA nL d pc L (rf φ 1 i :: rest) μ ρ := V.getf F (mA1 hi) (ci := 1) (k := 3) (N := 5) (C := RX1) (T := TX1) rfl rfl (by decide) in_RX1 fl_RX9_131 rfl hd k
theorem pf_RX9_131 {φ : Fr} {cc : ByteArray} {nL : Nat} {ret : Option FieldType} {d pc : Nat} {L : List (Option Value)} {rest : List Value} {μ : Mem} {ρ : Option Value × Mem} {i : Nat} (hi : i < 2) {x : Int32} {μ' : Mem} (F : Fx φ ΩA cc RX9 nL ret) (eμ : up μ 1 i 3 x = μ') (hd : decode cc pc = .ok (.putfield 131, 3)) (k : V φ ΩA nL d (pc + 3) L rest μ' ρ) : V φ ΩA nL d pc L (.int x :: rf φ 1 i :: rest) μ ρ := V.puti F (mA1 hi) (ci := 1) (k := 3) (N := 5) (C := RX1) (T := TX1) (ty := .int) rfl rfl (by decide) in_RX1 tyX1 tyX1_ok nmX1 fl_RX9_131 rfl (by decide +kernel) rfl (by exact rfl) (by simp) rfl eμ hd k
theorem fl_RX1_26 : Cond.fieldLink RX1 26 "SewnUp$House" "grooms" "[LSewnUp$Groom;" ∈ lw_G := mG 156 (by decide +kernel) rfl
theorem gf_RX1_26 {φ : Fr} {cc : ByteArray} {nL : Nat} {ret : Option FieldType} {d pc : Nat} {L : List (Option Value)} {rest : List Value} {μ : Mem} {ρ : Option Value × Mem} {i : Nat} (hi : i < 2) (F : Fx φ ΩA cc RX1 nL ret) (hd : decode cc pc = .ok (.getfield 26, 3)) (k : V φ ΩA nL d (pc + 3) L (rf φ 3 i :: rest) μ ρ) : V φ ΩA nL d pc L (rf φ 1 i :: rest) μ ρ := V.getf F (mA1 hi) (ci := 1) (k := 4) (N := 5) (C := RX1) (T := TX1) rfl rfl (by decide) in_RX1 fl_RX1_26 rfl hd k
theorem fl_RX9_112 : Cond.fieldLink RX9 112 "SewnUp$House" "grooms" "[LSewnUp$Groom;" ∈ lw_G := mG 157 (by decide +kernel) rfl
theorem gf_RX9_112 {φ : Fr} {cc : ByteArray} {nL : Nat} {ret : Option FieldType} {d pc : Nat} {L : List (Option Value)} {rest : List Value} {μ : Mem} {ρ : Option Value × Mem} {i : Nat} (hi : i < 2) (F : Fx φ ΩA cc RX9 nL ret) (hd : decode cc pc = .ok (.getfield 112, 3)) (k : V φ ΩA nL d (pc + 3) L (rf φ 3 i :: rest) μ ρ) : V φ ΩA nL d pc L (rf φ 1 i :: rest) μ ρ := V.getf F (mA1 hi) (ci := 1) (k := 4) (N := 5) (C := RX1) (T := TX1) rfl rfl (by decide) in_RX1 fl_RX9_112 rfl hd k
theorem fl_RX6_9 : Cond.fieldLink RX6 9 "SewnUp$Tape" "bytes" "[I" ∈ lw_G := mG 183 (by decide +kernel) rfl
theorem gf_RX6_9 {φ : Fr} {cc : ByteArray} {nL : Nat} {ret : Option FieldType} {d pc : Nat} {L : List (Option Value)} {rest : List Value} {μ : Mem} {ρ : Option Value × Mem} (F : Fx φ ΩA cc RX6 nL ret) (hd : decode cc pc = .ok (.getfield 9, 3)) (k : V φ ΩA nL d (pc + 3) L (rf φ 11 0 :: rest) μ ρ) : V φ ΩA nL d pc L (rf φ 10 0 :: rest) μ ρ := V.getf F mA10 (ci := 6) (k := 0) (N := 6) (C := RX6) (T := TX6) rfl rfl (by decide) in_RX6 fl_RX6_9 rfl hd k
theorem fl_RX9_184 : Cond.fieldLink RX9 184 "SewnUp$Tape" "bytes" "[I" ∈ lw_G := mG 184 (by decide +kernel) rfl
theorem gf_RX9_184 {φ : Fr} {cc : ByteArray} {nL : Nat} {ret : Option FieldType} {d pc : Nat} {L : List (Option Value)} {rest : List Value} {μ : Mem} {ρ : Option Value × Mem} (F : Fx φ ΩA cc RX9 nL ret) (hd : decode cc pc = .ok (.getfield 184, 3)) (k : V φ ΩA nL d (pc + 3) L (rf φ 11 0 :: rest) μ ρ) : V φ ΩA nL d pc L (rf φ 10 0 :: rest) μ ρ := V.getf F mA10 (ci := 6) (k := 0) (N := 6) (C := RX6) (T := TX6) rfl rfl (by decide) in_RX6 fl_RX9_184 rfl hd k
theorem fl_RX6_15 : Cond.fieldLink RX6 15 "SewnUp$Tape" "size" "I" ∈ lw_G := mG 185 (by decide +kernel) rfl
theorem gf_RX6_15 {φ : Fr} {cc : ByteArray} {nL : Nat} {ret : Option FieldType} {d pc : Nat} {L : List (Option Value)} {rest : List Value} {μ : Mem} {ρ : Option Value × Mem} (F : Fx φ ΩA cc RX6 nL ret) (hd : decode cc pc = .ok (.getfield 15, 3)) (k : V φ ΩA nL d (pc + 3) L (.int (rd μ 10 0 1) :: rest) μ ρ) : V φ ΩA nL d pc L (rf φ 10 0 :: rest) μ ρ := V.getf F mA10 (ci := 6) (k := 1) (N := 6) (C := RX6) (T := TX6) rfl rfl (by decide) in_RX6 fl_RX6_15 rfl hd k
theorem pf_RX6_15 {φ : Fr} {cc : ByteArray} {nL : Nat} {ret : Option FieldType} {d pc : Nat} {L : List (Option Value)} {rest : List Value} {μ : Mem} {ρ : Option Value × Mem} {x : Int32} {μ' : Mem} (F : Fx φ ΩA cc RX6 nL ret) (eμ : up μ 10 0 1 x = μ') (hd : decode cc pc = .ok (.putfield 15, 3)) (k : V φ ΩA nL d (pc + 3) L rest μ' ρ) : V φ ΩA nL d pc L (.int x :: rf φ 10 0 :: rest) μ ρ := V.puti F mA10 (ci := 6) (k := 1) (N := 6) (C := RX6) (T := TX6) (ty := .int) rfl rfl (by decide) in_RX6 tyX6 tyX6_ok nmX6 fl_RX6_15 rfl (by decide +kernel) rfl (by exact rfl) (by simp) rfl eμ hd k
theorem fl_RX4_43 : Cond.fieldLink RX4 43 "SewnUp$Tape" "size" "I" ∈ lw_G := mG 186 (by decide +kernel) rfl
theorem gf_RX4_43 {φ : Fr} {cc : ByteArray} {nL : Nat} {ret : Option FieldType} {d pc : Nat} {L : List (Option Value)} {rest : List Value} {μ : Mem} {ρ : Option Value × Mem} (F : Fx φ ΩA cc RX4 nL ret) (hd : decode cc pc = .ok (.getfield 43, 3)) (k : V φ ΩA nL d (pc + 3) L (.int (rd μ 10 0 1) :: rest) μ ρ) : V φ ΩA nL d pc L (rf φ 10 0 :: rest) μ ρ := V.getf F mA10 (ci := 6) (k := 1) (N := 6) (C := RX6) (T := TX6) rfl rfl (by decide) in_RX6 fl_RX4_43 rfl hd k
theorem pf_RX4_43 {φ : Fr} {cc : ByteArray} {nL : Nat} {ret : Option FieldType} {d pc : Nat} {L : List (Option Value)} {rest : List Value} {μ : Mem} {ρ : Option Value × Mem} {x : Int32} {μ' : Mem} (F : Fx φ ΩA cc RX4 nL ret) (eμ : up μ 10 0 1 x = μ') (hd : decode cc pc = .ok (.putfield 43, 3)) (k : V φ ΩA nL d (pc + 3) L rest μ' ρ) : V φ ΩA nL d pc L (.int x :: rf φ 10 0 :: rest) μ ρ := V.puti F mA10 (ci := 6) (k := 1) (N := 6) (C := RX6) (T := TX6) (ty := .int) rfl rfl (by decide) in_RX6 tyX6 tyX6_ok nmX6 fl_RX4_43 rfl (by decide +kernel) rfl (by exact rfl) (by simp) rfl eμ hd k
theorem fl_RX9_183 : Cond.fieldLink RX9 183 "SewnUp$Tape" "size" "I" ∈ lw_G := mG 187 (by decide +kernel) rfl
theorem gf_RX9_183 {φ : Fr} {cc : ByteArray} {nL : Nat} {ret : Option FieldType} {d pc : Nat} {L : List (Option Value)} {rest : List Value} {μ : Mem} {ρ : Option Value × Mem} (F : Fx φ ΩA cc RX9 nL ret) (hd : decode cc pc = .ok (.getfield 183, 3)) (k : V φ ΩA nL d (pc + 3) L (.int (rd μ 10 0 1) :: rest) μ ρ) : V φ ΩA nL d pc L (rf φ 10 0 :: rest) μ ρ := V.getf F mA10 (ci := 6) (k := 1) (N := 6) (C := RX6) (T := TX6) rfl rfl (by decide) in_RX6 fl_RX9_183 rfl hd k
theorem pf_RX9_183 {φ : Fr} {cc : ByteArray} {nL : Nat} {ret : Option FieldType} {d pc : Nat} {L : List (Option Value)} {rest : List Value} {μ : Mem} {ρ : Option Value × Mem} {x : Int32} {μ' : Mem} (F : Fx φ ΩA cc RX9 nL ret) (eμ : up μ 10 0 1 x = μ') (hd : decode cc pc = .ok (.putfield 183, 3)) (k : V φ ΩA nL d (pc + 3) L rest μ' ρ) : V φ ΩA nL d pc L (.int x :: rf φ 10 0 :: rest) μ ρ := V.puti F mA10 (ci := 6) (k := 1) (N := 6) (C := RX6) (T := TX6) (ty := .int) rfl rfl (by decide) in_RX6 tyX6 tyX6_ok nmX6 fl_RX9_183 rfl (by decide +kernel) rfl (by exact rfl) (by simp) rfl eμ hd k
theorem fl_RX6_19 : Cond.fieldLink RX6 19 "SewnUp$Tape" "tokens" "[I" ∈ lw_G := mG 188 (by decide +kernel) rfl
theorem gf_RX6_19 {φ : Fr} {cc : ByteArray} {nL : Nat} {ret : Option FieldType} {d pc : Nat} {L : List (Option Value)} {rest : List Value} {μ : Mem} {ρ : Option Value × Mem} (F : Fx φ ΩA cc RX6 nL ret) (hd : decode cc pc = .ok (.getfield 19, 3)) (k : V φ ΩA nL d (pc + 3) L (rf φ 12 0 :: rest) μ ρ) : V φ ΩA nL d pc L (rf φ 10 0 :: rest) μ ρ := V.getf F mA10 (ci := 6) (k := 2) (N := 6) (C := RX6) (T := TX6) rfl rfl (by decide) in_RX6 fl_RX6_19 rfl hd k
theorem fl_RX4_35 : Cond.fieldLink RX4 35 "SewnUp$Tape" "tokens" "[I" ∈ lw_G := mG 189 (by decide +kernel) rfl
theorem gf_RX4_35 {φ : Fr} {cc : ByteArray} {nL : Nat} {ret : Option FieldType} {d pc : Nat} {L : List (Option Value)} {rest : List Value} {μ : Mem} {ρ : Option Value × Mem} (F : Fx φ ΩA cc RX4 nL ret) (hd : decode cc pc = .ok (.getfield 35, 3)) (k : V φ ΩA nL d (pc + 3) L (rf φ 12 0 :: rest) μ ρ) : V φ ΩA nL d pc L (rf φ 10 0 :: rest) μ ρ := V.getf F mA10 (ci := 6) (k := 2) (N := 6) (C := RX6) (T := TX6) rfl rfl (by decide) in_RX6 fl_RX4_35 rfl hd k
theorem fl_RX6_22 : Cond.fieldLink RX6 22 "SewnUp$Tape" "places" "[I" ∈ lw_G := mG 190 (by decide +kernel) rfl
theorem gf_RX6_22 {φ : Fr} {cc : ByteArray} {nL : Nat} {ret : Option FieldType} {d pc : Nat} {L : List (Option Value)} {rest : List Value} {μ : Mem} {ρ : Option Value × Mem} (F : Fx φ ΩA cc RX6 nL ret) (hd : decode cc pc = .ok (.getfield 22, 3)) (k : V φ ΩA nL d (pc + 3) L (rf φ 13 0 :: rest) μ ρ) : V φ ΩA nL d pc L (rf φ 10 0 :: rest) μ ρ := V.getf F mA10 (ci := 6) (k := 3) (N := 6) (C := RX6) (T := TX6) rfl rfl (by decide) in_RX6 fl_RX6_22 rfl hd k
theorem fl_RX4_46 : Cond.fieldLink RX4 46 "SewnUp$Tape" "places" "[I" ∈ lw_G := mG 191 (by decide +kernel) rfl
theorem gf_RX4_46 {φ : Fr} {cc : ByteArray} {nL : Nat} {ret : Option FieldType} {d pc : Nat} {L : List (Option Value)} {rest : List Value} {μ : Mem} {ρ : Option Value × Mem} (F : Fx φ ΩA cc RX4 nL ret) (hd : decode cc pc = .ok (.getfield 46, 3)) (k : V φ ΩA nL d (pc + 3) L (rf φ 13 0 :: rest) μ ρ) : V φ ΩA nL d pc L (rf φ 10 0 :: rest) μ ρ := V.getf F mA10 (ci := 6) (k := 3) (N := 6) (C := RX6) (T := TX6) rfl rfl (by decide) in_RX6 fl_RX4_46 rfl hd k
theorem fl_RX6_25 : Cond.fieldLink RX6 25 "SewnUp$Tape" "values" "[I" ∈ lw_G := mG 192 (by decide +kernel) rfl
theorem gf_RX6_25 {φ : Fr} {cc : ByteArray} {nL : Nat} {ret : Option FieldType} {d pc : Nat} {L : List (Option Value)} {rest : List Value} {μ : Mem} {ρ : Option Value × Mem} (F : Fx φ ΩA cc RX6 nL ret) (hd : decode cc pc = .ok (.getfield 25, 3)) (k : V φ ΩA nL d (pc + 3) L (rf φ 14 0 :: rest) μ ρ) : V φ ΩA nL d pc L (rf φ 10 0 :: rest) μ ρ := V.getf F mA10 (ci := 6) (k := 4) (N := 6) (C := RX6) (T := TX6) rfl rfl (by decide) in_RX6 fl_RX6_25 rfl hd k
theorem fl_RX4_84 : Cond.fieldLink RX4 84 "SewnUp$Tape" "values" "[I" ∈ lw_G := mG 193 (by decide +kernel) rfl
theorem gf_RX4_84 {φ : Fr} {cc : ByteArray} {nL : Nat} {ret : Option FieldType} {d pc : Nat} {L : List (Option Value)} {rest : List Value} {μ : Mem} {ρ : Option Value × Mem} (F : Fx φ ΩA cc RX4 nL ret) (hd : decode cc pc = .ok (.getfield 84, 3)) (k : V φ ΩA nL d (pc + 3) L (rf φ 14 0 :: rest) μ ρ) : V φ ΩA nL d pc L (rf φ 10 0 :: rest) μ ρ := V.getf F mA10 (ci := 6) (k := 4) (N := 6) (C := RX6) (T := TX6) rfl rfl (by decide) in_RX6 fl_RX4_84 rfl hd k
theorem fl_RX6_28 : Cond.fieldLink RX6 28 "SewnUp$Tape" "next" "I" ∈ lw_G := mG 194 (by decide +kernel) rfl
theorem gf_RX6_28 {φ : Fr} {cc : ByteArray} {nL : Nat} {ret : Option FieldType} {d pc : Nat} {L : List (Option Value)} {rest : List Value} {μ : Mem} {ρ : Option Value × Mem} (F : Fx φ ΩA cc RX6 nL ret) (hd : decode cc pc = .ok (.getfield 28, 3)) (k : V φ ΩA nL d (pc + 3) L (.int (rd μ 10 0 5) :: rest) μ ρ) : V φ ΩA nL d pc L (rf φ 10 0 :: rest) μ ρ := V.getf F mA10 (ci := 6) (k := 5) (N := 6) (C := RX6) (T := TX6) rfl rfl (by decide) in_RX6 fl_RX6_28 rfl hd k
theorem pf_RX6_28 {φ : Fr} {cc : ByteArray} {nL : Nat} {ret : Option FieldType} {d pc : Nat} {L : List (Option Value)} {rest : List Value} {μ : Mem} {ρ : Option Value × Mem} {x : Int32} {μ' : Mem} (F : Fx φ ΩA cc RX6 nL ret) (eμ : up μ 10 0 5 x = μ') (hd : decode cc pc = .ok (.putfield 28, 3)) (k : V φ ΩA nL d (pc + 3) L rest μ' ρ) : V φ ΩA nL d pc L (.int x :: rf φ 10 0 :: rest) μ ρ := V.puti F mA10 (ci := 6) (k := 5) (N := 6) (C := RX6) (T := TX6) (ty := .int) rfl rfl (by decide) in_RX6 tyX6 tyX6_ok nmX6 fl_RX6_28 rfl (by decide +kernel) rfl (by exact rfl) (by simp) rfl eμ hd k
theorem fl_RX4_12 : Cond.fieldLink RX4 12 "SewnUp$Reader" "tape" "LSewnUp$Tape;" ∈ lw_G := mG 209 (by decide +kernel) rfl
theorem gf_RX4_12 {φ : Fr} {cc : ByteArray} {nL : Nat} {ret : Option FieldType} {d pc : Nat} {L : List (Option Value)} {rest : List Value} {μ : Mem} {ρ : Option Value × Mem} (F : Fx φ ΩA cc RX4 nL ret) (hd : decode cc pc = .ok (.getfield 12, 3)) (k : V φ ΩA nL d (pc + 3) L (rf φ 10 0 :: rest) μ ρ) : V φ ΩA nL d pc L (rf φ 9 0 :: rest) μ ρ := V.getf F mA9 (ci := 4) (k := 0) (N := 5) (C := RX4) (T := TX4) rfl rfl (by decide) in_RX4 fl_RX4_12 rfl hd k
theorem fl_RX9_78 : Cond.fieldLink RX9 78 "SewnUp$Reader" "tape" "LSewnUp$Tape;" ∈ lw_G := mG 210 (by decide +kernel) rfl
theorem gf_RX9_78 {φ : Fr} {cc : ByteArray} {nL : Nat} {ret : Option FieldType} {d pc : Nat} {L : List (Option Value)} {rest : List Value} {μ : Mem} {ρ : Option Value × Mem} (F : Fx φ ΩA cc RX9 nL ret) (hd : decode cc pc = .ok (.getfield 78, 3)) (k : V φ ΩA nL d (pc + 3) L (rf φ 10 0 :: rest) μ ρ) : V φ ΩA nL d pc L (rf φ 9 0 :: rest) μ ρ := V.getf F mA9 (ci := 4) (k := 0) (N := 5) (C := RX4) (T := TX4) rfl rfl (by decide) in_RX4 fl_RX9_78 rfl hd k
theorem fl_RX4_18 : Cond.fieldLink RX4 18 "SewnUp$Reader" "into" "LSewnUp$Text;" ∈ lw_G := mG 211 (by decide +kernel) rfl
theorem gf_RX4_18 {φ : Fr} {cc : ByteArray} {nL : Nat} {ret : Option FieldType} {d pc : Nat} {L : List (Option Value)} {rest : List Value} {μ : Mem} {ρ : Option Value × Mem} (F : Fx φ ΩA cc RX4 nL ret) (hd : decode cc pc = .ok (.getfield 18, 3)) (k : V φ ΩA nL d (pc + 3) L (inV (gl φ).1 (rd μ 9 0 1) :: rest) μ ρ) : V φ ΩA nL d pc L (rf φ 9 0 :: rest) μ ρ := V.getf F mA9 (ci := 4) (k := 1) (N := 5) (C := RX4) (T := TX4) rfl rfl (by decide) in_RX4 fl_RX4_18 rfl hd k
theorem pf_RX4_18 {φ : Fr} {cc : ByteArray} {nL : Nat} {ret : Option FieldType} {d pc : Nat} {L : List (Option Value)} {rest : List Value} {μ : Mem} {ρ : Option Value × Mem} {x : Int32} {t : Nat} {μ' : Mem} (hx : x = nI t) (ht : t < 6) (F : Fx φ ΩA cc RX4 nL ret) (eμ : up μ 9 0 1 x = μ') (hd : decode cc pc = .ok (.putfield 18, 3)) (k : V φ ΩA nL d (pc + 3) L rest μ' ρ) : V φ ΩA nL d pc L (rf φ 5 t :: rf φ 9 0 :: rest) μ ρ := by
  subst eμ
  exact V.putf (μ' := up μ 9 0 1 x) F mA9 (ci := 4) (k := 1) (N := 5) (C := RX4) (T := TX4) (ty := .object "SewnUp$Text") rfl rfl (by decide) in_RX4 tyX4 tyX4_ok nmX4 fl_RX4_18 rfl (by decide +kernel) rfl rfl (by simp) (by rw [up_row]; subst hx; exact inV_fs (cy := (gl φ).2.2.1) μ ht) (fun f' i' _ h => by rw [up_off μ x (fun q => h (by rw [q.1, q.2]))]; rfl) hd k
theorem fl_RX4_22 : Cond.fieldLink RX4 22 "SewnUp$Reader" "length" "I" ∈ lw_G := mG 212 (by decide +kernel) rfl
theorem gf_RX4_22 {φ : Fr} {cc : ByteArray} {nL : Nat} {ret : Option FieldType} {d pc : Nat} {L : List (Option Value)} {rest : List Value} {μ : Mem} {ρ : Option Value × Mem} (F : Fx φ ΩA cc RX4 nL ret) (hd : decode cc pc = .ok (.getfield 22, 3)) (k : V φ ΩA nL d (pc + 3) L (.int (rd μ 9 0 2) :: rest) μ ρ) : V φ ΩA nL d pc L (rf φ 9 0 :: rest) μ ρ := V.getf F mA9 (ci := 4) (k := 2) (N := 5) (C := RX4) (T := TX4) rfl rfl (by decide) in_RX4 fl_RX4_22 rfl hd k
theorem pf_RX4_22 {φ : Fr} {cc : ByteArray} {nL : Nat} {ret : Option FieldType} {d pc : Nat} {L : List (Option Value)} {rest : List Value} {μ : Mem} {ρ : Option Value × Mem} {x : Int32} {μ' : Mem} (F : Fx φ ΩA cc RX4 nL ret) (eμ : up μ 9 0 2 x = μ') (hd : decode cc pc = .ok (.putfield 22, 3)) (k : V φ ΩA nL d (pc + 3) L rest μ' ρ) : V φ ΩA nL d pc L (.int x :: rf φ 9 0 :: rest) μ ρ := V.puti F mA9 (ci := 4) (k := 2) (N := 5) (C := RX4) (T := TX4) (ty := .int) rfl rfl (by decide) in_RX4 tyX4 tyX4_ok nmX4 fl_RX4_22 rfl (by decide +kernel) rfl (by exact rfl) (by simp) rfl eμ hd k
theorem fl_RX4_26 : Cond.fieldLink RX4 26 "SewnUp$Reader" "at" "I" ∈ lw_G := mG 213 (by decide +kernel) rfl
theorem gf_RX4_26 {φ : Fr} {cc : ByteArray} {nL : Nat} {ret : Option FieldType} {d pc : Nat} {L : List (Option Value)} {rest : List Value} {μ : Mem} {ρ : Option Value × Mem} (F : Fx φ ΩA cc RX4 nL ret) (hd : decode cc pc = .ok (.getfield 26, 3)) (k : V φ ΩA nL d (pc + 3) L (.int (rd μ 9 0 3) :: rest) μ ρ) : V φ ΩA nL d pc L (rf φ 9 0 :: rest) μ ρ := V.getf F mA9 (ci := 4) (k := 3) (N := 5) (C := RX4) (T := TX4) rfl rfl (by decide) in_RX4 fl_RX4_26 rfl hd k
theorem pf_RX4_26 {φ : Fr} {cc : ByteArray} {nL : Nat} {ret : Option FieldType} {d pc : Nat} {L : List (Option Value)} {rest : List Value} {μ : Mem} {ρ : Option Value × Mem} {x : Int32} {μ' : Mem} (F : Fx φ ΩA cc RX4 nL ret) (eμ : up μ 9 0 3 x = μ') (hd : decode cc pc = .ok (.putfield 26, 3)) (k : V φ ΩA nL d (pc + 3) L rest μ' ρ) : V φ ΩA nL d pc L (.int x :: rf φ 9 0 :: rest) μ ρ := V.puti F mA9 (ci := 4) (k := 3) (N := 5) (C := RX4) (T := TX4) (ty := .int) rfl rfl (by decide) in_RX4 tyX4 tyX4_ok nmX4 fl_RX4_26 rfl (by decide +kernel) rfl (by exact rfl) (by simp) rfl eμ hd k
theorem fl_RX4_29 : Cond.fieldLink RX4 29 "SewnUp$Reader" "token" "I" ∈ lw_G := mG 214 (by decide +kernel) rfl
theorem gf_RX4_29 {φ : Fr} {cc : ByteArray} {nL : Nat} {ret : Option FieldType} {d pc : Nat} {L : List (Option Value)} {rest : List Value} {μ : Mem} {ρ : Option Value × Mem} (F : Fx φ ΩA cc RX4 nL ret) (hd : decode cc pc = .ok (.getfield 29, 3)) (k : V φ ΩA nL d (pc + 3) L (.int (rd μ 9 0 4) :: rest) μ ρ) : V φ ΩA nL d pc L (rf φ 9 0 :: rest) μ ρ := V.getf F mA9 (ci := 4) (k := 4) (N := 5) (C := RX4) (T := TX4) rfl rfl (by decide) in_RX4 fl_RX4_29 rfl hd k
theorem pf_RX4_29 {φ : Fr} {cc : ByteArray} {nL : Nat} {ret : Option FieldType} {d pc : Nat} {L : List (Option Value)} {rest : List Value} {μ : Mem} {ρ : Option Value × Mem} {x : Int32} {μ' : Mem} (F : Fx φ ΩA cc RX4 nL ret) (eμ : up μ 9 0 4 x = μ') (hd : decode cc pc = .ok (.putfield 29, 3)) (k : V φ ΩA nL d (pc + 3) L rest μ' ρ) : V φ ΩA nL d pc L (.int x :: rf φ 9 0 :: rest) μ ρ := V.puti F mA9 (ci := 4) (k := 4) (N := 5) (C := RX4) (T := TX4) (ty := .int) rfl rfl (by decide) in_RX4 tyX4 tyX4_ok nmX4 fl_RX4_29 rfl (by decide +kernel) rfl (by exact rfl) (by simp) rfl eμ hd k
theorem fl_RX2_9 : Cond.fieldLink RX2 9 "SewnUp$Man" "kind" "I" ∈ lw_G := mG 234 (by decide +kernel) rfl
theorem gf_RX2_9 {φ : Fr} {cc : ByteArray} {nL : Nat} {ret : Option FieldType} {d pc : Nat} {L : List (Option Value)} {rest : List Value} {μ : Mem} {ρ : Option Value × Mem} (F : Fx φ ΩA cc RX2 nL ret) (hd : decode cc pc = .ok (.getfield 9, 3)) (k : V φ ΩA nL d (pc + 3) L (.int (rd μ 18 0 0) :: rest) μ ρ) : V φ ΩA nL d pc L (rf φ 18 0 :: rest) μ ρ := V.getf F mA18 (ci := 2) (k := 0) (N := 10) (C := RX2) (T := TX2) rfl rfl (by decide) in_RX2 fl_RX2_9 rfl hd k
theorem pf_RX2_9 {φ : Fr} {cc : ByteArray} {nL : Nat} {ret : Option FieldType} {d pc : Nat} {L : List (Option Value)} {rest : List Value} {μ : Mem} {ρ : Option Value × Mem} {x : Int32} {μ' : Mem} (F : Fx φ ΩA cc RX2 nL ret) (eμ : up μ 18 0 0 x = μ') (hd : decode cc pc = .ok (.putfield 9, 3)) (k : V φ ΩA nL d (pc + 3) L rest μ' ρ) : V φ ΩA nL d pc L (.int x :: rf φ 18 0 :: rest) μ ρ := V.puti F mA18 (ci := 2) (k := 0) (N := 10) (C := RX2) (T := TX2) (ty := .int) rfl rfl (by decide) in_RX2 tyX2 tyX2_ok nmX2 fl_RX2_9 rfl (by decide +kernel) rfl (by exact rfl) (by simp) rfl eμ hd k
theorem fl_RX9_147 : Cond.fieldLink RX9 147 "SewnUp$Man" "kind" "I" ∈ lw_G := mG 235 (by decide +kernel) rfl
theorem gf_RX9_147 {φ : Fr} {cc : ByteArray} {nL : Nat} {ret : Option FieldType} {d pc : Nat} {L : List (Option Value)} {rest : List Value} {μ : Mem} {ρ : Option Value × Mem} (F : Fx φ ΩA cc RX9 nL ret) (hd : decode cc pc = .ok (.getfield 147, 3)) (k : V φ ΩA nL d (pc + 3) L (.int (rd μ 18 0 0) :: rest) μ ρ) : V φ ΩA nL d pc L (rf φ 18 0 :: rest) μ ρ := V.getf F mA18 (ci := 2) (k := 0) (N := 10) (C := RX2) (T := TX2) rfl rfl (by decide) in_RX2 fl_RX9_147 rfl hd k
theorem pf_RX9_147 {φ : Fr} {cc : ByteArray} {nL : Nat} {ret : Option FieldType} {d pc : Nat} {L : List (Option Value)} {rest : List Value} {μ : Mem} {ρ : Option Value × Mem} {x : Int32} {μ' : Mem} (F : Fx φ ΩA cc RX9 nL ret) (eμ : up μ 18 0 0 x = μ') (hd : decode cc pc = .ok (.putfield 147, 3)) (k : V φ ΩA nL d (pc + 3) L rest μ' ρ) : V φ ΩA nL d pc L (.int x :: rf φ 18 0 :: rest) μ ρ := V.puti F mA18 (ci := 2) (k := 0) (N := 10) (C := RX2) (T := TX2) (ty := .int) rfl rfl (by decide) in_RX2 tyX2 tyX2_ok nmX2 fl_RX9_147 rfl (by decide +kernel) rfl (by exact rfl) (by simp) rfl eμ hd k
theorem fl_RX2_15 : Cond.fieldLink RX2 15 "SewnUp$Man" "number" "I" ∈ lw_G := mG 236 (by decide +kernel) rfl
theorem gf_RX2_15 {φ : Fr} {cc : ByteArray} {nL : Nat} {ret : Option FieldType} {d pc : Nat} {L : List (Option Value)} {rest : List Value} {μ : Mem} {ρ : Option Value × Mem} (F : Fx φ ΩA cc RX2 nL ret) (hd : decode cc pc = .ok (.getfield 15, 3)) (k : V φ ΩA nL d (pc + 3) L (.int (rd μ 18 0 1) :: rest) μ ρ) : V φ ΩA nL d pc L (rf φ 18 0 :: rest) μ ρ := V.getf F mA18 (ci := 2) (k := 1) (N := 10) (C := RX2) (T := TX2) rfl rfl (by decide) in_RX2 fl_RX2_15 rfl hd k
theorem pf_RX2_15 {φ : Fr} {cc : ByteArray} {nL : Nat} {ret : Option FieldType} {d pc : Nat} {L : List (Option Value)} {rest : List Value} {μ : Mem} {ρ : Option Value × Mem} {x : Int32} {μ' : Mem} (F : Fx φ ΩA cc RX2 nL ret) (eμ : up μ 18 0 1 x = μ') (hd : decode cc pc = .ok (.putfield 15, 3)) (k : V φ ΩA nL d (pc + 3) L rest μ' ρ) : V φ ΩA nL d pc L (.int x :: rf φ 18 0 :: rest) μ ρ := V.puti F mA18 (ci := 2) (k := 1) (N := 10) (C := RX2) (T := TX2) (ty := .int) rfl rfl (by decide) in_RX2 tyX2 tyX2_ok nmX2 fl_RX2_15 rfl (by decide +kernel) rfl (by exact rfl) (by simp) rfl eμ hd k
theorem fl_RX9_169 : Cond.fieldLink RX9 169 "SewnUp$Man" "number" "I" ∈ lw_G := mG 237 (by decide +kernel) rfl
theorem gf_RX9_169 {φ : Fr} {cc : ByteArray} {nL : Nat} {ret : Option FieldType} {d pc : Nat} {L : List (Option Value)} {rest : List Value} {μ : Mem} {ρ : Option Value × Mem} (F : Fx φ ΩA cc RX9 nL ret) (hd : decode cc pc = .ok (.getfield 169, 3)) (k : V φ ΩA nL d (pc + 3) L (.int (rd μ 18 0 1) :: rest) μ ρ) : V φ ΩA nL d pc L (rf φ 18 0 :: rest) μ ρ := V.getf F mA18 (ci := 2) (k := 1) (N := 10) (C := RX2) (T := TX2) rfl rfl (by decide) in_RX2 fl_RX9_169 rfl hd k
theorem pf_RX9_169 {φ : Fr} {cc : ByteArray} {nL : Nat} {ret : Option FieldType} {d pc : Nat} {L : List (Option Value)} {rest : List Value} {μ : Mem} {ρ : Option Value × Mem} {x : Int32} {μ' : Mem} (F : Fx φ ΩA cc RX9 nL ret) (eμ : up μ 18 0 1 x = μ') (hd : decode cc pc = .ok (.putfield 169, 3)) (k : V φ ΩA nL d (pc + 3) L rest μ' ρ) : V φ ΩA nL d pc L (.int x :: rf φ 18 0 :: rest) μ ρ := V.puti F mA18 (ci := 2) (k := 1) (N := 10) (C := RX2) (T := TX2) (ty := .int) rfl rfl (by decide) in_RX2 tyX2 tyX2_ok nmX2 fl_RX9_169 rfl (by decide +kernel) rfl (by exact rfl) (by simp) rfl eμ hd k
theorem fl_RX2_18 : Cond.fieldLink RX2 18 "SewnUp$Man" "has" "I" ∈ lw_G := mG 238 (by decide +kernel) rfl
theorem gf_RX2_18 {φ : Fr} {cc : ByteArray} {nL : Nat} {ret : Option FieldType} {d pc : Nat} {L : List (Option Value)} {rest : List Value} {μ : Mem} {ρ : Option Value × Mem} (F : Fx φ ΩA cc RX2 nL ret) (hd : decode cc pc = .ok (.getfield 18, 3)) (k : V φ ΩA nL d (pc + 3) L (.int (rd μ 18 0 2) :: rest) μ ρ) : V φ ΩA nL d pc L (rf φ 18 0 :: rest) μ ρ := V.getf F mA18 (ci := 2) (k := 2) (N := 10) (C := RX2) (T := TX2) rfl rfl (by decide) in_RX2 fl_RX2_18 rfl hd k
theorem pf_RX2_18 {φ : Fr} {cc : ByteArray} {nL : Nat} {ret : Option FieldType} {d pc : Nat} {L : List (Option Value)} {rest : List Value} {μ : Mem} {ρ : Option Value × Mem} {x : Int32} {μ' : Mem} (F : Fx φ ΩA cc RX2 nL ret) (eμ : up μ 18 0 2 x = μ') (hd : decode cc pc = .ok (.putfield 18, 3)) (k : V φ ΩA nL d (pc + 3) L rest μ' ρ) : V φ ΩA nL d pc L (.int x :: rf φ 18 0 :: rest) μ ρ := V.puti F mA18 (ci := 2) (k := 2) (N := 10) (C := RX2) (T := TX2) (ty := .int) rfl rfl (by decide) in_RX2 tyX2 tyX2_ok nmX2 fl_RX2_18 rfl (by decide +kernel) rfl (by exact rfl) (by simp) rfl eμ hd k
theorem fl_RX9_151 : Cond.fieldLink RX9 151 "SewnUp$Man" "has" "I" ∈ lw_G := mG 239 (by decide +kernel) rfl
theorem gf_RX9_151 {φ : Fr} {cc : ByteArray} {nL : Nat} {ret : Option FieldType} {d pc : Nat} {L : List (Option Value)} {rest : List Value} {μ : Mem} {ρ : Option Value × Mem} (F : Fx φ ΩA cc RX9 nL ret) (hd : decode cc pc = .ok (.getfield 151, 3)) (k : V φ ΩA nL d (pc + 3) L (.int (rd μ 18 0 2) :: rest) μ ρ) : V φ ΩA nL d pc L (rf φ 18 0 :: rest) μ ρ := V.getf F mA18 (ci := 2) (k := 2) (N := 10) (C := RX2) (T := TX2) rfl rfl (by decide) in_RX2 fl_RX9_151 rfl hd k
theorem pf_RX9_151 {φ : Fr} {cc : ByteArray} {nL : Nat} {ret : Option FieldType} {d pc : Nat} {L : List (Option Value)} {rest : List Value} {μ : Mem} {ρ : Option Value × Mem} {x : Int32} {μ' : Mem} (F : Fx φ ΩA cc RX9 nL ret) (eμ : up μ 18 0 2 x = μ') (hd : decode cc pc = .ok (.putfield 151, 3)) (k : V φ ΩA nL d (pc + 3) L rest μ' ρ) : V φ ΩA nL d pc L (.int x :: rf φ 18 0 :: rest) μ ρ := V.puti F mA18 (ci := 2) (k := 2) (N := 10) (C := RX2) (T := TX2) (ty := .int) rfl rfl (by decide) in_RX2 tyX2 tyX2_ok nmX2 fl_RX9_151 rfl (by decide +kernel) rfl (by exact rfl) (by simp) rfl eμ hd k
theorem fl_RX2_21 : Cond.fieldLink RX2 21 "SewnUp$Man" "temper" "I" ∈ lw_G := mG 240 (by decide +kernel) rfl
theorem gf_RX2_21 {φ : Fr} {cc : ByteArray} {nL : Nat} {ret : Option FieldType} {d pc : Nat} {L : List (Option Value)} {rest : List Value} {μ : Mem} {ρ : Option Value × Mem} (F : Fx φ ΩA cc RX2 nL ret) (hd : decode cc pc = .ok (.getfield 21, 3)) (k : V φ ΩA nL d (pc + 3) L (.int (rd μ 18 0 3) :: rest) μ ρ) : V φ ΩA nL d pc L (rf φ 18 0 :: rest) μ ρ := V.getf F mA18 (ci := 2) (k := 3) (N := 10) (C := RX2) (T := TX2) rfl rfl (by decide) in_RX2 fl_RX2_21 rfl hd k
theorem pf_RX2_21 {φ : Fr} {cc : ByteArray} {nL : Nat} {ret : Option FieldType} {d pc : Nat} {L : List (Option Value)} {rest : List Value} {μ : Mem} {ρ : Option Value × Mem} {x : Int32} {μ' : Mem} (F : Fx φ ΩA cc RX2 nL ret) (eμ : up μ 18 0 3 x = μ') (hd : decode cc pc = .ok (.putfield 21, 3)) (k : V φ ΩA nL d (pc + 3) L rest μ' ρ) : V φ ΩA nL d pc L (.int x :: rf φ 18 0 :: rest) μ ρ := V.puti F mA18 (ci := 2) (k := 3) (N := 10) (C := RX2) (T := TX2) (ty := .int) rfl rfl (by decide) in_RX2 tyX2 tyX2_ok nmX2 fl_RX2_21 rfl (by decide +kernel) rfl (by exact rfl) (by simp) rfl eμ hd k
theorem fl_RX9_170 : Cond.fieldLink RX9 170 "SewnUp$Man" "temper" "I" ∈ lw_G := mG 241 (by decide +kernel) rfl
theorem gf_RX9_170 {φ : Fr} {cc : ByteArray} {nL : Nat} {ret : Option FieldType} {d pc : Nat} {L : List (Option Value)} {rest : List Value} {μ : Mem} {ρ : Option Value × Mem} (F : Fx φ ΩA cc RX9 nL ret) (hd : decode cc pc = .ok (.getfield 170, 3)) (k : V φ ΩA nL d (pc + 3) L (.int (rd μ 18 0 3) :: rest) μ ρ) : V φ ΩA nL d pc L (rf φ 18 0 :: rest) μ ρ := V.getf F mA18 (ci := 2) (k := 3) (N := 10) (C := RX2) (T := TX2) rfl rfl (by decide) in_RX2 fl_RX9_170 rfl hd k
theorem pf_RX9_170 {φ : Fr} {cc : ByteArray} {nL : Nat} {ret : Option FieldType} {d pc : Nat} {L : List (Option Value)} {rest : List Value} {μ : Mem} {ρ : Option Value × Mem} {x : Int32} {μ' : Mem} (F : Fx φ ΩA cc RX9 nL ret) (eμ : up μ 18 0 3 x = μ') (hd : decode cc pc = .ok (.putfield 170, 3)) (k : V φ ΩA nL d (pc + 3) L rest μ' ρ) : V φ ΩA nL d pc L (.int x :: rf φ 18 0 :: rest) μ ρ := V.puti F mA18 (ci := 2) (k := 3) (N := 10) (C := RX2) (T := TX2) (ty := .int) rfl rfl (by decide) in_RX2 tyX2 tyX2_ok nmX2 fl_RX9_170 rfl (by decide +kernel) rfl (by exact rfl) (by simp) rfl eμ hd k
theorem fl_RX2_24 : Cond.fieldLink RX2 24 "SewnUp$Man" "day" "I" ∈ lw_G := mG 242 (by decide +kernel) rfl
theorem gf_RX2_24 {φ : Fr} {cc : ByteArray} {nL : Nat} {ret : Option FieldType} {d pc : Nat} {L : List (Option Value)} {rest : List Value} {μ : Mem} {ρ : Option Value × Mem} (F : Fx φ ΩA cc RX2 nL ret) (hd : decode cc pc = .ok (.getfield 24, 3)) (k : V φ ΩA nL d (pc + 3) L (.int (rd μ 18 0 4) :: rest) μ ρ) : V φ ΩA nL d pc L (rf φ 18 0 :: rest) μ ρ := V.getf F mA18 (ci := 2) (k := 4) (N := 10) (C := RX2) (T := TX2) rfl rfl (by decide) in_RX2 fl_RX2_24 rfl hd k
theorem pf_RX2_24 {φ : Fr} {cc : ByteArray} {nL : Nat} {ret : Option FieldType} {d pc : Nat} {L : List (Option Value)} {rest : List Value} {μ : Mem} {ρ : Option Value × Mem} {x : Int32} {μ' : Mem} (F : Fx φ ΩA cc RX2 nL ret) (eμ : up μ 18 0 4 x = μ') (hd : decode cc pc = .ok (.putfield 24, 3)) (k : V φ ΩA nL d (pc + 3) L rest μ' ρ) : V φ ΩA nL d pc L (.int x :: rf φ 18 0 :: rest) μ ρ := V.puti F mA18 (ci := 2) (k := 4) (N := 10) (C := RX2) (T := TX2) (ty := .int) rfl rfl (by decide) in_RX2 tyX2 tyX2_ok nmX2 fl_RX2_24 rfl (by decide +kernel) rfl (by exact rfl) (by simp) rfl eμ hd k
theorem fl_RX9_171 : Cond.fieldLink RX9 171 "SewnUp$Man" "day" "I" ∈ lw_G := mG 243 (by decide +kernel) rfl
theorem gf_RX9_171 {φ : Fr} {cc : ByteArray} {nL : Nat} {ret : Option FieldType} {d pc : Nat} {L : List (Option Value)} {rest : List Value} {μ : Mem} {ρ : Option Value × Mem} (F : Fx φ ΩA cc RX9 nL ret) (hd : decode cc pc = .ok (.getfield 171, 3)) (k : V φ ΩA nL d (pc + 3) L (.int (rd μ 18 0 4) :: rest) μ ρ) : V φ ΩA nL d pc L (rf φ 18 0 :: rest) μ ρ := V.getf F mA18 (ci := 2) (k := 4) (N := 10) (C := RX2) (T := TX2) rfl rfl (by decide) in_RX2 fl_RX9_171 rfl hd k
theorem pf_RX9_171 {φ : Fr} {cc : ByteArray} {nL : Nat} {ret : Option FieldType} {d pc : Nat} {L : List (Option Value)} {rest : List Value} {μ : Mem} {ρ : Option Value × Mem} {x : Int32} {μ' : Mem} (F : Fx φ ΩA cc RX9 nL ret) (eμ : up μ 18 0 4 x = μ') (hd : decode cc pc = .ok (.putfield 171, 3)) (k : V φ ΩA nL d (pc + 3) L rest μ' ρ) : V φ ΩA nL d pc L (.int x :: rf φ 18 0 :: rest) μ ρ := V.puti F mA18 (ci := 2) (k := 4) (N := 10) (C := RX2) (T := TX2) (ty := .int) rfl rfl (by decide) in_RX2 tyX2 tyX2_ok nmX2 fl_RX9_171 rfl (by decide +kernel) rfl (by exact rfl) (by simp) rfl eμ hd k
theorem fl_RX2_27 : Cond.fieldLink RX2 27 "SewnUp$Man" "coat" "I" ∈ lw_G := mG 244 (by decide +kernel) rfl
theorem gf_RX2_27 {φ : Fr} {cc : ByteArray} {nL : Nat} {ret : Option FieldType} {d pc : Nat} {L : List (Option Value)} {rest : List Value} {μ : Mem} {ρ : Option Value × Mem} (F : Fx φ ΩA cc RX2 nL ret) (hd : decode cc pc = .ok (.getfield 27, 3)) (k : V φ ΩA nL d (pc + 3) L (.int (rd μ 18 0 5) :: rest) μ ρ) : V φ ΩA nL d pc L (rf φ 18 0 :: rest) μ ρ := V.getf F mA18 (ci := 2) (k := 5) (N := 10) (C := RX2) (T := TX2) rfl rfl (by decide) in_RX2 fl_RX2_27 rfl hd k
theorem pf_RX2_27 {φ : Fr} {cc : ByteArray} {nL : Nat} {ret : Option FieldType} {d pc : Nat} {L : List (Option Value)} {rest : List Value} {μ : Mem} {ρ : Option Value × Mem} {x : Int32} {μ' : Mem} (F : Fx φ ΩA cc RX2 nL ret) (eμ : up μ 18 0 5 x = μ') (hd : decode cc pc = .ok (.putfield 27, 3)) (k : V φ ΩA nL d (pc + 3) L rest μ' ρ) : V φ ΩA nL d pc L (.int x :: rf φ 18 0 :: rest) μ ρ := V.puti F mA18 (ci := 2) (k := 5) (N := 10) (C := RX2) (T := TX2) (ty := .int) rfl rfl (by decide) in_RX2 tyX2 tyX2_ok nmX2 fl_RX2_27 rfl (by decide +kernel) rfl (by exact rfl) (by simp) rfl eμ hd k
theorem fl_RX9_148 : Cond.fieldLink RX9 148 "SewnUp$Man" "coat" "I" ∈ lw_G := mG 245 (by decide +kernel) rfl
theorem gf_RX9_148 {φ : Fr} {cc : ByteArray} {nL : Nat} {ret : Option FieldType} {d pc : Nat} {L : List (Option Value)} {rest : List Value} {μ : Mem} {ρ : Option Value × Mem} (F : Fx φ ΩA cc RX9 nL ret) (hd : decode cc pc = .ok (.getfield 148, 3)) (k : V φ ΩA nL d (pc + 3) L (.int (rd μ 18 0 5) :: rest) μ ρ) : V φ ΩA nL d pc L (rf φ 18 0 :: rest) μ ρ := V.getf F mA18 (ci := 2) (k := 5) (N := 10) (C := RX2) (T := TX2) rfl rfl (by decide) in_RX2 fl_RX9_148 rfl hd k
theorem pf_RX9_148 {φ : Fr} {cc : ByteArray} {nL : Nat} {ret : Option FieldType} {d pc : Nat} {L : List (Option Value)} {rest : List Value} {μ : Mem} {ρ : Option Value × Mem} {x : Int32} {μ' : Mem} (F : Fx φ ΩA cc RX9 nL ret) (eμ : up μ 18 0 5 x = μ') (hd : decode cc pc = .ok (.putfield 148, 3)) (k : V φ ΩA nL d (pc + 3) L rest μ' ρ) : V φ ΩA nL d pc L (.int x :: rf φ 18 0 :: rest) μ ρ := V.puti F mA18 (ci := 2) (k := 5) (N := 10) (C := RX2) (T := TX2) (ty := .int) rfl rfl (by decide) in_RX2 tyX2 tyX2_ok nmX2 fl_RX9_148 rfl (by decide +kernel) rfl (by exact rfl) (by simp) rfl eμ hd k
theorem fl_RX2_30 : Cond.fieldLink RX2 30 "SewnUp$Man" "own" "I" ∈ lw_G := mG 246 (by decide +kernel) rfl
theorem gf_RX2_30 {φ : Fr} {cc : ByteArray} {nL : Nat} {ret : Option FieldType} {d pc : Nat} {L : List (Option Value)} {rest : List Value} {μ : Mem} {ρ : Option Value × Mem} (F : Fx φ ΩA cc RX2 nL ret) (hd : decode cc pc = .ok (.getfield 30, 3)) (k : V φ ΩA nL d (pc + 3) L (.int (rd μ 18 0 6) :: rest) μ ρ) : V φ ΩA nL d pc L (rf φ 18 0 :: rest) μ ρ := V.getf F mA18 (ci := 2) (k := 6) (N := 10) (C := RX2) (T := TX2) rfl rfl (by decide) in_RX2 fl_RX2_30 rfl hd k
theorem pf_RX2_30 {φ : Fr} {cc : ByteArray} {nL : Nat} {ret : Option FieldType} {d pc : Nat} {L : List (Option Value)} {rest : List Value} {μ : Mem} {ρ : Option Value × Mem} {x : Int32} {μ' : Mem} (F : Fx φ ΩA cc RX2 nL ret) (eμ : up μ 18 0 6 x = μ') (hd : decode cc pc = .ok (.putfield 30, 3)) (k : V φ ΩA nL d (pc + 3) L rest μ' ρ) : V φ ΩA nL d pc L (.int x :: rf φ 18 0 :: rest) μ ρ := V.puti F mA18 (ci := 2) (k := 6) (N := 10) (C := RX2) (T := TX2) (ty := .int) rfl rfl (by decide) in_RX2 tyX2 tyX2_ok nmX2 fl_RX2_30 rfl (by decide +kernel) rfl (by exact rfl) (by simp) rfl eμ hd k
theorem fl_RX9_172 : Cond.fieldLink RX9 172 "SewnUp$Man" "own" "I" ∈ lw_G := mG 247 (by decide +kernel) rfl
theorem gf_RX9_172 {φ : Fr} {cc : ByteArray} {nL : Nat} {ret : Option FieldType} {d pc : Nat} {L : List (Option Value)} {rest : List Value} {μ : Mem} {ρ : Option Value × Mem} (F : Fx φ ΩA cc RX9 nL ret) (hd : decode cc pc = .ok (.getfield 172, 3)) (k : V φ ΩA nL d (pc + 3) L (.int (rd μ 18 0 6) :: rest) μ ρ) : V φ ΩA nL d pc L (rf φ 18 0 :: rest) μ ρ := V.getf F mA18 (ci := 2) (k := 6) (N := 10) (C := RX2) (T := TX2) rfl rfl (by decide) in_RX2 fl_RX9_172 rfl hd k
theorem pf_RX9_172 {φ : Fr} {cc : ByteArray} {nL : Nat} {ret : Option FieldType} {d pc : Nat} {L : List (Option Value)} {rest : List Value} {μ : Mem} {ρ : Option Value × Mem} {x : Int32} {μ' : Mem} (F : Fx φ ΩA cc RX9 nL ret) (eμ : up μ 18 0 6 x = μ') (hd : decode cc pc = .ok (.putfield 172, 3)) (k : V φ ΩA nL d (pc + 3) L rest μ' ρ) : V φ ΩA nL d pc L (.int x :: rf φ 18 0 :: rest) μ ρ := V.puti F mA18 (ci := 2) (k := 6) (N := 10) (C := RX2) (T := TX2) (ty := .int) rfl rfl (by decide) in_RX2 tyX2 tyX2_ok nmX2 fl_RX9_172 rfl (by decide +kernel) rfl (by exact rfl) (by simp) rfl eμ hd k
theorem fl_RX2_33 : Cond.fieldLink RX2 33 "SewnUp$Man" "boils" "I" ∈ lw_G := mG 248 (by decide +kernel) rfl
theorem gf_RX2_33 {φ : Fr} {cc : ByteArray} {nL : Nat} {ret : Option FieldType} {d pc : Nat} {L : List (Option Value)} {rest : List Value} {μ : Mem} {ρ : Option Value × Mem} (F : Fx φ ΩA cc RX2 nL ret) (hd : decode cc pc = .ok (.getfield 33, 3)) (k : V φ ΩA nL d (pc + 3) L (.int (rd μ 18 0 7) :: rest) μ ρ) : V φ ΩA nL d pc L (rf φ 18 0 :: rest) μ ρ := V.getf F mA18 (ci := 2) (k := 7) (N := 10) (C := RX2) (T := TX2) rfl rfl (by decide) in_RX2 fl_RX2_33 rfl hd k
theorem pf_RX2_33 {φ : Fr} {cc : ByteArray} {nL : Nat} {ret : Option FieldType} {d pc : Nat} {L : List (Option Value)} {rest : List Value} {μ : Mem} {ρ : Option Value × Mem} {x : Int32} {μ' : Mem} (F : Fx φ ΩA cc RX2 nL ret) (eμ : up μ 18 0 7 x = μ') (hd : decode cc pc = .ok (.putfield 33, 3)) (k : V φ ΩA nL d (pc + 3) L rest μ' ρ) : V φ ΩA nL d pc L (.int x :: rf φ 18 0 :: rest) μ ρ := V.puti F mA18 (ci := 2) (k := 7) (N := 10) (C := RX2) (T := TX2) (ty := .int) rfl rfl (by decide) in_RX2 tyX2 tyX2_ok nmX2 fl_RX2_33 rfl (by decide +kernel) rfl (by exact rfl) (by simp) rfl eμ hd k
theorem fl_RX9_201 : Cond.fieldLink RX9 201 "SewnUp$Man" "boils" "I" ∈ lw_G := mG 249 (by decide +kernel) rfl
theorem gf_RX9_201 {φ : Fr} {cc : ByteArray} {nL : Nat} {ret : Option FieldType} {d pc : Nat} {L : List (Option Value)} {rest : List Value} {μ : Mem} {ρ : Option Value × Mem} (F : Fx φ ΩA cc RX9 nL ret) (hd : decode cc pc = .ok (.getfield 201, 3)) (k : V φ ΩA nL d (pc + 3) L (.int (rd μ 18 0 7) :: rest) μ ρ) : V φ ΩA nL d pc L (rf φ 18 0 :: rest) μ ρ := V.getf F mA18 (ci := 2) (k := 7) (N := 10) (C := RX2) (T := TX2) rfl rfl (by decide) in_RX2 fl_RX9_201 rfl hd k
theorem pf_RX9_201 {φ : Fr} {cc : ByteArray} {nL : Nat} {ret : Option FieldType} {d pc : Nat} {L : List (Option Value)} {rest : List Value} {μ : Mem} {ρ : Option Value × Mem} {x : Int32} {μ' : Mem} (F : Fx φ ΩA cc RX9 nL ret) (eμ : up μ 18 0 7 x = μ') (hd : decode cc pc = .ok (.putfield 201, 3)) (k : V φ ΩA nL d (pc + 3) L rest μ' ρ) : V φ ΩA nL d pc L (.int x :: rf φ 18 0 :: rest) μ ρ := V.puti F mA18 (ci := 2) (k := 7) (N := 10) (C := RX2) (T := TX2) (ty := .int) rfl rfl (by decide) in_RX2 tyX2 tyX2_ok nmX2 fl_RX9_201 rfl (by decide +kernel) rfl (by exact rfl) (by simp) rfl eμ hd k
theorem fl_RX2_36 : Cond.fieldLink RX2 36 "SewnUp$Man" "firstBoil" "I" ∈ lw_G := mG 250 (by decide +kernel) rfl
theorem gf_RX2_36 {φ : Fr} {cc : ByteArray} {nL : Nat} {ret : Option FieldType} {d pc : Nat} {L : List (Option Value)} {rest : List Value} {μ : Mem} {ρ : Option Value × Mem} (F : Fx φ ΩA cc RX2 nL ret) (hd : decode cc pc = .ok (.getfield 36, 3)) (k : V φ ΩA nL d (pc + 3) L (.int (rd μ 18 0 8) :: rest) μ ρ) : V φ ΩA nL d pc L (rf φ 18 0 :: rest) μ ρ := V.getf F mA18 (ci := 2) (k := 8) (N := 10) (C := RX2) (T := TX2) rfl rfl (by decide) in_RX2 fl_RX2_36 rfl hd k
theorem pf_RX2_36 {φ : Fr} {cc : ByteArray} {nL : Nat} {ret : Option FieldType} {d pc : Nat} {L : List (Option Value)} {rest : List Value} {μ : Mem} {ρ : Option Value × Mem} {x : Int32} {μ' : Mem} (F : Fx φ ΩA cc RX2 nL ret) (eμ : up μ 18 0 8 x = μ') (hd : decode cc pc = .ok (.putfield 36, 3)) (k : V φ ΩA nL d (pc + 3) L rest μ' ρ) : V φ ΩA nL d pc L (.int x :: rf φ 18 0 :: rest) μ ρ := V.puti F mA18 (ci := 2) (k := 8) (N := 10) (C := RX2) (T := TX2) (ty := .int) rfl rfl (by decide) in_RX2 tyX2 tyX2_ok nmX2 fl_RX2_36 rfl (by decide +kernel) rfl (by exact rfl) (by simp) rfl eμ hd k
theorem fl_RX9_198 : Cond.fieldLink RX9 198 "SewnUp$Man" "firstBoil" "I" ∈ lw_G := mG 251 (by decide +kernel) rfl
theorem gf_RX9_198 {φ : Fr} {cc : ByteArray} {nL : Nat} {ret : Option FieldType} {d pc : Nat} {L : List (Option Value)} {rest : List Value} {μ : Mem} {ρ : Option Value × Mem} (F : Fx φ ΩA cc RX9 nL ret) (hd : decode cc pc = .ok (.getfield 198, 3)) (k : V φ ΩA nL d (pc + 3) L (.int (rd μ 18 0 8) :: rest) μ ρ) : V φ ΩA nL d pc L (rf φ 18 0 :: rest) μ ρ := V.getf F mA18 (ci := 2) (k := 8) (N := 10) (C := RX2) (T := TX2) rfl rfl (by decide) in_RX2 fl_RX9_198 rfl hd k
theorem pf_RX9_198 {φ : Fr} {cc : ByteArray} {nL : Nat} {ret : Option FieldType} {d pc : Nat} {L : List (Option Value)} {rest : List Value} {μ : Mem} {ρ : Option Value × Mem} {x : Int32} {μ' : Mem} (F : Fx φ ΩA cc RX9 nL ret) (eμ : up μ 18 0 8 x = μ') (hd : decode cc pc = .ok (.putfield 198, 3)) (k : V φ ΩA nL d (pc + 3) L rest μ' ρ) : V φ ΩA nL d pc L (.int x :: rf φ 18 0 :: rest) μ ρ := V.puti F mA18 (ci := 2) (k := 8) (N := 10) (C := RX2) (T := TX2) (ty := .int) rfl rfl (by decide) in_RX2 tyX2 tyX2_ok nmX2 fl_RX9_198 rfl (by decide +kernel) rfl (by exact rfl) (by simp) rfl eμ hd k
theorem fl_RX2_39 : Cond.fieldLink RX2 39 "SewnUp$Man" "names" "[I" ∈ lw_G := mG 252 (by decide +kernel) rfl
theorem gf_RX2_39 {φ : Fr} {cc : ByteArray} {nL : Nat} {ret : Option FieldType} {d pc : Nat} {L : List (Option Value)} {rest : List Value} {μ : Mem} {ρ : Option Value × Mem} (F : Fx φ ΩA cc RX2 nL ret) (hd : decode cc pc = .ok (.getfield 39, 3)) (k : V φ ΩA nL d (pc + 3) L (rf φ 19 0 :: rest) μ ρ) : V φ ΩA nL d pc L (rf φ 18 0 :: rest) μ ρ := V.getf F mA18 (ci := 2) (k := 9) (N := 10) (C := RX2) (T := TX2) rfl rfl (by decide) in_RX2 fl_RX2_39 rfl hd k
theorem fl_RX8_9 : Cond.fieldLink RX8 9 "SewnUp$Ways" "size" "I" ∈ lw_G := mG 280 (by decide +kernel) rfl
theorem gf_RX8_9 {φ : Fr} {cc : ByteArray} {nL : Nat} {ret : Option FieldType} {d pc : Nat} {L : List (Option Value)} {rest : List Value} {μ : Mem} {ρ : Option Value × Mem} (F : Fx φ ΩA cc RX8 nL ret) (hd : decode cc pc = .ok (.getfield 9, 3)) (k : V φ ΩA nL d (pc + 3) L (.int (rd μ 20 0 0) :: rest) μ ρ) : V φ ΩA nL d pc L (rf φ 20 0 :: rest) μ ρ := V.getf F mA20 (ci := 8) (k := 0) (N := 4) (C := RX8) (T := TX8) rfl rfl (by decide) in_RX8 fl_RX8_9 rfl hd k
theorem pf_RX8_9 {φ : Fr} {cc : ByteArray} {nL : Nat} {ret : Option FieldType} {d pc : Nat} {L : List (Option Value)} {rest : List Value} {μ : Mem} {ρ : Option Value × Mem} {x : Int32} {μ' : Mem} (F : Fx φ ΩA cc RX8 nL ret) (eμ : up μ 20 0 0 x = μ') (hd : decode cc pc = .ok (.putfield 9, 3)) (k : V φ ΩA nL d (pc + 3) L rest μ' ρ) : V φ ΩA nL d pc L (.int x :: rf φ 20 0 :: rest) μ ρ := V.puti F mA20 (ci := 8) (k := 0) (N := 4) (C := RX8) (T := TX8) (ty := .int) rfl rfl (by decide) in_RX8 tyX8 tyX8_ok nmX8 fl_RX8_9 rfl (by decide +kernel) rfl (by exact rfl) (by simp) rfl eμ hd k
theorem fl_RX8_15 : Cond.fieldLink RX8 15 "SewnUp$Ways" "many" "I" ∈ lw_G := mG 281 (by decide +kernel) rfl
theorem gf_RX8_15 {φ : Fr} {cc : ByteArray} {nL : Nat} {ret : Option FieldType} {d pc : Nat} {L : List (Option Value)} {rest : List Value} {μ : Mem} {ρ : Option Value × Mem} (F : Fx φ ΩA cc RX8 nL ret) (hd : decode cc pc = .ok (.getfield 15, 3)) (k : V φ ΩA nL d (pc + 3) L (.int (rd μ 20 0 1) :: rest) μ ρ) : V φ ΩA nL d pc L (rf φ 20 0 :: rest) μ ρ := V.getf F mA20 (ci := 8) (k := 1) (N := 4) (C := RX8) (T := TX8) rfl rfl (by decide) in_RX8 fl_RX8_15 rfl hd k
theorem pf_RX8_15 {φ : Fr} {cc : ByteArray} {nL : Nat} {ret : Option FieldType} {d pc : Nat} {L : List (Option Value)} {rest : List Value} {μ : Mem} {ρ : Option Value × Mem} {x : Int32} {μ' : Mem} (F : Fx φ ΩA cc RX8 nL ret) (eμ : up μ 20 0 1 x = μ') (hd : decode cc pc = .ok (.putfield 15, 3)) (k : V φ ΩA nL d (pc + 3) L rest μ' ρ) : V φ ΩA nL d pc L (.int x :: rf φ 20 0 :: rest) μ ρ := V.puti F mA20 (ci := 8) (k := 1) (N := 4) (C := RX8) (T := TX8) (ty := .int) rfl rfl (by decide) in_RX8 tyX8 tyX8_ok nmX8 fl_RX8_15 rfl (by decide +kernel) rfl (by exact rfl) (by simp) rfl eμ hd k
theorem fl_RX9_239 : Cond.fieldLink RX9 239 "SewnUp$Ways" "many" "I" ∈ lw_G := mG 282 (by decide +kernel) rfl
theorem gf_RX9_239 {φ : Fr} {cc : ByteArray} {nL : Nat} {ret : Option FieldType} {d pc : Nat} {L : List (Option Value)} {rest : List Value} {μ : Mem} {ρ : Option Value × Mem} (F : Fx φ ΩA cc RX9 nL ret) (hd : decode cc pc = .ok (.getfield 239, 3)) (k : V φ ΩA nL d (pc + 3) L (.int (rd μ 20 0 1) :: rest) μ ρ) : V φ ΩA nL d pc L (rf φ 20 0 :: rest) μ ρ := V.getf F mA20 (ci := 8) (k := 1) (N := 4) (C := RX8) (T := TX8) rfl rfl (by decide) in_RX8 fl_RX9_239 rfl hd k
theorem pf_RX9_239 {φ : Fr} {cc : ByteArray} {nL : Nat} {ret : Option FieldType} {d pc : Nat} {L : List (Option Value)} {rest : List Value} {μ : Mem} {ρ : Option Value × Mem} {x : Int32} {μ' : Mem} (F : Fx φ ΩA cc RX9 nL ret) (eμ : up μ 20 0 1 x = μ') (hd : decode cc pc = .ok (.putfield 239, 3)) (k : V φ ΩA nL d (pc + 3) L rest μ' ρ) : V φ ΩA nL d pc L (.int x :: rf φ 20 0 :: rest) μ ρ := V.puti F mA20 (ci := 8) (k := 1) (N := 4) (C := RX8) (T := TX8) (ty := .int) rfl rfl (by decide) in_RX8 tyX8 tyX8_ok nmX8 fl_RX9_239 rfl (by decide +kernel) rfl (by exact rfl) (by simp) rfl eμ hd k
theorem fl_RX8_18 : Cond.fieldLink RX8 18 "SewnUp$Ways" "coats" "[I" ∈ lw_G := mG 283 (by decide +kernel) rfl
theorem gf_RX8_18 {φ : Fr} {cc : ByteArray} {nL : Nat} {ret : Option FieldType} {d pc : Nat} {L : List (Option Value)} {rest : List Value} {μ : Mem} {ρ : Option Value × Mem} (F : Fx φ ΩA cc RX8 nL ret) (hd : decode cc pc = .ok (.getfield 18, 3)) (k : V φ ΩA nL d (pc + 3) L (rf φ 21 0 :: rest) μ ρ) : V φ ΩA nL d pc L (rf φ 20 0 :: rest) μ ρ := V.getf F mA20 (ci := 8) (k := 2) (N := 4) (C := RX8) (T := TX8) rfl rfl (by decide) in_RX8 fl_RX8_18 rfl hd k
theorem fl_RX9_242 : Cond.fieldLink RX9 242 "SewnUp$Ways" "coats" "[I" ∈ lw_G := mG 284 (by decide +kernel) rfl
theorem gf_RX9_242 {φ : Fr} {cc : ByteArray} {nL : Nat} {ret : Option FieldType} {d pc : Nat} {L : List (Option Value)} {rest : List Value} {μ : Mem} {ρ : Option Value × Mem} (F : Fx φ ΩA cc RX9 nL ret) (hd : decode cc pc = .ok (.getfield 242, 3)) (k : V φ ΩA nL d (pc + 3) L (rf φ 21 0 :: rest) μ ρ) : V φ ΩA nL d pc L (rf φ 20 0 :: rest) μ ρ := V.getf F mA20 (ci := 8) (k := 2) (N := 4) (C := RX8) (T := TX8) rfl rfl (by decide) in_RX8 fl_RX9_242 rfl hd k
theorem fl_RX8_22 : Cond.fieldLink RX8 22 "SewnUp$Ways" "marked" "[I" ∈ lw_G := mG 285 (by decide +kernel) rfl
theorem gf_RX8_22 {φ : Fr} {cc : ByteArray} {nL : Nat} {ret : Option FieldType} {d pc : Nat} {L : List (Option Value)} {rest : List Value} {μ : Mem} {ρ : Option Value × Mem} (F : Fx φ ΩA cc RX8 nL ret) (hd : decode cc pc = .ok (.getfield 22, 3)) (k : V φ ΩA nL d (pc + 3) L (rf φ 22 0 :: rest) μ ρ) : V φ ΩA nL d pc L (rf φ 20 0 :: rest) μ ρ := V.getf F mA20 (ci := 8) (k := 3) (N := 4) (C := RX8) (T := TX8) rfl rfl (by decide) in_RX8 fl_RX8_22 rfl hd k
set_option maxRecDepth 100000 in
theorem fl_RX3_9 : Cond.fieldLink RX3 9 "SewnUp$Pockets" "size" "I" ∈ lw_G := mG 301 (by decide +kernel) rfl
theorem gf_RX3_9 {φ : Fr} {cc : ByteArray} {nL : Nat} {ret : Option FieldType} {d pc : Nat} {L : List (Option Value)} {rest : List Value} {μ : Mem} {ρ : Option Value × Mem} (F : Fx φ ΩA cc RX3 nL ret) (hd : decode cc pc = .ok (.getfield 9, 3)) (k : V φ ΩA nL d (pc + 3) L (.int (rd μ 23 0 0) :: rest) μ ρ) : V φ ΩA nL d pc L (rf φ 23 0 :: rest) μ ρ := V.getf F mA23 (ci := 3) (k := 0) (N := 4) (C := RX3) (T := TX3) rfl rfl (by decide) in_RX3 fl_RX3_9 rfl hd k
theorem pf_RX3_9 {φ : Fr} {cc : ByteArray} {nL : Nat} {ret : Option FieldType} {d pc : Nat} {L : List (Option Value)} {rest : List Value} {μ : Mem} {ρ : Option Value × Mem} {x : Int32} {μ' : Mem} (F : Fx φ ΩA cc RX3 nL ret) (eμ : up μ 23 0 0 x = μ') (hd : decode cc pc = .ok (.putfield 9, 3)) (k : V φ ΩA nL d (pc + 3) L rest μ' ρ) : V φ ΩA nL d pc L (.int x :: rf φ 23 0 :: rest) μ ρ := V.puti F mA23 (ci := 3) (k := 0) (N := 4) (C := RX3) (T := TX3) (ty := .int) rfl rfl (by decide) in_RX3 tyX3 tyX3_ok nmX3 fl_RX3_9 rfl (by decide +kernel) rfl (by exact rfl) (by simp) rfl eμ hd k
set_option maxRecDepth 100000 in
theorem fl_RX9_269 : Cond.fieldLink RX9 269 "SewnUp$Pockets" "size" "I" ∈ lw_G := mG 302 (by decide +kernel) rfl
theorem gf_RX9_269 {φ : Fr} {cc : ByteArray} {nL : Nat} {ret : Option FieldType} {d pc : Nat} {L : List (Option Value)} {rest : List Value} {μ : Mem} {ρ : Option Value × Mem} (F : Fx φ ΩA cc RX9 nL ret) (hd : decode cc pc = .ok (.getfield 269, 3)) (k : V φ ΩA nL d (pc + 3) L (.int (rd μ 23 0 0) :: rest) μ ρ) : V φ ΩA nL d pc L (rf φ 23 0 :: rest) μ ρ := V.getf F mA23 (ci := 3) (k := 0) (N := 4) (C := RX3) (T := TX3) rfl rfl (by decide) in_RX3 fl_RX9_269 rfl hd k
theorem pf_RX9_269 {φ : Fr} {cc : ByteArray} {nL : Nat} {ret : Option FieldType} {d pc : Nat} {L : List (Option Value)} {rest : List Value} {μ : Mem} {ρ : Option Value × Mem} {x : Int32} {μ' : Mem} (F : Fx φ ΩA cc RX9 nL ret) (eμ : up μ 23 0 0 x = μ') (hd : decode cc pc = .ok (.putfield 269, 3)) (k : V φ ΩA nL d (pc + 3) L rest μ' ρ) : V φ ΩA nL d pc L (.int x :: rf φ 23 0 :: rest) μ ρ := V.puti F mA23 (ci := 3) (k := 0) (N := 4) (C := RX3) (T := TX3) (ty := .int) rfl rfl (by decide) in_RX3 tyX3 tyX3_ok nmX3 fl_RX9_269 rfl (by decide +kernel) rfl (by exact rfl) (by simp) rfl eμ hd k
set_option maxRecDepth 100000 in
theorem fl_RX3_15 : Cond.fieldLink RX3 15 "SewnUp$Pockets" "numbers" "[I" ∈ lw_G := mG 303 (by decide +kernel) rfl
theorem gf_RX3_15 {φ : Fr} {cc : ByteArray} {nL : Nat} {ret : Option FieldType} {d pc : Nat} {L : List (Option Value)} {rest : List Value} {μ : Mem} {ρ : Option Value × Mem} (F : Fx φ ΩA cc RX3 nL ret) (hd : decode cc pc = .ok (.getfield 15, 3)) (k : V φ ΩA nL d (pc + 3) L (rf φ 24 0 :: rest) μ ρ) : V φ ΩA nL d pc L (rf φ 23 0 :: rest) μ ρ := V.getf F mA23 (ci := 3) (k := 1) (N := 4) (C := RX3) (T := TX3) rfl rfl (by decide) in_RX3 fl_RX3_15 rfl hd k
set_option maxRecDepth 100000 in
theorem fl_RX9_270 : Cond.fieldLink RX9 270 "SewnUp$Pockets" "numbers" "[I" ∈ lw_G := mG 304 (by decide +kernel) rfl
theorem gf_RX9_270 {φ : Fr} {cc : ByteArray} {nL : Nat} {ret : Option FieldType} {d pc : Nat} {L : List (Option Value)} {rest : List Value} {μ : Mem} {ρ : Option Value × Mem} (F : Fx φ ΩA cc RX9 nL ret) (hd : decode cc pc = .ok (.getfield 270, 3)) (k : V φ ΩA nL d (pc + 3) L (rf φ 24 0 :: rest) μ ρ) : V φ ΩA nL d pc L (rf φ 23 0 :: rest) μ ρ := V.getf F mA23 (ci := 3) (k := 1) (N := 4) (C := RX3) (T := TX3) rfl rfl (by decide) in_RX3 fl_RX9_270 rfl hd k
set_option maxRecDepth 100000 in
theorem fl_RX3_19 : Cond.fieldLink RX3 19 "SewnUp$Pockets" "things" "[I" ∈ lw_G := mG 305 (by decide +kernel) rfl
theorem gf_RX3_19 {φ : Fr} {cc : ByteArray} {nL : Nat} {ret : Option FieldType} {d pc : Nat} {L : List (Option Value)} {rest : List Value} {μ : Mem} {ρ : Option Value × Mem} (F : Fx φ ΩA cc RX3 nL ret) (hd : decode cc pc = .ok (.getfield 19, 3)) (k : V φ ΩA nL d (pc + 3) L (rf φ 25 0 :: rest) μ ρ) : V φ ΩA nL d pc L (rf φ 23 0 :: rest) μ ρ := V.getf F mA23 (ci := 3) (k := 2) (N := 4) (C := RX3) (T := TX3) rfl rfl (by decide) in_RX3 fl_RX3_19 rfl hd k
set_option maxRecDepth 100000 in
theorem fl_RX9_273 : Cond.fieldLink RX9 273 "SewnUp$Pockets" "things" "[I" ∈ lw_G := mG 306 (by decide +kernel) rfl
theorem gf_RX9_273 {φ : Fr} {cc : ByteArray} {nL : Nat} {ret : Option FieldType} {d pc : Nat} {L : List (Option Value)} {rest : List Value} {μ : Mem} {ρ : Option Value × Mem} (F : Fx φ ΩA cc RX9 nL ret) (hd : decode cc pc = .ok (.getfield 273, 3)) (k : V φ ΩA nL d (pc + 3) L (rf φ 25 0 :: rest) μ ρ) : V φ ΩA nL d pc L (rf φ 23 0 :: rest) μ ρ := V.getf F mA23 (ci := 3) (k := 2) (N := 4) (C := RX3) (T := TX3) rfl rfl (by decide) in_RX3 fl_RX9_273 rfl hd k
set_option maxRecDepth 100000 in
theorem fl_RX3_22 : Cond.fieldLink RX3 22 "SewnUp$Pockets" "opened" "[I" ∈ lw_G := mG 307 (by decide +kernel) rfl
theorem gf_RX3_22 {φ : Fr} {cc : ByteArray} {nL : Nat} {ret : Option FieldType} {d pc : Nat} {L : List (Option Value)} {rest : List Value} {μ : Mem} {ρ : Option Value × Mem} (F : Fx φ ΩA cc RX3 nL ret) (hd : decode cc pc = .ok (.getfield 22, 3)) (k : V φ ΩA nL d (pc + 3) L (rf φ 26 0 :: rest) μ ρ) : V φ ΩA nL d pc L (rf φ 23 0 :: rest) μ ρ := V.getf F mA23 (ci := 3) (k := 3) (N := 4) (C := RX3) (T := TX3) rfl rfl (by decide) in_RX3 fl_RX3_22 rfl hd k
set_option maxRecDepth 100000 in
theorem fl_RX9_257 : Cond.fieldLink RX9 257 "SewnUp$Pockets" "opened" "[I" ∈ lw_G := mG 308 (by decide +kernel) rfl
theorem gf_RX9_257 {φ : Fr} {cc : ByteArray} {nL : Nat} {ret : Option FieldType} {d pc : Nat} {L : List (Option Value)} {rest : List Value} {μ : Mem} {ρ : Option Value × Mem} (F : Fx φ ΩA cc RX9 nL ret) (hd : decode cc pc = .ok (.getfield 257, 3)) (k : V φ ΩA nL d (pc + 3) L (rf φ 26 0 :: rest) μ ρ) : V φ ΩA nL d pc L (rf φ 23 0 :: rest) μ ρ := V.getf F mA23 (ci := 3) (k := 3) (N := 4) (C := RX3) (T := TX3) rfl rfl (by decide) in_RX3 fl_RX9_257 rfl hd k
set_option maxRecDepth 100000 in
theorem fl_RX7_9 : Cond.fieldLink RX7 9 "SewnUp$Text" "codes" "[I" ∈ lw_G := mG 325 (by decide +kernel) rfl
theorem gf_RX7_9 {φ : Fr} {cc : ByteArray} {nL : Nat} {ret : Option FieldType} {d pc : Nat} {L : List (Option Value)} {rest : List Value} {μ : Mem} {ρ : Option Value × Mem} {i : Nat} (hi : i < 6) (F : Fx φ ΩA cc RX7 nL ret) (hd : decode cc pc = .ok (.getfield 9, 3)) (k : V φ ΩA nL d (pc + 3) L (rf φ 6 i :: rest) μ ρ) : V φ ΩA nL d pc L (rf φ 5 i :: rest) μ ρ := V.getf F (mA5 hi) (ci := 7) (k := 0) (N := 3) (C := RX7) (T := TX7) rfl rfl (by decide) in_RX7 fl_RX7_9 rfl hd k
set_option maxRecDepth 100000 in
theorem fl_RX4_92 : Cond.fieldLink RX4 92 "SewnUp$Text" "codes" "[I" ∈ lw_G := mG 326 (by decide +kernel) rfl
theorem gf_RX4_92 {φ : Fr} {cc : ByteArray} {nL : Nat} {ret : Option FieldType} {d pc : Nat} {L : List (Option Value)} {rest : List Value} {μ : Mem} {ρ : Option Value × Mem} {i : Nat} (hi : i < 6) (F : Fx φ ΩA cc RX4 nL ret) (hd : decode cc pc = .ok (.getfield 92, 3)) (k : V φ ΩA nL d (pc + 3) L (rf φ 6 i :: rest) μ ρ) : V φ ΩA nL d pc L (rf φ 5 i :: rest) μ ρ := V.getf F (mA5 hi) (ci := 7) (k := 0) (N := 3) (C := RX7) (T := TX7) rfl rfl (by decide) in_RX7 fl_RX4_92 rfl hd k
set_option maxRecDepth 100000 in
theorem fl_RX7_15 : Cond.fieldLink RX7 15 "SewnUp$Text" "begins" "[I" ∈ lw_G := mG 327 (by decide +kernel) rfl
theorem gf_RX7_15 {φ : Fr} {cc : ByteArray} {nL : Nat} {ret : Option FieldType} {d pc : Nat} {L : List (Option Value)} {rest : List Value} {μ : Mem} {ρ : Option Value × Mem} {i : Nat} (hi : i < 6) (F : Fx φ ΩA cc RX7 nL ret) (hd : decode cc pc = .ok (.getfield 15, 3)) (k : V φ ΩA nL d (pc + 3) L (rf φ 7 i :: rest) μ ρ) : V φ ΩA nL d pc L (rf φ 5 i :: rest) μ ρ := V.getf F (mA5 hi) (ci := 7) (k := 1) (N := 3) (C := RX7) (T := TX7) rfl rfl (by decide) in_RX7 fl_RX7_15 rfl hd k
set_option maxRecDepth 100000 in
theorem fl_RX4_87 : Cond.fieldLink RX4 87 "SewnUp$Text" "begins" "[I" ∈ lw_G := mG 328 (by decide +kernel) rfl
theorem gf_RX4_87 {φ : Fr} {cc : ByteArray} {nL : Nat} {ret : Option FieldType} {d pc : Nat} {L : List (Option Value)} {rest : List Value} {μ : Mem} {ρ : Option Value × Mem} {i : Nat} (hi : i < 6) (F : Fx φ ΩA cc RX4 nL ret) (hd : decode cc pc = .ok (.getfield 87, 3)) (k : V φ ΩA nL d (pc + 3) L (rf φ 7 i :: rest) μ ρ) : V φ ΩA nL d pc L (rf φ 5 i :: rest) μ ρ := V.getf F (mA5 hi) (ci := 7) (k := 1) (N := 3) (C := RX7) (T := TX7) rfl rfl (by decide) in_RX7 fl_RX4_87 rfl hd k
set_option maxRecDepth 100000 in
theorem fl_RX7_18 : Cond.fieldLink RX7 18 "SewnUp$Text" "stack" "[I" ∈ lw_G := mG 329 (by decide +kernel) rfl
theorem gf_RX7_18 {φ : Fr} {cc : ByteArray} {nL : Nat} {ret : Option FieldType} {d pc : Nat} {L : List (Option Value)} {rest : List Value} {μ : Mem} {ρ : Option Value × Mem} {i : Nat} (hi : i < 6) (F : Fx φ ΩA cc RX7 nL ret) (hd : decode cc pc = .ok (.getfield 18, 3)) (k : V φ ΩA nL d (pc + 3) L (rf φ 8 i :: rest) μ ρ) : V φ ΩA nL d pc L (rf φ 5 i :: rest) μ ρ := V.getf F (mA5 hi) (ci := 7) (k := 2) (N := 3) (C := RX7) (T := TX7) rfl rfl (by decide) in_RX7 fl_RX7_18 rfl hd k
set_option maxRecDepth 100000 in
theorem fl_RX5_9 : Cond.fieldLink RX5 9 "SewnUp$Sheet" "sort" "I" ∈ lw_G := mG 342 (by decide +kernel) rfl
theorem gf_RX5_9 {φ : Fr} {cc : ByteArray} {nL : Nat} {ret : Option FieldType} {d pc : Nat} {L : List (Option Value)} {rest : List Value} {μ : Mem} {ρ : Option Value × Mem} {i : Nat} (hi : i < 4) (F : Fx φ ΩA cc RX5 nL ret) (hd : decode cc pc = .ok (.getfield 9, 3)) (k : V φ ΩA nL d (pc + 3) L (.int (rd μ 16 i 0) :: rest) μ ρ) : V φ ΩA nL d pc L (rf φ 16 i :: rest) μ ρ := V.getf F (mA16 hi) (ci := 5) (k := 0) (N := 3) (C := RX5) (T := TX5) rfl rfl (by decide) in_RX5 fl_RX5_9 rfl hd k
theorem pf_RX5_9 {φ : Fr} {cc : ByteArray} {nL : Nat} {ret : Option FieldType} {d pc : Nat} {L : List (Option Value)} {rest : List Value} {μ : Mem} {ρ : Option Value × Mem} {i : Nat} (hi : i < 4) {x : Int32} {μ' : Mem} (F : Fx φ ΩA cc RX5 nL ret) (eμ : up μ 16 i 0 x = μ') (hd : decode cc pc = .ok (.putfield 9, 3)) (k : V φ ΩA nL d (pc + 3) L rest μ' ρ) : V φ ΩA nL d pc L (.int x :: rf φ 16 i :: rest) μ ρ := V.puti F (mA16 hi) (ci := 5) (k := 0) (N := 3) (C := RX5) (T := TX5) (ty := .int) rfl rfl (by decide) in_RX5 tyX5 tyX5_ok nmX5 fl_RX5_9 rfl (by decide +kernel) rfl (by exact rfl) (by simp) rfl eμ hd k
set_option maxRecDepth 100000 in
theorem fl_RX9_349 : Cond.fieldLink RX9 349 "SewnUp$Sheet" "sort" "I" ∈ lw_G := mG 343 (by decide +kernel) rfl
theorem gf_RX9_349 {φ : Fr} {cc : ByteArray} {nL : Nat} {ret : Option FieldType} {d pc : Nat} {L : List (Option Value)} {rest : List Value} {μ : Mem} {ρ : Option Value × Mem} {i : Nat} (hi : i < 4) (F : Fx φ ΩA cc RX9 nL ret) (hd : decode cc pc = .ok (.getfield 349, 3)) (k : V φ ΩA nL d (pc + 3) L (.int (rd μ 16 i 0) :: rest) μ ρ) : V φ ΩA nL d pc L (rf φ 16 i :: rest) μ ρ := V.getf F (mA16 hi) (ci := 5) (k := 0) (N := 3) (C := RX5) (T := TX5) rfl rfl (by decide) in_RX5 fl_RX9_349 rfl hd k
theorem pf_RX9_349 {φ : Fr} {cc : ByteArray} {nL : Nat} {ret : Option FieldType} {d pc : Nat} {L : List (Option Value)} {rest : List Value} {μ : Mem} {ρ : Option Value × Mem} {i : Nat} (hi : i < 4) {x : Int32} {μ' : Mem} (F : Fx φ ΩA cc RX9 nL ret) (eμ : up μ 16 i 0 x = μ') (hd : decode cc pc = .ok (.putfield 349, 3)) (k : V φ ΩA nL d (pc + 3) L rest μ' ρ) : V φ ΩA nL d pc L (.int x :: rf φ 16 i :: rest) μ ρ := V.puti F (mA16 hi) (ci := 5) (k := 0) (N := 3) (C := RX5) (T := TX5) (ty := .int) rfl rfl (by decide) in_RX5 tyX5 tyX5_ok nmX5 fl_RX9_349 rfl (by decide +kernel) rfl (by exact rfl) (by simp) rfl eμ hd k
set_option maxRecDepth 100000 in
theorem fl_RX5_15 : Cond.fieldLink RX5 15 "SewnUp$Sheet" "size" "I" ∈ lw_G := mG 344 (by decide +kernel) rfl
theorem gf_RX5_15 {φ : Fr} {cc : ByteArray} {nL : Nat} {ret : Option FieldType} {d pc : Nat} {L : List (Option Value)} {rest : List Value} {μ : Mem} {ρ : Option Value × Mem} {i : Nat} (hi : i < 4) (F : Fx φ ΩA cc RX5 nL ret) (hd : decode cc pc = .ok (.getfield 15, 3)) (k : V φ ΩA nL d (pc + 3) L (.int (rd μ 16 i 1) :: rest) μ ρ) : V φ ΩA nL d pc L (rf φ 16 i :: rest) μ ρ := V.getf F (mA16 hi) (ci := 5) (k := 1) (N := 3) (C := RX5) (T := TX5) rfl rfl (by decide) in_RX5 fl_RX5_15 rfl hd k
theorem pf_RX5_15 {φ : Fr} {cc : ByteArray} {nL : Nat} {ret : Option FieldType} {d pc : Nat} {L : List (Option Value)} {rest : List Value} {μ : Mem} {ρ : Option Value × Mem} {i : Nat} (hi : i < 4) {x : Int32} {μ' : Mem} (F : Fx φ ΩA cc RX5 nL ret) (eμ : up μ 16 i 1 x = μ') (hd : decode cc pc = .ok (.putfield 15, 3)) (k : V φ ΩA nL d (pc + 3) L rest μ' ρ) : V φ ΩA nL d pc L (.int x :: rf φ 16 i :: rest) μ ρ := V.puti F (mA16 hi) (ci := 5) (k := 1) (N := 3) (C := RX5) (T := TX5) (ty := .int) rfl rfl (by decide) in_RX5 tyX5 tyX5_ok nmX5 fl_RX5_15 rfl (by decide +kernel) rfl (by exact rfl) (by simp) rfl eμ hd k
set_option maxRecDepth 100000 in
theorem fl_RX9_283 : Cond.fieldLink RX9 283 "SewnUp$Sheet" "size" "I" ∈ lw_G := mG 345 (by decide +kernel) rfl
theorem gf_RX9_283 {φ : Fr} {cc : ByteArray} {nL : Nat} {ret : Option FieldType} {d pc : Nat} {L : List (Option Value)} {rest : List Value} {μ : Mem} {ρ : Option Value × Mem} {i : Nat} (hi : i < 4) (F : Fx φ ΩA cc RX9 nL ret) (hd : decode cc pc = .ok (.getfield 283, 3)) (k : V φ ΩA nL d (pc + 3) L (.int (rd μ 16 i 1) :: rest) μ ρ) : V φ ΩA nL d pc L (rf φ 16 i :: rest) μ ρ := V.getf F (mA16 hi) (ci := 5) (k := 1) (N := 3) (C := RX5) (T := TX5) rfl rfl (by decide) in_RX5 fl_RX9_283 rfl hd k
theorem pf_RX9_283 {φ : Fr} {cc : ByteArray} {nL : Nat} {ret : Option FieldType} {d pc : Nat} {L : List (Option Value)} {rest : List Value} {μ : Mem} {ρ : Option Value × Mem} {i : Nat} (hi : i < 4) {x : Int32} {μ' : Mem} (F : Fx φ ΩA cc RX9 nL ret) (eμ : up μ 16 i 1 x = μ') (hd : decode cc pc = .ok (.putfield 283, 3)) (k : V φ ΩA nL d (pc + 3) L rest μ' ρ) : V φ ΩA nL d pc L (.int x :: rf φ 16 i :: rest) μ ρ := V.puti F (mA16 hi) (ci := 5) (k := 1) (N := 3) (C := RX5) (T := TX5) (ty := .int) rfl rfl (by decide) in_RX5 tyX5 tyX5_ok nmX5 fl_RX9_283 rfl (by decide +kernel) rfl (by exact rfl) (by simp) rfl eμ hd k
set_option maxRecDepth 100000 in
theorem fl_RX5_18 : Cond.fieldLink RX5 18 "SewnUp$Sheet" "items" "[I" ∈ lw_G := mG 346 (by decide +kernel) rfl
theorem gf_RX5_18 {φ : Fr} {cc : ByteArray} {nL : Nat} {ret : Option FieldType} {d pc : Nat} {L : List (Option Value)} {rest : List Value} {μ : Mem} {ρ : Option Value × Mem} {i : Nat} (hi : i < 4) (F : Fx φ ΩA cc RX5 nL ret) (hd : decode cc pc = .ok (.getfield 18, 3)) (k : V φ ΩA nL d (pc + 3) L (rf φ 17 i :: rest) μ ρ) : V φ ΩA nL d pc L (rf φ 16 i :: rest) μ ρ := V.getf F (mA16 hi) (ci := 5) (k := 2) (N := 3) (C := RX5) (T := TX5) rfl rfl (by decide) in_RX5 fl_RX5_18 rfl hd k
set_option maxRecDepth 100000 in
theorem fl_RX9_300 : Cond.fieldLink RX9 300 "SewnUp$Sheet" "items" "[I" ∈ lw_G := mG 347 (by decide +kernel) rfl
theorem gf_RX9_300 {φ : Fr} {cc : ByteArray} {nL : Nat} {ret : Option FieldType} {d pc : Nat} {L : List (Option Value)} {rest : List Value} {μ : Mem} {ρ : Option Value × Mem} {i : Nat} (hi : i < 4) (F : Fx φ ΩA cc RX9 nL ret) (hd : decode cc pc = .ok (.getfield 300, 3)) (k : V φ ΩA nL d (pc + 3) L (rf φ 17 i :: rest) μ ρ) : V φ ΩA nL d pc L (rf φ 16 i :: rest) μ ρ := V.getf F (mA16 hi) (ci := 5) (k := 2) (N := 3) (C := RX5) (T := TX5) rfl rfl (by decide) in_RX5 fl_RX9_300 rfl hd k
set_option maxRecDepth 100000 in
theorem fl_RJ0_38 : Cond.fieldLink RJ0 38 "java/lang/String" "COMPACT_STRINGS" "Z" ∈ lw_G := mG 368 (by decide +kernel) rfl
set_option maxRecDepth 100000 in
theorem fl_RJ0_1053 : Cond.fieldLink RJ0 1053 "jdk/internal/util/Preconditions" "SIOOBE_FORMATTER" "Ljava/util/function/BiFunction;" ∈ lw_G := mG 387 (by decide +kernel) rfl
set_option maxRecDepth 100000 in
theorem fl_RJ2_44 : Cond.fieldLink RJ2 44 "java/lang/StringUTF16" "$assertionsDisabled" "Z" ∈ lw_G := mG 405 (by decide +kernel) rfl
set_option maxRecDepth 100000 in
theorem fl_RJ2_59 : Cond.fieldLink RJ2 59 "java/lang/StringUTF16" "HI_BYTE_SHIFT" "I" ∈ lw_G := mG 407 (by decide +kernel) rfl
set_option maxRecDepth 100000 in
theorem fl_RJ2_63 : Cond.fieldLink RJ2 63 "java/lang/StringUTF16" "LO_BYTE_SHIFT" "I" ∈ lw_G := mG 409 (by decide +kernel) rfl
set_option maxRecDepth 100000 in
theorem fl_RX9_10 : Cond.fieldLink RX9 10 "SewnUp" "house" "LSewnUp$House;" ∈ lw_G := mG 514 (by decide +kernel) rfl
theorem gf_RX9_10 {φ : Fr} {cc : ByteArray} {nL : Nat} {ret : Option FieldType} {d pc : Nat} {L : List (Option Value)} {rest : List Value} {μ : Mem} {ρ : Option Value × Mem} (F : Fx φ ΩA cc RX9 nL ret) (hd : decode cc pc = .ok (.getfield 10, 3)) (k : V φ ΩA nL d (pc + 3) L (rf φ 1 0 :: rest) μ ρ) : V φ ΩA nL d pc L (rf φ 0 0 :: rest) μ ρ := V.getf F mA0 (ci := 9) (k := 0) (N := 12) (C := RX9) (T := TX9) rfl rfl (by decide) in_RX9 fl_RX9_10 rfl hd k
set_option maxRecDepth 100000 in
theorem fl_RX9_16 : Cond.fieldLink RX9 16 "SewnUp" "kept" "LSewnUp$House;" ∈ lw_G := mG 515 (by decide +kernel) rfl
theorem gf_RX9_16 {φ : Fr} {cc : ByteArray} {nL : Nat} {ret : Option FieldType} {d pc : Nat} {L : List (Option Value)} {rest : List Value} {μ : Mem} {ρ : Option Value × Mem} (F : Fx φ ΩA cc RX9 nL ret) (hd : decode cc pc = .ok (.getfield 16, 3)) (k : V φ ΩA nL d (pc + 3) L (rf φ 1 1 :: rest) μ ρ) : V φ ΩA nL d pc L (rf φ 0 0 :: rest) μ ρ := V.getf F mA0 (ci := 9) (k := 1) (N := 12) (C := RX9) (T := TX9) rfl rfl (by decide) in_RX9 fl_RX9_16 rfl hd k
set_option maxRecDepth 100000 in
theorem fl_RX9_19 : Cond.fieldLink RX9 19 "SewnUp" "isKept" "Z" ∈ lw_G := mG 516 (by decide +kernel) rfl
theorem gf_RX9_19 {φ : Fr} {cc : ByteArray} {nL : Nat} {ret : Option FieldType} {d pc : Nat} {L : List (Option Value)} {rest : List Value} {μ : Mem} {ρ : Option Value × Mem} (F : Fx φ ΩA cc RX9 nL ret) (hd : decode cc pc = .ok (.getfield 19, 3)) (k : V φ ΩA nL d (pc + 3) L (.int (rd μ 0 0 2) :: rest) μ ρ) : V φ ΩA nL d pc L (rf φ 0 0 :: rest) μ ρ := V.getf F mA0 (ci := 9) (k := 2) (N := 12) (C := RX9) (T := TX9) rfl rfl (by decide) in_RX9 fl_RX9_19 rfl hd k
theorem pf_RX9_19 {φ : Fr} {cc : ByteArray} {nL : Nat} {ret : Option FieldType} {d pc : Nat} {L : List (Option Value)} {rest : List Value} {μ : Mem} {ρ : Option Value × Mem} {x : Int32} {μ' : Mem} (hz : x = 0 ∨ x = 1) (F : Fx φ ΩA cc RX9 nL ret) (eμ : up μ 0 0 2 x = μ') (hd : decode cc pc = .ok (.putfield 19, 3)) (k : V φ ΩA nL d (pc + 3) L rest μ' ρ) : V φ ΩA nL d pc L (.int x :: rf φ 0 0 :: rest) μ ρ := V.puti F mA0 (ci := 9) (k := 2) (N := 12) (C := RX9) (T := TX9) (ty := .boolean) rfl rfl (by decide) in_RX9 tyX9 tyX9_ok nmX9 fl_RX9_19 rfl (by decide +kernel) (by rcases hz with rfl | rfl <;> rfl) (by rcases hz with rfl | rfl <;> rfl) (by simp) rfl eμ hd k
set_option maxRecDepth 100000 in
theorem fl_RX9_25 : Cond.fieldLink RX9 25 "SewnUp" "texts" "[LSewnUp$Text;" ∈ lw_G := mG 517 (by decide +kernel) rfl
theorem gf_RX9_25 {φ : Fr} {cc : ByteArray} {nL : Nat} {ret : Option FieldType} {d pc : Nat} {L : List (Option Value)} {rest : List Value} {μ : Mem} {ρ : Option Value × Mem} (F : Fx φ ΩA cc RX9 nL ret) (hd : decode cc pc = .ok (.getfield 25, 3)) (k : V φ ΩA nL d (pc + 3) L (rf φ 4 0 :: rest) μ ρ) : V φ ΩA nL d pc L (rf φ 0 0 :: rest) μ ρ := V.getf F mA0 (ci := 9) (k := 3) (N := 12) (C := RX9) (T := TX9) rfl rfl (by decide) in_RX9 fl_RX9_25 rfl hd k
set_option maxRecDepth 100000 in
theorem fl_RX9_29 : Cond.fieldLink RX9 29 "SewnUp" "textCount" "I" ∈ lw_G := mG 518 (by decide +kernel) rfl
theorem gf_RX9_29 {φ : Fr} {cc : ByteArray} {nL : Nat} {ret : Option FieldType} {d pc : Nat} {L : List (Option Value)} {rest : List Value} {μ : Mem} {ρ : Option Value × Mem} (F : Fx φ ΩA cc RX9 nL ret) (hd : decode cc pc = .ok (.getfield 29, 3)) (k : V φ ΩA nL d (pc + 3) L (.int (rd μ 0 0 4) :: rest) μ ρ) : V φ ΩA nL d pc L (rf φ 0 0 :: rest) μ ρ := V.getf F mA0 (ci := 9) (k := 4) (N := 12) (C := RX9) (T := TX9) rfl rfl (by decide) in_RX9 fl_RX9_29 rfl hd k
theorem pf_RX9_29 {φ : Fr} {cc : ByteArray} {nL : Nat} {ret : Option FieldType} {d pc : Nat} {L : List (Option Value)} {rest : List Value} {μ : Mem} {ρ : Option Value × Mem} {x : Int32} {μ' : Mem} (F : Fx φ ΩA cc RX9 nL ret) (eμ : up μ 0 0 4 x = μ') (hd : decode cc pc = .ok (.putfield 29, 3)) (k : V φ ΩA nL d (pc + 3) L rest μ' ρ) : V φ ΩA nL d pc L (.int x :: rf φ 0 0 :: rest) μ ρ := V.puti F mA0 (ci := 9) (k := 4) (N := 12) (C := RX9) (T := TX9) (ty := .int) rfl rfl (by decide) in_RX9 tyX9 tyX9_ok nmX9 fl_RX9_29 rfl (by decide +kernel) rfl (by exact rfl) (by simp) rfl eμ hd k
set_option maxRecDepth 100000 in
theorem fl_RX9_36 : Cond.fieldLink RX9 36 "SewnUp" "reader" "LSewnUp$Reader;" ∈ lw_G := mG 519 (by decide +kernel) rfl
theorem gf_RX9_36 {φ : Fr} {cc : ByteArray} {nL : Nat} {ret : Option FieldType} {d pc : Nat} {L : List (Option Value)} {rest : List Value} {μ : Mem} {ρ : Option Value × Mem} (F : Fx φ ΩA cc RX9 nL ret) (hd : decode cc pc = .ok (.getfield 36, 3)) (k : V φ ΩA nL d (pc + 3) L (rf φ 9 0 :: rest) μ ρ) : V φ ΩA nL d pc L (rf φ 0 0 :: rest) μ ρ := V.getf F mA0 (ci := 9) (k := 5) (N := 12) (C := RX9) (T := TX9) rfl rfl (by decide) in_RX9 fl_RX9_36 rfl hd k
set_option maxRecDepth 100000 in
theorem fl_RX9_42 : Cond.fieldLink RX9 42 "SewnUp" "sheets" "[LSewnUp$Sheet;" ∈ lw_G := mG 520 (by decide +kernel) rfl
theorem gf_RX9_42 {φ : Fr} {cc : ByteArray} {nL : Nat} {ret : Option FieldType} {d pc : Nat} {L : List (Option Value)} {rest : List Value} {μ : Mem} {ρ : Option Value × Mem} (F : Fx φ ΩA cc RX9 nL ret) (hd : decode cc pc = .ok (.getfield 42, 3)) (k : V φ ΩA nL d (pc + 3) L (rf φ 15 0 :: rest) μ ρ) : V φ ΩA nL d pc L (rf φ 0 0 :: rest) μ ρ := V.getf F mA0 (ci := 9) (k := 6) (N := 12) (C := RX9) (T := TX9) rfl rfl (by decide) in_RX9 fl_RX9_42 rfl hd k
set_option maxRecDepth 100000 in
theorem fl_RX9_49 : Cond.fieldLink RX9 49 "SewnUp" "man" "LSewnUp$Man;" ∈ lw_G := mG 521 (by decide +kernel) rfl
theorem gf_RX9_49 {φ : Fr} {cc : ByteArray} {nL : Nat} {ret : Option FieldType} {d pc : Nat} {L : List (Option Value)} {rest : List Value} {μ : Mem} {ρ : Option Value × Mem} (F : Fx φ ΩA cc RX9 nL ret) (hd : decode cc pc = .ok (.getfield 49, 3)) (k : V φ ΩA nL d (pc + 3) L (rf φ 18 0 :: rest) μ ρ) : V φ ΩA nL d pc L (rf φ 0 0 :: rest) μ ρ := V.getf F mA0 (ci := 9) (k := 7) (N := 12) (C := RX9) (T := TX9) rfl rfl (by decide) in_RX9 fl_RX9_49 rfl hd k
set_option maxRecDepth 100000 in
theorem fl_RX9_56 : Cond.fieldLink RX9 56 "SewnUp" "ways" "LSewnUp$Ways;" ∈ lw_G := mG 522 (by decide +kernel) rfl
theorem gf_RX9_56 {φ : Fr} {cc : ByteArray} {nL : Nat} {ret : Option FieldType} {d pc : Nat} {L : List (Option Value)} {rest : List Value} {μ : Mem} {ρ : Option Value × Mem} (F : Fx φ ΩA cc RX9 nL ret) (hd : decode cc pc = .ok (.getfield 56, 3)) (k : V φ ΩA nL d (pc + 3) L (rf φ 20 0 :: rest) μ ρ) : V φ ΩA nL d pc L (rf φ 0 0 :: rest) μ ρ := V.getf F mA0 (ci := 9) (k := 8) (N := 12) (C := RX9) (T := TX9) rfl rfl (by decide) in_RX9 fl_RX9_56 rfl hd k
set_option maxRecDepth 100000 in
theorem fl_RX9_63 : Cond.fieldLink RX9 63 "SewnUp" "pockets" "LSewnUp$Pockets;" ∈ lw_G := mG 523 (by decide +kernel) rfl
theorem gf_RX9_63 {φ : Fr} {cc : ByteArray} {nL : Nat} {ret : Option FieldType} {d pc : Nat} {L : List (Option Value)} {rest : List Value} {μ : Mem} {ρ : Option Value × Mem} (F : Fx φ ΩA cc RX9 nL ret) (hd : decode cc pc = .ok (.getfield 63, 3)) (k : V φ ΩA nL d (pc + 3) L (rf φ 23 0 :: rest) μ ρ) : V φ ΩA nL d pc L (rf φ 0 0 :: rest) μ ρ := V.getf F mA0 (ci := 9) (k := 9) (N := 12) (C := RX9) (T := TX9) rfl rfl (by decide) in_RX9 fl_RX9_63 rfl hd k
set_option maxRecDepth 100000 in
theorem fl_RX9_69 : Cond.fieldLink RX9 69 "SewnUp" "tempers" "[[I" ∈ lw_G := mG 524 (by decide +kernel) rfl
theorem gf_RX9_69 {φ : Fr} {cc : ByteArray} {nL : Nat} {ret : Option FieldType} {d pc : Nat} {L : List (Option Value)} {rest : List Value} {μ : Mem} {ρ : Option Value × Mem} (F : Fx φ ΩA cc RX9 nL ret) (hd : decode cc pc = .ok (.getfield 69, 3)) (k : V φ ΩA nL d (pc + 3) L (rf φ 27 0 :: rest) μ ρ) : V φ ΩA nL d pc L (rf φ 0 0 :: rest) μ ρ := V.getf F mA0 (ci := 9) (k := 10) (N := 12) (C := RX9) (T := TX9) rfl rfl (by decide) in_RX9 fl_RX9_69 rfl hd k
set_option maxRecDepth 100000 in
theorem fl_RX9_72 : Cond.fieldLink RX9 72 "SewnUp" "fitting" "[I" ∈ lw_G := mG 525 (by decide +kernel) rfl
theorem gf_RX9_72 {φ : Fr} {cc : ByteArray} {nL : Nat} {ret : Option FieldType} {d pc : Nat} {L : List (Option Value)} {rest : List Value} {μ : Mem} {ρ : Option Value × Mem} (F : Fx φ ΩA cc RX9 nL ret) (hd : decode cc pc = .ok (.getfield 72, 3)) (k : V φ ΩA nL d (pc + 3) L (rf φ 29 0 :: rest) μ ρ) : V φ ΩA nL d pc L (rf φ 0 0 :: rest) μ ρ := V.getf F mA0 (ci := 9) (k := 11) (N := 12) (C := RX9) (T := TX9) rfl rfl (by decide) in_RX9 fl_RX9_72 rfl hd k
set_option maxRecDepth 100000 in
theorem fl_RX9_367 : Cond.fieldLink RX9 367 "SewnUp" "UNDER" "[I" ∈ lw_G := mG 918 (by decide +kernel) rfl
set_option maxRecDepth 100000 in
theorem fl_RX10_13 : Cond.fieldLink RX10 13 "SewnUpModel" "texts" "[I" ∈ lw_G := mG 930 (by decide +kernel) rfl
theorem gf_RX10_13 {φ : Fr} {cc : ByteArray} {nL : Nat} {ret : Option FieldType} {d pc : Nat} {L : List (Option Value)} {rest : List Value} {μ : Mem} {ρ : Option Value × Mem} (F : Fx φ ΩB cc RX10 nL ret) (hd : decode cc pc = .ok (.getfield 13, 3)) (k : V φ ΩB nL d (pc + 3) L (rf φ 1 0 :: rest) μ ρ) : V φ ΩB nL d pc L (rf φ 0 0 :: rest) μ ρ := V.getf F mB0 (ci := 10) (k := 1) (N := 50) (C := RX10) (T := TX10) rfl rfl (by decide) in_RX10 fl_RX10_13 rfl hd k
set_option maxRecDepth 100000 in
theorem fl_RX10_17 : Cond.fieldLink RX10 17 "SewnUpModel" "textSize" "[I" ∈ lw_G := mG 931 (by decide +kernel) rfl
theorem gf_RX10_17 {φ : Fr} {cc : ByteArray} {nL : Nat} {ret : Option FieldType} {d pc : Nat} {L : List (Option Value)} {rest : List Value} {μ : Mem} {ρ : Option Value × Mem} (F : Fx φ ΩB cc RX10 nL ret) (hd : decode cc pc = .ok (.getfield 17, 3)) (k : V φ ΩB nL d (pc + 3) L (rf φ 2 0 :: rest) μ ρ) : V φ ΩB nL d pc L (rf φ 0 0 :: rest) μ ρ := V.getf F mB0 (ci := 10) (k := 2) (N := 50) (C := RX10) (T := TX10) rfl rfl (by decide) in_RX10 fl_RX10_17 rfl hd k
set_option maxRecDepth 100000 in
theorem fl_RX10_73 : Cond.fieldLink RX10 73 "SewnUpModel" "textCount" "I" ∈ lw_G := mG 932 (by decide +kernel) rfl
theorem gf_RX10_73 {φ : Fr} {cc : ByteArray} {nL : Nat} {ret : Option FieldType} {d pc : Nat} {L : List (Option Value)} {rest : List Value} {μ : Mem} {ρ : Option Value × Mem} (F : Fx φ ΩB cc RX10 nL ret) (hd : decode cc pc = .ok (.getfield 73, 3)) (k : V φ ΩB nL d (pc + 3) L (.int (rd μ 0 0 3) :: rest) μ ρ) : V φ ΩB nL d pc L (rf φ 0 0 :: rest) μ ρ := V.getf F mB0 (ci := 10) (k := 3) (N := 50) (C := RX10) (T := TX10) rfl rfl (by decide) in_RX10 fl_RX10_73 rfl hd k
theorem pf_RX10_73 {φ : Fr} {cc : ByteArray} {nL : Nat} {ret : Option FieldType} {d pc : Nat} {L : List (Option Value)} {rest : List Value} {μ : Mem} {ρ : Option Value × Mem} {x : Int32} {μ' : Mem} (F : Fx φ ΩB cc RX10 nL ret) (eμ : up μ 0 0 3 x = μ') (hd : decode cc pc = .ok (.putfield 73, 3)) (k : V φ ΩB nL d (pc + 3) L rest μ' ρ) : V φ ΩB nL d pc L (.int x :: rf φ 0 0 :: rest) μ ρ := V.puti F mB0 (ci := 10) (k := 3) (N := 50) (C := RX10) (T := TX10) (ty := .int) rfl rfl (by decide) in_RX10 tyX10 tyX10_ok nmX10 fl_RX10_73 rfl (by decide +kernel) rfl (by exact rfl) (by simp) rfl eμ hd k
set_option maxRecDepth 100000 in
theorem fl_RX10_104 : Cond.fieldLink RX10 104 "SewnUpModel" "rule" "I" ∈ lw_G := mG 933 (by decide +kernel) rfl
theorem gf_RX10_104 {φ : Fr} {cc : ByteArray} {nL : Nat} {ret : Option FieldType} {d pc : Nat} {L : List (Option Value)} {rest : List Value} {μ : Mem} {ρ : Option Value × Mem} (F : Fx φ ΩB cc RX10 nL ret) (hd : decode cc pc = .ok (.getfield 104, 3)) (k : V φ ΩB nL d (pc + 3) L (.int (rd μ 0 0 4) :: rest) μ ρ) : V φ ΩB nL d pc L (rf φ 0 0 :: rest) μ ρ := V.getf F mB0 (ci := 10) (k := 4) (N := 50) (C := RX10) (T := TX10) rfl rfl (by decide) in_RX10 fl_RX10_104 rfl hd k
theorem pf_RX10_104 {φ : Fr} {cc : ByteArray} {nL : Nat} {ret : Option FieldType} {d pc : Nat} {L : List (Option Value)} {rest : List Value} {μ : Mem} {ρ : Option Value × Mem} {x : Int32} {μ' : Mem} (F : Fx φ ΩB cc RX10 nL ret) (eμ : up μ 0 0 4 x = μ') (hd : decode cc pc = .ok (.putfield 104, 3)) (k : V φ ΩB nL d (pc + 3) L rest μ' ρ) : V φ ΩB nL d pc L (.int x :: rf φ 0 0 :: rest) μ ρ := V.puti F mB0 (ci := 10) (k := 4) (N := 50) (C := RX10) (T := TX10) (ty := .int) rfl rfl (by decide) in_RX10 tyX10 tyX10_ok nmX10 fl_RX10_104 rfl (by decide +kernel) rfl (by exact rfl) (by simp) rfl eμ hd k
set_option maxRecDepth 100000 in
theorem fl_RX10_20 : Cond.fieldLink RX10 20 "SewnUpModel" "tape" "[I" ∈ lw_G := mG 934 (by decide +kernel) rfl
theorem gf_RX10_20 {φ : Fr} {cc : ByteArray} {nL : Nat} {ret : Option FieldType} {d pc : Nat} {L : List (Option Value)} {rest : List Value} {μ : Mem} {ρ : Option Value × Mem} (F : Fx φ ΩB cc RX10 nL ret) (hd : decode cc pc = .ok (.getfield 20, 3)) (k : V φ ΩB nL d (pc + 3) L (rf φ 3 0 :: rest) μ ρ) : V φ ΩB nL d pc L (rf φ 0 0 :: rest) μ ρ := V.getf F mB0 (ci := 10) (k := 5) (N := 50) (C := RX10) (T := TX10) rfl rfl (by decide) in_RX10 fl_RX10_20 rfl hd k
set_option maxRecDepth 100000 in
theorem fl_RX10_134 : Cond.fieldLink RX10 134 "SewnUpModel" "taped" "I" ∈ lw_G := mG 935 (by decide +kernel) rfl
theorem gf_RX10_134 {φ : Fr} {cc : ByteArray} {nL : Nat} {ret : Option FieldType} {d pc : Nat} {L : List (Option Value)} {rest : List Value} {μ : Mem} {ρ : Option Value × Mem} (F : Fx φ ΩB cc RX10 nL ret) (hd : decode cc pc = .ok (.getfield 134, 3)) (k : V φ ΩB nL d (pc + 3) L (.int (rd μ 0 0 6) :: rest) μ ρ) : V φ ΩB nL d pc L (rf φ 0 0 :: rest) μ ρ := V.getf F mB0 (ci := 10) (k := 6) (N := 50) (C := RX10) (T := TX10) rfl rfl (by decide) in_RX10 fl_RX10_134 rfl hd k
theorem pf_RX10_134 {φ : Fr} {cc : ByteArray} {nL : Nat} {ret : Option FieldType} {d pc : Nat} {L : List (Option Value)} {rest : List Value} {μ : Mem} {ρ : Option Value × Mem} {x : Int32} {μ' : Mem} (F : Fx φ ΩB cc RX10 nL ret) (eμ : up μ 0 0 6 x = μ') (hd : decode cc pc = .ok (.putfield 134, 3)) (k : V φ ΩB nL d (pc + 3) L rest μ' ρ) : V φ ΩB nL d pc L (.int x :: rf φ 0 0 :: rest) μ ρ := V.puti F mB0 (ci := 10) (k := 6) (N := 50) (C := RX10) (T := TX10) (ty := .int) rfl rfl (by decide) in_RX10 tyX10 tyX10_ok nmX10 fl_RX10_134 rfl (by decide +kernel) rfl (by exact rfl) (by simp) rfl eμ hd k
set_option maxRecDepth 100000 in
theorem fl_RX10_101 : Cond.fieldLink RX10 101 "SewnUpModel" "dayNow" "I" ∈ lw_G := mG 936 (by decide +kernel) rfl
theorem gf_RX10_101 {φ : Fr} {cc : ByteArray} {nL : Nat} {ret : Option FieldType} {d pc : Nat} {L : List (Option Value)} {rest : List Value} {μ : Mem} {ρ : Option Value × Mem} (F : Fx φ ΩB cc RX10 nL ret) (hd : decode cc pc = .ok (.getfield 101, 3)) (k : V φ ΩB nL d (pc + 3) L (.int (rd μ 0 0 7) :: rest) μ ρ) : V φ ΩB nL d pc L (rf φ 0 0 :: rest) μ ρ := V.getf F mB0 (ci := 10) (k := 7) (N := 50) (C := RX10) (T := TX10) rfl rfl (by decide) in_RX10 fl_RX10_101 rfl hd k
theorem pf_RX10_101 {φ : Fr} {cc : ByteArray} {nL : Nat} {ret : Option FieldType} {d pc : Nat} {L : List (Option Value)} {rest : List Value} {μ : Mem} {ρ : Option Value × Mem} {x : Int32} {μ' : Mem} (F : Fx φ ΩB cc RX10 nL ret) (eμ : up μ 0 0 7 x = μ') (hd : decode cc pc = .ok (.putfield 101, 3)) (k : V φ ΩB nL d (pc + 3) L rest μ' ρ) : V φ ΩB nL d pc L (.int x :: rf φ 0 0 :: rest) μ ρ := V.puti F mB0 (ci := 10) (k := 7) (N := 50) (C := RX10) (T := TX10) (ty := .int) rfl rfl (by decide) in_RX10 tyX10 tyX10_ok nmX10 fl_RX10_101 rfl (by decide +kernel) rfl (by exact rfl) (by simp) rfl eμ hd k
set_option maxRecDepth 100000 in
theorem fl_RX10_23 : Cond.fieldLink RX10 23 "SewnUpModel" "limit" "I" ∈ lw_G := mG 937 (by decide +kernel) rfl
theorem gf_RX10_23 {φ : Fr} {cc : ByteArray} {nL : Nat} {ret : Option FieldType} {d pc : Nat} {L : List (Option Value)} {rest : List Value} {μ : Mem} {ρ : Option Value × Mem} (F : Fx φ ΩB cc RX10 nL ret) (hd : decode cc pc = .ok (.getfield 23, 3)) (k : V φ ΩB nL d (pc + 3) L (.int (rd μ 0 0 8) :: rest) μ ρ) : V φ ΩB nL d pc L (rf φ 0 0 :: rest) μ ρ := V.getf F mB0 (ci := 10) (k := 8) (N := 50) (C := RX10) (T := TX10) rfl rfl (by decide) in_RX10 fl_RX10_23 rfl hd k
theorem pf_RX10_23 {φ : Fr} {cc : ByteArray} {nL : Nat} {ret : Option FieldType} {d pc : Nat} {L : List (Option Value)} {rest : List Value} {μ : Mem} {ρ : Option Value × Mem} {x : Int32} {μ' : Mem} (F : Fx φ ΩB cc RX10 nL ret) (eμ : up μ 0 0 8 x = μ') (hd : decode cc pc = .ok (.putfield 23, 3)) (k : V φ ΩB nL d (pc + 3) L rest μ' ρ) : V φ ΩB nL d pc L (.int x :: rf φ 0 0 :: rest) μ ρ := V.puti F mB0 (ci := 10) (k := 8) (N := 50) (C := RX10) (T := TX10) (ty := .int) rfl rfl (by decide) in_RX10 tyX10 tyX10_ok nmX10 fl_RX10_23 rfl (by decide +kernel) rfl (by exact rfl) (by simp) rfl eμ hd k
set_option maxRecDepth 100000 in
theorem fl_RX10_26 : Cond.fieldLink RX10 26 "SewnUpModel" "kinds" "[I" ∈ lw_G := mG 938 (by decide +kernel) rfl
theorem gf_RX10_26 {φ : Fr} {cc : ByteArray} {nL : Nat} {ret : Option FieldType} {d pc : Nat} {L : List (Option Value)} {rest : List Value} {μ : Mem} {ρ : Option Value × Mem} (F : Fx φ ΩB cc RX10 nL ret) (hd : decode cc pc = .ok (.getfield 26, 3)) (k : V φ ΩB nL d (pc + 3) L (rf φ 4 0 :: rest) μ ρ) : V φ ΩB nL d pc L (rf φ 0 0 :: rest) μ ρ := V.getf F mB0 (ci := 10) (k := 9) (N := 50) (C := RX10) (T := TX10) rfl rfl (by decide) in_RX10 fl_RX10_26 rfl hd k
set_option maxRecDepth 100000 in
theorem fl_RX10_29 : Cond.fieldLink RX10 29 "SewnUpModel" "rows" "[I" ∈ lw_G := mG 939 (by decide +kernel) rfl
theorem gf_RX10_29 {φ : Fr} {cc : ByteArray} {nL : Nat} {ret : Option FieldType} {d pc : Nat} {L : List (Option Value)} {rest : List Value} {μ : Mem} {ρ : Option Value × Mem} (F : Fx φ ΩB cc RX10 nL ret) (hd : decode cc pc = .ok (.getfield 29, 3)) (k : V φ ΩB nL d (pc + 3) L (rf φ 5 0 :: rest) μ ρ) : V φ ΩB nL d pc L (rf φ 0 0 :: rest) μ ρ := V.getf F mB0 (ci := 10) (k := 10) (N := 50) (C := RX10) (T := TX10) rfl rfl (by decide) in_RX10 fl_RX10_29 rfl hd k
set_option maxRecDepth 100000 in
theorem fl_RX10_32 : Cond.fieldLink RX10 32 "SewnUpModel" "wears" "[I" ∈ lw_G := mG 940 (by decide +kernel) rfl
theorem gf_RX10_32 {φ : Fr} {cc : ByteArray} {nL : Nat} {ret : Option FieldType} {d pc : Nat} {L : List (Option Value)} {rest : List Value} {μ : Mem} {ρ : Option Value × Mem} (F : Fx φ ΩB cc RX10 nL ret) (hd : decode cc pc = .ok (.getfield 32, 3)) (k : V φ ΩB nL d (pc + 3) L (rf φ 6 0 :: rest) μ ρ) : V φ ΩB nL d pc L (rf φ 0 0 :: rest) μ ρ := V.getf F mB0 (ci := 10) (k := 11) (N := 50) (C := RX10) (T := TX10) rfl rfl (by decide) in_RX10 fl_RX10_32 rfl hd k
set_option maxRecDepth 100000 in
theorem fl_RX10_76 : Cond.fieldLink RX10 76 "SewnUpModel" "many" "I" ∈ lw_G := mG 941 (by decide +kernel) rfl
theorem gf_RX10_76 {φ : Fr} {cc : ByteArray} {nL : Nat} {ret : Option FieldType} {d pc : Nat} {L : List (Option Value)} {rest : List Value} {μ : Mem} {ρ : Option Value × Mem} (F : Fx φ ΩB cc RX10 nL ret) (hd : decode cc pc = .ok (.getfield 76, 3)) (k : V φ ΩB nL d (pc + 3) L (.int (rd μ 0 0 12) :: rest) μ ρ) : V φ ΩB nL d pc L (rf φ 0 0 :: rest) μ ρ := V.getf F mB0 (ci := 10) (k := 12) (N := 50) (C := RX10) (T := TX10) rfl rfl (by decide) in_RX10 fl_RX10_76 rfl hd k
theorem pf_RX10_76 {φ : Fr} {cc : ByteArray} {nL : Nat} {ret : Option FieldType} {d pc : Nat} {L : List (Option Value)} {rest : List Value} {μ : Mem} {ρ : Option Value × Mem} {x : Int32} {μ' : Mem} (F : Fx φ ΩB cc RX10 nL ret) (eμ : up μ 0 0 12 x = μ') (hd : decode cc pc = .ok (.putfield 76, 3)) (k : V φ ΩB nL d (pc + 3) L rest μ' ρ) : V φ ΩB nL d pc L (.int x :: rf φ 0 0 :: rest) μ ρ := V.puti F mB0 (ci := 10) (k := 12) (N := 50) (C := RX10) (T := TX10) (ty := .int) rfl rfl (by decide) in_RX10 tyX10 tyX10_ok nmX10 fl_RX10_76 rfl (by decide +kernel) rfl (by exact rfl) (by simp) rfl eμ hd k
set_option maxRecDepth 100000 in
theorem fl_RX10_191 : Cond.fieldLink RX10 191 "SewnUpModel" "ofThing" "I" ∈ lw_G := mG 942 (by decide +kernel) rfl
theorem gf_RX10_191 {φ : Fr} {cc : ByteArray} {nL : Nat} {ret : Option FieldType} {d pc : Nat} {L : List (Option Value)} {rest : List Value} {μ : Mem} {ρ : Option Value × Mem} (F : Fx φ ΩB cc RX10 nL ret) (hd : decode cc pc = .ok (.getfield 191, 3)) (k : V φ ΩB nL d (pc + 3) L (.int (rd μ 0 0 13) :: rest) μ ρ) : V φ ΩB nL d pc L (rf φ 0 0 :: rest) μ ρ := V.getf F mB0 (ci := 10) (k := 13) (N := 50) (C := RX10) (T := TX10) rfl rfl (by decide) in_RX10 fl_RX10_191 rfl hd k
theorem pf_RX10_191 {φ : Fr} {cc : ByteArray} {nL : Nat} {ret : Option FieldType} {d pc : Nat} {L : List (Option Value)} {rest : List Value} {μ : Mem} {ρ : Option Value × Mem} {x : Int32} {μ' : Mem} (F : Fx φ ΩB cc RX10 nL ret) (eμ : up μ 0 0 13 x = μ') (hd : decode cc pc = .ok (.putfield 191, 3)) (k : V φ ΩB nL d (pc + 3) L rest μ' ρ) : V φ ΩB nL d pc L (.int x :: rf φ 0 0 :: rest) μ ρ := V.puti F mB0 (ci := 10) (k := 13) (N := 50) (C := RX10) (T := TX10) (ty := .int) rfl rfl (by decide) in_RX10 tyX10 tyX10_ok nmX10 fl_RX10_191 rfl (by decide +kernel) rfl (by exact rfl) (by simp) rfl eμ hd k
set_option maxRecDepth 100000 in
theorem fl_RX10_194 : Cond.fieldLink RX10 194 "SewnUpModel" "ofTemper" "I" ∈ lw_G := mG 943 (by decide +kernel) rfl
theorem gf_RX10_194 {φ : Fr} {cc : ByteArray} {nL : Nat} {ret : Option FieldType} {d pc : Nat} {L : List (Option Value)} {rest : List Value} {μ : Mem} {ρ : Option Value × Mem} (F : Fx φ ΩB cc RX10 nL ret) (hd : decode cc pc = .ok (.getfield 194, 3)) (k : V φ ΩB nL d (pc + 3) L (.int (rd μ 0 0 14) :: rest) μ ρ) : V φ ΩB nL d pc L (rf φ 0 0 :: rest) μ ρ := V.getf F mB0 (ci := 10) (k := 14) (N := 50) (C := RX10) (T := TX10) rfl rfl (by decide) in_RX10 fl_RX10_194 rfl hd k
theorem pf_RX10_194 {φ : Fr} {cc : ByteArray} {nL : Nat} {ret : Option FieldType} {d pc : Nat} {L : List (Option Value)} {rest : List Value} {μ : Mem} {ρ : Option Value × Mem} {x : Int32} {μ' : Mem} (F : Fx φ ΩB cc RX10 nL ret) (eμ : up μ 0 0 14 x = μ') (hd : decode cc pc = .ok (.putfield 194, 3)) (k : V φ ΩB nL d (pc + 3) L rest μ' ρ) : V φ ΩB nL d pc L (.int x :: rf φ 0 0 :: rest) μ ρ := V.puti F mB0 (ci := 10) (k := 14) (N := 50) (C := RX10) (T := TX10) (ty := .int) rfl rfl (by decide) in_RX10 tyX10 tyX10_ok nmX10 fl_RX10_194 rfl (by decide +kernel) rfl (by exact rfl) (by simp) rfl eμ hd k
set_option maxRecDepth 100000 in
theorem fl_RX10_197 : Cond.fieldLink RX10 197 "SewnUpModel" "ofNumber" "I" ∈ lw_G := mG 944 (by decide +kernel) rfl
theorem gf_RX10_197 {φ : Fr} {cc : ByteArray} {nL : Nat} {ret : Option FieldType} {d pc : Nat} {L : List (Option Value)} {rest : List Value} {μ : Mem} {ρ : Option Value × Mem} (F : Fx φ ΩB cc RX10 nL ret) (hd : decode cc pc = .ok (.getfield 197, 3)) (k : V φ ΩB nL d (pc + 3) L (.int (rd μ 0 0 15) :: rest) μ ρ) : V φ ΩB nL d pc L (rf φ 0 0 :: rest) μ ρ := V.getf F mB0 (ci := 10) (k := 15) (N := 50) (C := RX10) (T := TX10) rfl rfl (by decide) in_RX10 fl_RX10_197 rfl hd k
theorem pf_RX10_197 {φ : Fr} {cc : ByteArray} {nL : Nat} {ret : Option FieldType} {d pc : Nat} {L : List (Option Value)} {rest : List Value} {μ : Mem} {ρ : Option Value × Mem} {x : Int32} {μ' : Mem} (F : Fx φ ΩB cc RX10 nL ret) (eμ : up μ 0 0 15 x = μ') (hd : decode cc pc = .ok (.putfield 197, 3)) (k : V φ ΩB nL d (pc + 3) L rest μ' ρ) : V φ ΩB nL d pc L (.int x :: rf φ 0 0 :: rest) μ ρ := V.puti F mB0 (ci := 10) (k := 15) (N := 50) (C := RX10) (T := TX10) (ty := .int) rfl rfl (by decide) in_RX10 tyX10 tyX10_ok nmX10 fl_RX10_197 rfl (by decide +kernel) rfl (by exact rfl) (by simp) rfl eμ hd k
set_option maxRecDepth 100000 in
theorem fl_RX10_200 : Cond.fieldLink RX10 200 "SewnUpModel" "ofDay" "I" ∈ lw_G := mG 945 (by decide +kernel) rfl
theorem gf_RX10_200 {φ : Fr} {cc : ByteArray} {nL : Nat} {ret : Option FieldType} {d pc : Nat} {L : List (Option Value)} {rest : List Value} {μ : Mem} {ρ : Option Value × Mem} (F : Fx φ ΩB cc RX10 nL ret) (hd : decode cc pc = .ok (.getfield 200, 3)) (k : V φ ΩB nL d (pc + 3) L (.int (rd μ 0 0 16) :: rest) μ ρ) : V φ ΩB nL d pc L (rf φ 0 0 :: rest) μ ρ := V.getf F mB0 (ci := 10) (k := 16) (N := 50) (C := RX10) (T := TX10) rfl rfl (by decide) in_RX10 fl_RX10_200 rfl hd k
theorem pf_RX10_200 {φ : Fr} {cc : ByteArray} {nL : Nat} {ret : Option FieldType} {d pc : Nat} {L : List (Option Value)} {rest : List Value} {μ : Mem} {ρ : Option Value × Mem} {x : Int32} {μ' : Mem} (F : Fx φ ΩB cc RX10 nL ret) (eμ : up μ 0 0 16 x = μ') (hd : decode cc pc = .ok (.putfield 200, 3)) (k : V φ ΩB nL d (pc + 3) L rest μ' ρ) : V φ ΩB nL d pc L (.int x :: rf φ 0 0 :: rest) μ ρ := V.puti F mB0 (ci := 10) (k := 16) (N := 50) (C := RX10) (T := TX10) (ty := .int) rfl rfl (by decide) in_RX10 tyX10 tyX10_ok nmX10 fl_RX10_200 rfl (by decide +kernel) rfl (by exact rfl) (by simp) rfl eμ hd k
set_option maxRecDepth 100000 in
theorem fl_RX10_203 : Cond.fieldLink RX10 203 "SewnUpModel" "ofCoat" "I" ∈ lw_G := mG 946 (by decide +kernel) rfl
theorem gf_RX10_203 {φ : Fr} {cc : ByteArray} {nL : Nat} {ret : Option FieldType} {d pc : Nat} {L : List (Option Value)} {rest : List Value} {μ : Mem} {ρ : Option Value × Mem} (F : Fx φ ΩB cc RX10 nL ret) (hd : decode cc pc = .ok (.getfield 203, 3)) (k : V φ ΩB nL d (pc + 3) L (.int (rd μ 0 0 17) :: rest) μ ρ) : V φ ΩB nL d pc L (rf φ 0 0 :: rest) μ ρ := V.getf F mB0 (ci := 10) (k := 17) (N := 50) (C := RX10) (T := TX10) rfl rfl (by decide) in_RX10 fl_RX10_203 rfl hd k
theorem pf_RX10_203 {φ : Fr} {cc : ByteArray} {nL : Nat} {ret : Option FieldType} {d pc : Nat} {L : List (Option Value)} {rest : List Value} {μ : Mem} {ρ : Option Value × Mem} {x : Int32} {μ' : Mem} (F : Fx φ ΩB cc RX10 nL ret) (eμ : up μ 0 0 17 x = μ') (hd : decode cc pc = .ok (.putfield 203, 3)) (k : V φ ΩB nL d (pc + 3) L rest μ' ρ) : V φ ΩB nL d pc L (.int x :: rf φ 0 0 :: rest) μ ρ := V.puti F mB0 (ci := 10) (k := 17) (N := 50) (C := RX10) (T := TX10) (ty := .int) rfl rfl (by decide) in_RX10 tyX10 tyX10_ok nmX10 fl_RX10_203 rfl (by decide +kernel) rfl (by exact rfl) (by simp) rfl eμ hd k
set_option maxRecDepth 100000 in
theorem fl_RX10_206 : Cond.fieldLink RX10 206 "SewnUpModel" "ofOwn" "I" ∈ lw_G := mG 947 (by decide +kernel) rfl
theorem gf_RX10_206 {φ : Fr} {cc : ByteArray} {nL : Nat} {ret : Option FieldType} {d pc : Nat} {L : List (Option Value)} {rest : List Value} {μ : Mem} {ρ : Option Value × Mem} (F : Fx φ ΩB cc RX10 nL ret) (hd : decode cc pc = .ok (.getfield 206, 3)) (k : V φ ΩB nL d (pc + 3) L (.int (rd μ 0 0 18) :: rest) μ ρ) : V φ ΩB nL d pc L (rf φ 0 0 :: rest) μ ρ := V.getf F mB0 (ci := 10) (k := 18) (N := 50) (C := RX10) (T := TX10) rfl rfl (by decide) in_RX10 fl_RX10_206 rfl hd k
theorem pf_RX10_206 {φ : Fr} {cc : ByteArray} {nL : Nat} {ret : Option FieldType} {d pc : Nat} {L : List (Option Value)} {rest : List Value} {μ : Mem} {ρ : Option Value × Mem} {x : Int32} {μ' : Mem} (F : Fx φ ΩB cc RX10 nL ret) (eμ : up μ 0 0 18 x = μ') (hd : decode cc pc = .ok (.putfield 206, 3)) (k : V φ ΩB nL d (pc + 3) L rest μ' ρ) : V φ ΩB nL d pc L (.int x :: rf φ 0 0 :: rest) μ ρ := V.puti F mB0 (ci := 10) (k := 18) (N := 50) (C := RX10) (T := TX10) (ty := .int) rfl rfl (by decide) in_RX10 tyX10 tyX10_ok nmX10 fl_RX10_206 rfl (by decide +kernel) rfl (by exact rfl) (by simp) rfl eμ hd k
set_option maxRecDepth 100000 in
theorem fl_RX10_140 : Cond.fieldLink RX10 140 "SewnUpModel" "textFrom" "I" ∈ lw_G := mG 948 (by decide +kernel) rfl
theorem gf_RX10_140 {φ : Fr} {cc : ByteArray} {nL : Nat} {ret : Option FieldType} {d pc : Nat} {L : List (Option Value)} {rest : List Value} {μ : Mem} {ρ : Option Value × Mem} (F : Fx φ ΩB cc RX10 nL ret) (hd : decode cc pc = .ok (.getfield 140, 3)) (k : V φ ΩB nL d (pc + 3) L (.int (rd μ 0 0 19) :: rest) μ ρ) : V φ ΩB nL d pc L (rf φ 0 0 :: rest) μ ρ := V.getf F mB0 (ci := 10) (k := 19) (N := 50) (C := RX10) (T := TX10) rfl rfl (by decide) in_RX10 fl_RX10_140 rfl hd k
theorem pf_RX10_140 {φ : Fr} {cc : ByteArray} {nL : Nat} {ret : Option FieldType} {d pc : Nat} {L : List (Option Value)} {rest : List Value} {μ : Mem} {ρ : Option Value × Mem} {x : Int32} {μ' : Mem} (F : Fx φ ΩB cc RX10 nL ret) (eμ : up μ 0 0 19 x = μ') (hd : decode cc pc = .ok (.putfield 140, 3)) (k : V φ ΩB nL d (pc + 3) L rest μ' ρ) : V φ ΩB nL d pc L (.int x :: rf φ 0 0 :: rest) μ ρ := V.puti F mB0 (ci := 10) (k := 19) (N := 50) (C := RX10) (T := TX10) (ty := .int) rfl rfl (by decide) in_RX10 tyX10 tyX10_ok nmX10 fl_RX10_140 rfl (by decide +kernel) rfl (by exact rfl) (by simp) rfl eμ hd k
set_option maxRecDepth 100000 in
theorem fl_RX10_137 : Cond.fieldLink RX10 137 "SewnUpModel" "size" "I" ∈ lw_G := mG 949 (by decide +kernel) rfl
theorem gf_RX10_137 {φ : Fr} {cc : ByteArray} {nL : Nat} {ret : Option FieldType} {d pc : Nat} {L : List (Option Value)} {rest : List Value} {μ : Mem} {ρ : Option Value × Mem} (F : Fx φ ΩB cc RX10 nL ret) (hd : decode cc pc = .ok (.getfield 137, 3)) (k : V φ ΩB nL d (pc + 3) L (.int (rd μ 0 0 20) :: rest) μ ρ) : V φ ΩB nL d pc L (rf φ 0 0 :: rest) μ ρ := V.getf F mB0 (ci := 10) (k := 20) (N := 50) (C := RX10) (T := TX10) rfl rfl (by decide) in_RX10 fl_RX10_137 rfl hd k
theorem pf_RX10_137 {φ : Fr} {cc : ByteArray} {nL : Nat} {ret : Option FieldType} {d pc : Nat} {L : List (Option Value)} {rest : List Value} {μ : Mem} {ρ : Option Value × Mem} {x : Int32} {μ' : Mem} (F : Fx φ ΩB cc RX10 nL ret) (eμ : up μ 0 0 20 x = μ') (hd : decode cc pc = .ok (.putfield 137, 3)) (k : V φ ΩB nL d (pc + 3) L rest μ' ρ) : V φ ΩB nL d pc L (.int x :: rf φ 0 0 :: rest) μ ρ := V.puti F mB0 (ci := 10) (k := 20) (N := 50) (C := RX10) (T := TX10) (ty := .int) rfl rfl (by decide) in_RX10 tyX10 tyX10_ok nmX10 fl_RX10_137 rfl (by decide +kernel) rfl (by exact rfl) (by simp) rfl eμ hd k
set_option maxRecDepth 100000 in
theorem fl_RX10_143 : Cond.fieldLink RX10 143 "SewnUpModel" "here" "I" ∈ lw_G := mG 950 (by decide +kernel) rfl
theorem gf_RX10_143 {φ : Fr} {cc : ByteArray} {nL : Nat} {ret : Option FieldType} {d pc : Nat} {L : List (Option Value)} {rest : List Value} {μ : Mem} {ρ : Option Value × Mem} (F : Fx φ ΩB cc RX10 nL ret) (hd : decode cc pc = .ok (.getfield 143, 3)) (k : V φ ΩB nL d (pc + 3) L (.int (rd μ 0 0 21) :: rest) μ ρ) : V φ ΩB nL d pc L (rf φ 0 0 :: rest) μ ρ := V.getf F mB0 (ci := 10) (k := 21) (N := 50) (C := RX10) (T := TX10) rfl rfl (by decide) in_RX10 fl_RX10_143 rfl hd k
theorem pf_RX10_143 {φ : Fr} {cc : ByteArray} {nL : Nat} {ret : Option FieldType} {d pc : Nat} {L : List (Option Value)} {rest : List Value} {μ : Mem} {ρ : Option Value × Mem} {x : Int32} {μ' : Mem} (F : Fx φ ΩB cc RX10 nL ret) (eμ : up μ 0 0 21 x = μ') (hd : decode cc pc = .ok (.putfield 143, 3)) (k : V φ ΩB nL d (pc + 3) L rest μ' ρ) : V φ ΩB nL d pc L (.int x :: rf φ 0 0 :: rest) μ ρ := V.puti F mB0 (ci := 10) (k := 21) (N := 50) (C := RX10) (T := TX10) (ty := .int) rfl rfl (by decide) in_RX10 tyX10 tyX10_ok nmX10 fl_RX10_143 rfl (by decide +kernel) rfl (by exact rfl) (by simp) rfl eμ hd k
set_option maxRecDepth 100000 in
theorem fl_RX10_152 : Cond.fieldLink RX10 152 "SewnUpModel" "token" "I" ∈ lw_G := mG 951 (by decide +kernel) rfl
theorem gf_RX10_152 {φ : Fr} {cc : ByteArray} {nL : Nat} {ret : Option FieldType} {d pc : Nat} {L : List (Option Value)} {rest : List Value} {μ : Mem} {ρ : Option Value × Mem} (F : Fx φ ΩB cc RX10 nL ret) (hd : decode cc pc = .ok (.getfield 152, 3)) (k : V φ ΩB nL d (pc + 3) L (.int (rd μ 0 0 22) :: rest) μ ρ) : V φ ΩB nL d pc L (rf φ 0 0 :: rest) μ ρ := V.getf F mB0 (ci := 10) (k := 22) (N := 50) (C := RX10) (T := TX10) rfl rfl (by decide) in_RX10 fl_RX10_152 rfl hd k
theorem pf_RX10_152 {φ : Fr} {cc : ByteArray} {nL : Nat} {ret : Option FieldType} {d pc : Nat} {L : List (Option Value)} {rest : List Value} {μ : Mem} {ρ : Option Value × Mem} {x : Int32} {μ' : Mem} (F : Fx φ ΩB cc RX10 nL ret) (eμ : up μ 0 0 22 x = μ') (hd : decode cc pc = .ok (.putfield 152, 3)) (k : V φ ΩB nL d (pc + 3) L rest μ' ρ) : V φ ΩB nL d pc L (.int x :: rf φ 0 0 :: rest) μ ρ := V.puti F mB0 (ci := 10) (k := 22) (N := 50) (C := RX10) (T := TX10) (ty := .int) rfl rfl (by decide) in_RX10 tyX10 tyX10_ok nmX10 fl_RX10_152 rfl (by decide +kernel) rfl (by exact rfl) (by simp) rfl eμ hd k
set_option maxRecDepth 100000 in
theorem fl_RX10_149 : Cond.fieldLink RX10 149 "SewnUpModel" "tokenAt" "I" ∈ lw_G := mG 952 (by decide +kernel) rfl
theorem gf_RX10_149 {φ : Fr} {cc : ByteArray} {nL : Nat} {ret : Option FieldType} {d pc : Nat} {L : List (Option Value)} {rest : List Value} {μ : Mem} {ρ : Option Value × Mem} (F : Fx φ ΩB cc RX10 nL ret) (hd : decode cc pc = .ok (.getfield 149, 3)) (k : V φ ΩB nL d (pc + 3) L (.int (rd μ 0 0 23) :: rest) μ ρ) : V φ ΩB nL d pc L (rf φ 0 0 :: rest) μ ρ := V.getf F mB0 (ci := 10) (k := 23) (N := 50) (C := RX10) (T := TX10) rfl rfl (by decide) in_RX10 fl_RX10_149 rfl hd k
theorem pf_RX10_149 {φ : Fr} {cc : ByteArray} {nL : Nat} {ret : Option FieldType} {d pc : Nat} {L : List (Option Value)} {rest : List Value} {μ : Mem} {ρ : Option Value × Mem} {x : Int32} {μ' : Mem} (F : Fx φ ΩB cc RX10 nL ret) (eμ : up μ 0 0 23 x = μ') (hd : decode cc pc = .ok (.putfield 149, 3)) (k : V φ ΩB nL d (pc + 3) L rest μ' ρ) : V φ ΩB nL d pc L (.int x :: rf φ 0 0 :: rest) μ ρ := V.puti F mB0 (ci := 10) (k := 23) (N := 50) (C := RX10) (T := TX10) (ty := .int) rfl rfl (by decide) in_RX10 tyX10 tyX10_ok nmX10 fl_RX10_149 rfl (by decide +kernel) rfl (by exact rfl) (by simp) rfl eμ hd k
set_option maxRecDepth 100000 in
theorem fl_RX10_163 : Cond.fieldLink RX10 163 "SewnUpModel" "tokenWorth" "J" ∈ lw_G := mG 953 (by decide +kernel) rfl
theorem gf_RX10_163 {φ : Fr} {cc : ByteArray} {nL : Nat} {ret : Option FieldType} {d pc : Nat} {L : List (Option Value)} {rest : List Value} {μ : Mem} {ρ : Option Value × Mem} (F : Fx φ ΩB cc RX10 nL ret) (hd : decode cc pc = .ok (.getfield 163, 3)) (k : V φ ΩB nL d (pc + 3) L (.long (rdL μ) :: rest) μ ρ) : V φ ΩB nL d pc L (rf φ 0 0 :: rest) μ ρ := V.getf F mB0 (ci := 10) (k := 24) (N := 50) (C := RX10) (T := TX10) rfl rfl (by decide) in_RX10 fl_RX10_163 rfl hd k
theorem pf_RX10_163 {φ : Fr} {cc : ByteArray} {nL : Nat} {ret : Option FieldType} {d pc : Nat} {L : List (Option Value)} {rest : List Value} {μ : Mem} {ρ : Option Value × Mem} {x : Int64} {μ' : Mem} (F : Fx φ ΩB cc RX10 nL ret) (eμ : upL μ x = μ') (hd : decode cc pc = .ok (.putfield 163, 3)) (k : V φ ΩB nL d (pc + 3) L rest μ' ρ) : V φ ΩB nL d pc L (.long x :: rf φ 0 0 :: rest) μ ρ := by
  subst eμ
  exact V.putf (μ' := upL μ x) F mB0 (ci := 10) (k := 24) (N := 50) (C := RX10) (T := TX10) (ty := .long) rfl rfl (by decide) in_RX10 tyX10 tyX10_ok nmX10 fl_RX10_163 rfl (by decide +kernel) rfl rfl (by simp) rfl (fun f' i' hf hne => entB_w (i := i') (fun e => hne (by subst e; exact mB0_one hf))) hd k
set_option maxRecDepth 100000 in
theorem fl_RX10_178 : Cond.fieldLink RX10 178 "SewnUpModel" "open" "I" ∈ lw_G := mG 954 (by decide +kernel) rfl
theorem gf_RX10_178 {φ : Fr} {cc : ByteArray} {nL : Nat} {ret : Option FieldType} {d pc : Nat} {L : List (Option Value)} {rest : List Value} {μ : Mem} {ρ : Option Value × Mem} (F : Fx φ ΩB cc RX10 nL ret) (hd : decode cc pc = .ok (.getfield 178, 3)) (k : V φ ΩB nL d (pc + 3) L (.int (rd μ 0 0 25) :: rest) μ ρ) : V φ ΩB nL d pc L (rf φ 0 0 :: rest) μ ρ := V.getf F mB0 (ci := 10) (k := 25) (N := 50) (C := RX10) (T := TX10) rfl rfl (by decide) in_RX10 fl_RX10_178 rfl hd k
theorem pf_RX10_178 {φ : Fr} {cc : ByteArray} {nL : Nat} {ret : Option FieldType} {d pc : Nat} {L : List (Option Value)} {rest : List Value} {μ : Mem} {ρ : Option Value × Mem} {x : Int32} {μ' : Mem} (F : Fx φ ΩB cc RX10 nL ret) (eμ : up μ 0 0 25 x = μ') (hd : decode cc pc = .ok (.putfield 178, 3)) (k : V φ ΩB nL d (pc + 3) L rest μ' ρ) : V φ ΩB nL d pc L (.int x :: rf φ 0 0 :: rest) μ ρ := V.puti F mB0 (ci := 10) (k := 25) (N := 50) (C := RX10) (T := TX10) (ty := .int) rfl rfl (by decide) in_RX10 tyX10 tyX10_ok nmX10 fl_RX10_178 rfl (by decide +kernel) rfl (by exact rfl) (by simp) rfl eμ hd k
set_option maxRecDepth 100000 in
theorem fl_RX10_167 : Cond.fieldLink RX10 167 "SewnUpModel" "bad" "Z" ∈ lw_G := mG 955 (by decide +kernel) rfl
theorem gf_RX10_167 {φ : Fr} {cc : ByteArray} {nL : Nat} {ret : Option FieldType} {d pc : Nat} {L : List (Option Value)} {rest : List Value} {μ : Mem} {ρ : Option Value × Mem} (F : Fx φ ΩB cc RX10 nL ret) (hd : decode cc pc = .ok (.getfield 167, 3)) (k : V φ ΩB nL d (pc + 3) L (.int (rd μ 0 0 26) :: rest) μ ρ) : V φ ΩB nL d pc L (rf φ 0 0 :: rest) μ ρ := V.getf F mB0 (ci := 10) (k := 26) (N := 50) (C := RX10) (T := TX10) rfl rfl (by decide) in_RX10 fl_RX10_167 rfl hd k
theorem pf_RX10_167 {φ : Fr} {cc : ByteArray} {nL : Nat} {ret : Option FieldType} {d pc : Nat} {L : List (Option Value)} {rest : List Value} {μ : Mem} {ρ : Option Value × Mem} {x : Int32} {μ' : Mem} (hz : x = 0 ∨ x = 1) (F : Fx φ ΩB cc RX10 nL ret) (eμ : up μ 0 0 26 x = μ') (hd : decode cc pc = .ok (.putfield 167, 3)) (k : V φ ΩB nL d (pc + 3) L rest μ' ρ) : V φ ΩB nL d pc L (.int x :: rf φ 0 0 :: rest) μ ρ := V.puti F mB0 (ci := 10) (k := 26) (N := 50) (C := RX10) (T := TX10) (ty := .boolean) rfl rfl (by decide) in_RX10 tyX10 tyX10_ok nmX10 fl_RX10_167 rfl (by decide +kernel) (by rcases hz with rfl | rfl <;> rfl) (by rcases hz with rfl | rfl <;> rfl) (by simp) rfl eμ hd k
set_option maxRecDepth 100000 in
theorem fl_RX10_171 : Cond.fieldLink RX10 171 "SewnUpModel" "fault" "I" ∈ lw_G := mG 956 (by decide +kernel) rfl
theorem gf_RX10_171 {φ : Fr} {cc : ByteArray} {nL : Nat} {ret : Option FieldType} {d pc : Nat} {L : List (Option Value)} {rest : List Value} {μ : Mem} {ρ : Option Value × Mem} (F : Fx φ ΩB cc RX10 nL ret) (hd : decode cc pc = .ok (.getfield 171, 3)) (k : V φ ΩB nL d (pc + 3) L (.int (rd μ 0 0 27) :: rest) μ ρ) : V φ ΩB nL d pc L (rf φ 0 0 :: rest) μ ρ := V.getf F mB0 (ci := 10) (k := 27) (N := 50) (C := RX10) (T := TX10) rfl rfl (by decide) in_RX10 fl_RX10_171 rfl hd k
theorem pf_RX10_171 {φ : Fr} {cc : ByteArray} {nL : Nat} {ret : Option FieldType} {d pc : Nat} {L : List (Option Value)} {rest : List Value} {μ : Mem} {ρ : Option Value × Mem} {x : Int32} {μ' : Mem} (F : Fx φ ΩB cc RX10 nL ret) (eμ : up μ 0 0 27 x = μ') (hd : decode cc pc = .ok (.putfield 171, 3)) (k : V φ ΩB nL d (pc + 3) L rest μ' ρ) : V φ ΩB nL d pc L (.int x :: rf φ 0 0 :: rest) μ ρ := V.puti F mB0 (ci := 10) (k := 27) (N := 50) (C := RX10) (T := TX10) (ty := .int) rfl rfl (by decide) in_RX10 tyX10 tyX10_ok nmX10 fl_RX10_171 rfl (by decide +kernel) rfl (by exact rfl) (by simp) rfl eμ hd k
set_option maxRecDepth 100000 in
theorem fl_RX10_256 : Cond.fieldLink RX10 256 "SewnUpModel" "temperThen" "I" ∈ lw_G := mG 957 (by decide +kernel) rfl
theorem gf_RX10_256 {φ : Fr} {cc : ByteArray} {nL : Nat} {ret : Option FieldType} {d pc : Nat} {L : List (Option Value)} {rest : List Value} {μ : Mem} {ρ : Option Value × Mem} (F : Fx φ ΩB cc RX10 nL ret) (hd : decode cc pc = .ok (.getfield 256, 3)) (k : V φ ΩB nL d (pc + 3) L (.int (rd μ 0 0 28) :: rest) μ ρ) : V φ ΩB nL d pc L (rf φ 0 0 :: rest) μ ρ := V.getf F mB0 (ci := 10) (k := 28) (N := 50) (C := RX10) (T := TX10) rfl rfl (by decide) in_RX10 fl_RX10_256 rfl hd k
theorem pf_RX10_256 {φ : Fr} {cc : ByteArray} {nL : Nat} {ret : Option FieldType} {d pc : Nat} {L : List (Option Value)} {rest : List Value} {μ : Mem} {ρ : Option Value × Mem} {x : Int32} {μ' : Mem} (F : Fx φ ΩB cc RX10 nL ret) (eμ : up μ 0 0 28 x = μ') (hd : decode cc pc = .ok (.putfield 256, 3)) (k : V φ ΩB nL d (pc + 3) L rest μ' ρ) : V φ ΩB nL d pc L (.int x :: rf φ 0 0 :: rest) μ ρ := V.puti F mB0 (ci := 10) (k := 28) (N := 50) (C := RX10) (T := TX10) (ty := .int) rfl rfl (by decide) in_RX10 tyX10 tyX10_ok nmX10 fl_RX10_256 rfl (by decide +kernel) rfl (by exact rfl) (by simp) rfl eμ hd k
set_option maxRecDepth 100000 in
theorem fl_RX10_259 : Cond.fieldLink RX10 259 "SewnUpModel" "boilsThen" "I" ∈ lw_G := mG 958 (by decide +kernel) rfl
theorem gf_RX10_259 {φ : Fr} {cc : ByteArray} {nL : Nat} {ret : Option FieldType} {d pc : Nat} {L : List (Option Value)} {rest : List Value} {μ : Mem} {ρ : Option Value × Mem} (F : Fx φ ΩB cc RX10 nL ret) (hd : decode cc pc = .ok (.getfield 259, 3)) (k : V φ ΩB nL d (pc + 3) L (.int (rd μ 0 0 29) :: rest) μ ρ) : V φ ΩB nL d pc L (rf φ 0 0 :: rest) μ ρ := V.getf F mB0 (ci := 10) (k := 29) (N := 50) (C := RX10) (T := TX10) rfl rfl (by decide) in_RX10 fl_RX10_259 rfl hd k
theorem pf_RX10_259 {φ : Fr} {cc : ByteArray} {nL : Nat} {ret : Option FieldType} {d pc : Nat} {L : List (Option Value)} {rest : List Value} {μ : Mem} {ρ : Option Value × Mem} {x : Int32} {μ' : Mem} (F : Fx φ ΩB cc RX10 nL ret) (eμ : up μ 0 0 29 x = μ') (hd : decode cc pc = .ok (.putfield 259, 3)) (k : V φ ΩB nL d (pc + 3) L rest μ' ρ) : V φ ΩB nL d pc L (.int x :: rf φ 0 0 :: rest) μ ρ := V.puti F mB0 (ci := 10) (k := 29) (N := 50) (C := RX10) (T := TX10) (ty := .int) rfl rfl (by decide) in_RX10 tyX10 tyX10_ok nmX10 fl_RX10_259 rfl (by decide +kernel) rfl (by exact rfl) (by simp) rfl eμ hd k
set_option maxRecDepth 100000 in
theorem fl_RX10_262 : Cond.fieldLink RX10 262 "SewnUpModel" "firstThen" "I" ∈ lw_G := mG 959 (by decide +kernel) rfl
theorem gf_RX10_262 {φ : Fr} {cc : ByteArray} {nL : Nat} {ret : Option FieldType} {d pc : Nat} {L : List (Option Value)} {rest : List Value} {μ : Mem} {ρ : Option Value × Mem} (F : Fx φ ΩB cc RX10 nL ret) (hd : decode cc pc = .ok (.getfield 262, 3)) (k : V φ ΩB nL d (pc + 3) L (.int (rd μ 0 0 30) :: rest) μ ρ) : V φ ΩB nL d pc L (rf φ 0 0 :: rest) μ ρ := V.getf F mB0 (ci := 10) (k := 30) (N := 50) (C := RX10) (T := TX10) rfl rfl (by decide) in_RX10 fl_RX10_262 rfl hd k
theorem pf_RX10_262 {φ : Fr} {cc : ByteArray} {nL : Nat} {ret : Option FieldType} {d pc : Nat} {L : List (Option Value)} {rest : List Value} {μ : Mem} {ρ : Option Value × Mem} {x : Int32} {μ' : Mem} (F : Fx φ ΩB cc RX10 nL ret) (eμ : up μ 0 0 30 x = μ') (hd : decode cc pc = .ok (.putfield 262, 3)) (k : V φ ΩB nL d (pc + 3) L rest μ' ρ) : V φ ΩB nL d pc L (.int x :: rf φ 0 0 :: rest) μ ρ := V.puti F mB0 (ci := 10) (k := 30) (N := 50) (C := RX10) (T := TX10) (ty := .int) rfl rfl (by decide) in_RX10 tyX10 tyX10_ok nmX10 fl_RX10_262 rfl (by decide +kernel) rfl (by exact rfl) (by simp) rfl eμ hd k
set_option maxRecDepth 100000 in
theorem fl_RX10_35 : Cond.fieldLink RX10 35 "SewnUpModel" "table" "[I" ∈ lw_G := mG 960 (by decide +kernel) rfl
theorem gf_RX10_35 {φ : Fr} {cc : ByteArray} {nL : Nat} {ret : Option FieldType} {d pc : Nat} {L : List (Option Value)} {rest : List Value} {μ : Mem} {ρ : Option Value × Mem} (F : Fx φ ΩB cc RX10 nL ret) (hd : decode cc pc = .ok (.getfield 35, 3)) (k : V φ ΩB nL d (pc + 3) L (rf φ 7 0 :: rest) μ ρ) : V φ ΩB nL d pc L (rf φ 0 0 :: rest) μ ρ := V.getf F mB0 (ci := 10) (k := 31) (N := 50) (C := RX10) (T := TX10) rfl rfl (by decide) in_RX10 fl_RX10_35 rfl hd k
set_option maxRecDepth 100000 in
theorem fl_RX10_291 : Cond.fieldLink RX10 291 "SewnUpModel" "isFound" "Z" ∈ lw_G := mG 961 (by decide +kernel) rfl
theorem gf_RX10_291 {φ : Fr} {cc : ByteArray} {nL : Nat} {ret : Option FieldType} {d pc : Nat} {L : List (Option Value)} {rest : List Value} {μ : Mem} {ρ : Option Value × Mem} (F : Fx φ ΩB cc RX10 nL ret) (hd : decode cc pc = .ok (.getfield 291, 3)) (k : V φ ΩB nL d (pc + 3) L (.int (rd μ 0 0 32) :: rest) μ ρ) : V φ ΩB nL d pc L (rf φ 0 0 :: rest) μ ρ := V.getf F mB0 (ci := 10) (k := 32) (N := 50) (C := RX10) (T := TX10) rfl rfl (by decide) in_RX10 fl_RX10_291 rfl hd k
theorem pf_RX10_291 {φ : Fr} {cc : ByteArray} {nL : Nat} {ret : Option FieldType} {d pc : Nat} {L : List (Option Value)} {rest : List Value} {μ : Mem} {ρ : Option Value × Mem} {x : Int32} {μ' : Mem} (hz : x = 0 ∨ x = 1) (F : Fx φ ΩB cc RX10 nL ret) (eμ : up μ 0 0 32 x = μ') (hd : decode cc pc = .ok (.putfield 291, 3)) (k : V φ ΩB nL d (pc + 3) L rest μ' ρ) : V φ ΩB nL d pc L (.int x :: rf φ 0 0 :: rest) μ ρ := V.puti F mB0 (ci := 10) (k := 32) (N := 50) (C := RX10) (T := TX10) (ty := .boolean) rfl rfl (by decide) in_RX10 tyX10 tyX10_ok nmX10 fl_RX10_291 rfl (by decide +kernel) (by rcases hz with rfl | rfl <;> rfl) (by rcases hz with rfl | rfl <;> rfl) (by simp) rfl eμ hd k
set_option maxRecDepth 100000 in
theorem fl_RX10_297 : Cond.fieldLink RX10 297 "SewnUpModel" "bestDigits" "I" ∈ lw_G := mG 962 (by decide +kernel) rfl
theorem gf_RX10_297 {φ : Fr} {cc : ByteArray} {nL : Nat} {ret : Option FieldType} {d pc : Nat} {L : List (Option Value)} {rest : List Value} {μ : Mem} {ρ : Option Value × Mem} (F : Fx φ ΩB cc RX10 nL ret) (hd : decode cc pc = .ok (.getfield 297, 3)) (k : V φ ΩB nL d (pc + 3) L (.int (rd μ 0 0 33) :: rest) μ ρ) : V φ ΩB nL d pc L (rf φ 0 0 :: rest) μ ρ := V.getf F mB0 (ci := 10) (k := 33) (N := 50) (C := RX10) (T := TX10) rfl rfl (by decide) in_RX10 fl_RX10_297 rfl hd k
theorem pf_RX10_297 {φ : Fr} {cc : ByteArray} {nL : Nat} {ret : Option FieldType} {d pc : Nat} {L : List (Option Value)} {rest : List Value} {μ : Mem} {ρ : Option Value × Mem} {x : Int32} {μ' : Mem} (F : Fx φ ΩB cc RX10 nL ret) (eμ : up μ 0 0 33 x = μ') (hd : decode cc pc = .ok (.putfield 297, 3)) (k : V φ ΩB nL d (pc + 3) L rest μ' ρ) : V φ ΩB nL d pc L (.int x :: rf φ 0 0 :: rest) μ ρ := V.puti F mB0 (ci := 10) (k := 33) (N := 50) (C := RX10) (T := TX10) (ty := .int) rfl rfl (by decide) in_RX10 tyX10 tyX10_ok nmX10 fl_RX10_297 rfl (by decide +kernel) rfl (by exact rfl) (by simp) rfl eμ hd k
set_option maxRecDepth 100000 in
theorem fl_RX10_294 : Cond.fieldLink RX10 294 "SewnUpModel" "bestWarm" "I" ∈ lw_G := mG 963 (by decide +kernel) rfl
theorem gf_RX10_294 {φ : Fr} {cc : ByteArray} {nL : Nat} {ret : Option FieldType} {d pc : Nat} {L : List (Option Value)} {rest : List Value} {μ : Mem} {ρ : Option Value × Mem} (F : Fx φ ΩB cc RX10 nL ret) (hd : decode cc pc = .ok (.getfield 294, 3)) (k : V φ ΩB nL d (pc + 3) L (.int (rd μ 0 0 34) :: rest) μ ρ) : V φ ΩB nL d pc L (rf φ 0 0 :: rest) μ ρ := V.getf F mB0 (ci := 10) (k := 34) (N := 50) (C := RX10) (T := TX10) rfl rfl (by decide) in_RX10 fl_RX10_294 rfl hd k
theorem pf_RX10_294 {φ : Fr} {cc : ByteArray} {nL : Nat} {ret : Option FieldType} {d pc : Nat} {L : List (Option Value)} {rest : List Value} {μ : Mem} {ρ : Option Value × Mem} {x : Int32} {μ' : Mem} (F : Fx φ ΩB cc RX10 nL ret) (eμ : up μ 0 0 34 x = μ') (hd : decode cc pc = .ok (.putfield 294, 3)) (k : V φ ΩB nL d (pc + 3) L rest μ' ρ) : V φ ΩB nL d pc L (.int x :: rf φ 0 0 :: rest) μ ρ := V.puti F mB0 (ci := 10) (k := 34) (N := 50) (C := RX10) (T := TX10) (ty := .int) rfl rfl (by decide) in_RX10 tyX10 tyX10_ok nmX10 fl_RX10_294 rfl (by decide +kernel) rfl (by exact rfl) (by simp) rfl eμ hd k
set_option maxRecDepth 100000 in
theorem fl_RX10_312 : Cond.fieldLink RX10 312 "SewnUpModel" "ways" "I" ∈ lw_G := mG 964 (by decide +kernel) rfl
theorem gf_RX10_312 {φ : Fr} {cc : ByteArray} {nL : Nat} {ret : Option FieldType} {d pc : Nat} {L : List (Option Value)} {rest : List Value} {μ : Mem} {ρ : Option Value × Mem} (F : Fx φ ΩB cc RX10 nL ret) (hd : decode cc pc = .ok (.getfield 312, 3)) (k : V φ ΩB nL d (pc + 3) L (.int (rd μ 0 0 35) :: rest) μ ρ) : V φ ΩB nL d pc L (rf φ 0 0 :: rest) μ ρ := V.getf F mB0 (ci := 10) (k := 35) (N := 50) (C := RX10) (T := TX10) rfl rfl (by decide) in_RX10 fl_RX10_312 rfl hd k
theorem pf_RX10_312 {φ : Fr} {cc : ByteArray} {nL : Nat} {ret : Option FieldType} {d pc : Nat} {L : List (Option Value)} {rest : List Value} {μ : Mem} {ρ : Option Value × Mem} {x : Int32} {μ' : Mem} (F : Fx φ ΩB cc RX10 nL ret) (eμ : up μ 0 0 35 x = μ') (hd : decode cc pc = .ok (.putfield 312, 3)) (k : V φ ΩB nL d (pc + 3) L rest μ' ρ) : V φ ΩB nL d pc L (.int x :: rf φ 0 0 :: rest) μ ρ := V.puti F mB0 (ci := 10) (k := 35) (N := 50) (C := RX10) (T := TX10) (ty := .int) rfl rfl (by decide) in_RX10 tyX10 tyX10_ok nmX10 fl_RX10_312 rfl (by decide +kernel) rfl (by exact rfl) (by simp) rfl eμ hd k
set_option maxRecDepth 100000 in
theorem fl_RX10_315 : Cond.fieldLink RX10 315 "SewnUpModel" "firstWay" "I" ∈ lw_G := mG 965 (by decide +kernel) rfl
theorem gf_RX10_315 {φ : Fr} {cc : ByteArray} {nL : Nat} {ret : Option FieldType} {d pc : Nat} {L : List (Option Value)} {rest : List Value} {μ : Mem} {ρ : Option Value × Mem} (F : Fx φ ΩB cc RX10 nL ret) (hd : decode cc pc = .ok (.getfield 315, 3)) (k : V φ ΩB nL d (pc + 3) L (.int (rd μ 0 0 36) :: rest) μ ρ) : V φ ΩB nL d pc L (rf φ 0 0 :: rest) μ ρ := V.getf F mB0 (ci := 10) (k := 36) (N := 50) (C := RX10) (T := TX10) rfl rfl (by decide) in_RX10 fl_RX10_315 rfl hd k
theorem pf_RX10_315 {φ : Fr} {cc : ByteArray} {nL : Nat} {ret : Option FieldType} {d pc : Nat} {L : List (Option Value)} {rest : List Value} {μ : Mem} {ρ : Option Value × Mem} {x : Int32} {μ' : Mem} (F : Fx φ ΩB cc RX10 nL ret) (eμ : up μ 0 0 36 x = μ') (hd : decode cc pc = .ok (.putfield 315, 3)) (k : V φ ΩB nL d (pc + 3) L rest μ' ρ) : V φ ΩB nL d pc L (.int x :: rf φ 0 0 :: rest) μ ρ := V.puti F mB0 (ci := 10) (k := 36) (N := 50) (C := RX10) (T := TX10) (ty := .int) rfl rfl (by decide) in_RX10 tyX10 tyX10_ok nmX10 fl_RX10_315 rfl (by decide +kernel) rfl (by exact rfl) (by simp) rfl eμ hd k
set_option maxRecDepth 100000 in
theorem fl_RX10_38 : Cond.fieldLink RX10 38 "SewnUpModel" "couldWear" "[I" ∈ lw_G := mG 966 (by decide +kernel) rfl
theorem gf_RX10_38 {φ : Fr} {cc : ByteArray} {nL : Nat} {ret : Option FieldType} {d pc : Nat} {L : List (Option Value)} {rest : List Value} {μ : Mem} {ρ : Option Value × Mem} (F : Fx φ ΩB cc RX10 nL ret) (hd : decode cc pc = .ok (.getfield 38, 3)) (k : V φ ΩB nL d (pc + 3) L (rf φ 8 0 :: rest) μ ρ) : V φ ΩB nL d pc L (rf φ 0 0 :: rest) μ ρ := V.getf F mB0 (ci := 10) (k := 37) (N := 50) (C := RX10) (T := TX10) rfl rfl (by decide) in_RX10 fl_RX10_38 rfl hd k
set_option maxRecDepth 100000 in
theorem fl_RX10_41 : Cond.fieldLink RX10 41 "SewnUpModel" "laid" "[I" ∈ lw_G := mG 967 (by decide +kernel) rfl
theorem gf_RX10_41 {φ : Fr} {cc : ByteArray} {nL : Nat} {ret : Option FieldType} {d pc : Nat} {L : List (Option Value)} {rest : List Value} {μ : Mem} {ρ : Option Value × Mem} (F : Fx φ ΩB cc RX10 nL ret) (hd : decode cc pc = .ok (.getfield 41, 3)) (k : V φ ΩB nL d (pc + 3) L (rf φ 9 0 :: rest) μ ρ) : V φ ΩB nL d pc L (rf φ 0 0 :: rest) μ ρ := V.getf F mB0 (ci := 10) (k := 38) (N := 50) (C := RX10) (T := TX10) rfl rfl (by decide) in_RX10 fl_RX10_41 rfl hd k
set_option maxRecDepth 100000 in
theorem fl_RX10_44 : Cond.fieldLink RX10 44 "SewnUpModel" "thingsWas" "[I" ∈ lw_G := mG 968 (by decide +kernel) rfl
theorem gf_RX10_44 {φ : Fr} {cc : ByteArray} {nL : Nat} {ret : Option FieldType} {d pc : Nat} {L : List (Option Value)} {rest : List Value} {μ : Mem} {ρ : Option Value × Mem} (F : Fx φ ΩB cc RX10 nL ret) (hd : decode cc pc = .ok (.getfield 44, 3)) (k : V φ ΩB nL d (pc + 3) L (rf φ 10 0 :: rest) μ ρ) : V φ ΩB nL d pc L (rf φ 0 0 :: rest) μ ρ := V.getf F mB0 (ci := 10) (k := 39) (N := 50) (C := RX10) (T := TX10) rfl rfl (by decide) in_RX10 fl_RX10_44 rfl hd k
set_option maxRecDepth 100000 in
theorem fl_RX10_47 : Cond.fieldLink RX10 47 "SewnUpModel" "rowsKept" "[I" ∈ lw_G := mG 969 (by decide +kernel) rfl
theorem gf_RX10_47 {φ : Fr} {cc : ByteArray} {nL : Nat} {ret : Option FieldType} {d pc : Nat} {L : List (Option Value)} {rest : List Value} {μ : Mem} {ρ : Option Value × Mem} (F : Fx φ ΩB cc RX10 nL ret) (hd : decode cc pc = .ok (.getfield 47, 3)) (k : V φ ΩB nL d (pc + 3) L (rf φ 11 0 :: rest) μ ρ) : V φ ΩB nL d pc L (rf φ 0 0 :: rest) μ ρ := V.getf F mB0 (ci := 10) (k := 40) (N := 50) (C := RX10) (T := TX10) rfl rfl (by decide) in_RX10 fl_RX10_47 rfl hd k
set_option maxRecDepth 100000 in
theorem fl_RX10_50 : Cond.fieldLink RX10 50 "SewnUpModel" "wearsKept" "[I" ∈ lw_G := mG 970 (by decide +kernel) rfl
theorem gf_RX10_50 {φ : Fr} {cc : ByteArray} {nL : Nat} {ret : Option FieldType} {d pc : Nat} {L : List (Option Value)} {rest : List Value} {μ : Mem} {ρ : Option Value × Mem} (F : Fx φ ΩB cc RX10 nL ret) (hd : decode cc pc = .ok (.getfield 50, 3)) (k : V φ ΩB nL d (pc + 3) L (rf φ 12 0 :: rest) μ ρ) : V φ ΩB nL d pc L (rf φ 0 0 :: rest) μ ρ := V.getf F mB0 (ci := 10) (k := 41) (N := 50) (C := RX10) (T := TX10) rfl rfl (by decide) in_RX10 fl_RX10_50 rfl hd k
set_option maxRecDepth 100000 in
theorem fl_RX10_53 : Cond.fieldLink RX10 53 "SewnUpModel" "manyKept" "I" ∈ lw_G := mG 971 (by decide +kernel) rfl
theorem gf_RX10_53 {φ : Fr} {cc : ByteArray} {nL : Nat} {ret : Option FieldType} {d pc : Nat} {L : List (Option Value)} {rest : List Value} {μ : Mem} {ρ : Option Value × Mem} (F : Fx φ ΩB cc RX10 nL ret) (hd : decode cc pc = .ok (.getfield 53, 3)) (k : V φ ΩB nL d (pc + 3) L (.int (rd μ 0 0 42) :: rest) μ ρ) : V φ ΩB nL d pc L (rf φ 0 0 :: rest) μ ρ := V.getf F mB0 (ci := 10) (k := 42) (N := 50) (C := RX10) (T := TX10) rfl rfl (by decide) in_RX10 fl_RX10_53 rfl hd k
theorem pf_RX10_53 {φ : Fr} {cc : ByteArray} {nL : Nat} {ret : Option FieldType} {d pc : Nat} {L : List (Option Value)} {rest : List Value} {μ : Mem} {ρ : Option Value × Mem} {x : Int32} {μ' : Mem} (F : Fx φ ΩB cc RX10 nL ret) (eμ : up μ 0 0 42 x = μ') (hd : decode cc pc = .ok (.putfield 53, 3)) (k : V φ ΩB nL d (pc + 3) L rest μ' ρ) : V φ ΩB nL d pc L (.int x :: rf φ 0 0 :: rest) μ ρ := V.puti F mB0 (ci := 10) (k := 42) (N := 50) (C := RX10) (T := TX10) (ty := .int) rfl rfl (by decide) in_RX10 tyX10 tyX10_ok nmX10 fl_RX10_53 rfl (by decide +kernel) rfl (by exact rfl) (by simp) rfl eμ hd k
set_option maxRecDepth 100000 in
theorem fl_RX10_352 : Cond.fieldLink RX10 352 "SewnUpModel" "dayKept" "I" ∈ lw_G := mG 972 (by decide +kernel) rfl
theorem gf_RX10_352 {φ : Fr} {cc : ByteArray} {nL : Nat} {ret : Option FieldType} {d pc : Nat} {L : List (Option Value)} {rest : List Value} {μ : Mem} {ρ : Option Value × Mem} (F : Fx φ ΩB cc RX10 nL ret) (hd : decode cc pc = .ok (.getfield 352, 3)) (k : V φ ΩB nL d (pc + 3) L (.int (rd μ 0 0 43) :: rest) μ ρ) : V φ ΩB nL d pc L (rf φ 0 0 :: rest) μ ρ := V.getf F mB0 (ci := 10) (k := 43) (N := 50) (C := RX10) (T := TX10) rfl rfl (by decide) in_RX10 fl_RX10_352 rfl hd k
theorem pf_RX10_352 {φ : Fr} {cc : ByteArray} {nL : Nat} {ret : Option FieldType} {d pc : Nat} {L : List (Option Value)} {rest : List Value} {μ : Mem} {ρ : Option Value × Mem} {x : Int32} {μ' : Mem} (F : Fx φ ΩB cc RX10 nL ret) (eμ : up μ 0 0 43 x = μ') (hd : decode cc pc = .ok (.putfield 352, 3)) (k : V φ ΩB nL d (pc + 3) L rest μ' ρ) : V φ ΩB nL d pc L (.int x :: rf φ 0 0 :: rest) μ ρ := V.puti F mB0 (ci := 10) (k := 43) (N := 50) (C := RX10) (T := TX10) (ty := .int) rfl rfl (by decide) in_RX10 tyX10 tyX10_ok nmX10 fl_RX10_352 rfl (by decide +kernel) rfl (by exact rfl) (by simp) rfl eμ hd k
set_option maxRecDepth 100000 in
theorem fl_RX10_355 : Cond.fieldLink RX10 355 "SewnUpModel" "limitKept" "I" ∈ lw_G := mG 973 (by decide +kernel) rfl
theorem gf_RX10_355 {φ : Fr} {cc : ByteArray} {nL : Nat} {ret : Option FieldType} {d pc : Nat} {L : List (Option Value)} {rest : List Value} {μ : Mem} {ρ : Option Value × Mem} (F : Fx φ ΩB cc RX10 nL ret) (hd : decode cc pc = .ok (.getfield 355, 3)) (k : V φ ΩB nL d (pc + 3) L (.int (rd μ 0 0 44) :: rest) μ ρ) : V φ ΩB nL d pc L (rf φ 0 0 :: rest) μ ρ := V.getf F mB0 (ci := 10) (k := 44) (N := 50) (C := RX10) (T := TX10) rfl rfl (by decide) in_RX10 fl_RX10_355 rfl hd k
theorem pf_RX10_355 {φ : Fr} {cc : ByteArray} {nL : Nat} {ret : Option FieldType} {d pc : Nat} {L : List (Option Value)} {rest : List Value} {μ : Mem} {ρ : Option Value × Mem} {x : Int32} {μ' : Mem} (F : Fx φ ΩB cc RX10 nL ret) (eμ : up μ 0 0 44 x = μ') (hd : decode cc pc = .ok (.putfield 355, 3)) (k : V φ ΩB nL d (pc + 3) L rest μ' ρ) : V φ ΩB nL d pc L (.int x :: rf φ 0 0 :: rest) μ ρ := V.puti F mB0 (ci := 10) (k := 44) (N := 50) (C := RX10) (T := TX10) (ty := .int) rfl rfl (by decide) in_RX10 tyX10 tyX10_ok nmX10 fl_RX10_355 rfl (by decide +kernel) rfl (by exact rfl) (by simp) rfl eμ hd k
set_option maxRecDepth 100000 in
theorem fl_RX10_358 : Cond.fieldLink RX10 358 "SewnUpModel" "ruleKept" "I" ∈ lw_G := mG 974 (by decide +kernel) rfl
theorem gf_RX10_358 {φ : Fr} {cc : ByteArray} {nL : Nat} {ret : Option FieldType} {d pc : Nat} {L : List (Option Value)} {rest : List Value} {μ : Mem} {ρ : Option Value × Mem} (F : Fx φ ΩB cc RX10 nL ret) (hd : decode cc pc = .ok (.getfield 358, 3)) (k : V φ ΩB nL d (pc + 3) L (.int (rd μ 0 0 45) :: rest) μ ρ) : V φ ΩB nL d pc L (rf φ 0 0 :: rest) μ ρ := V.getf F mB0 (ci := 10) (k := 45) (N := 50) (C := RX10) (T := TX10) rfl rfl (by decide) in_RX10 fl_RX10_358 rfl hd k
theorem pf_RX10_358 {φ : Fr} {cc : ByteArray} {nL : Nat} {ret : Option FieldType} {d pc : Nat} {L : List (Option Value)} {rest : List Value} {μ : Mem} {ρ : Option Value × Mem} {x : Int32} {μ' : Mem} (F : Fx φ ΩB cc RX10 nL ret) (eμ : up μ 0 0 45 x = μ') (hd : decode cc pc = .ok (.putfield 358, 3)) (k : V φ ΩB nL d (pc + 3) L rest μ' ρ) : V φ ΩB nL d pc L (.int x :: rf φ 0 0 :: rest) μ ρ := V.puti F mB0 (ci := 10) (k := 45) (N := 50) (C := RX10) (T := TX10) (ty := .int) rfl rfl (by decide) in_RX10 tyX10 tyX10_ok nmX10 fl_RX10_358 rfl (by decide +kernel) rfl (by exact rfl) (by simp) rfl eμ hd k
set_option maxRecDepth 100000 in
theorem fl_RX10_56 : Cond.fieldLink RX10 56 "SewnUpModel" "isThere" "[Z" ∈ lw_G := mG 975 (by decide +kernel) rfl
theorem gf_RX10_56 {φ : Fr} {cc : ByteArray} {nL : Nat} {ret : Option FieldType} {d pc : Nat} {L : List (Option Value)} {rest : List Value} {μ : Mem} {ρ : Option Value × Mem} (F : Fx φ ΩB cc RX10 nL ret) (hd : decode cc pc = .ok (.getfield 56, 3)) (k : V φ ΩB nL d (pc + 3) L (rf φ 13 0 :: rest) μ ρ) : V φ ΩB nL d pc L (rf φ 0 0 :: rest) μ ρ := V.getf F mB0 (ci := 10) (k := 46) (N := 50) (C := RX10) (T := TX10) rfl rfl (by decide) in_RX10 fl_RX10_56 rfl hd k
set_option maxRecDepth 100000 in
theorem fl_RX10_60 : Cond.fieldLink RX10 60 "SewnUpModel" "sorts" "[I" ∈ lw_G := mG 976 (by decide +kernel) rfl
theorem gf_RX10_60 {φ : Fr} {cc : ByteArray} {nL : Nat} {ret : Option FieldType} {d pc : Nat} {L : List (Option Value)} {rest : List Value} {μ : Mem} {ρ : Option Value × Mem} (F : Fx φ ΩB cc RX10 nL ret) (hd : decode cc pc = .ok (.getfield 60, 3)) (k : V φ ΩB nL d (pc + 3) L (rf φ 14 0 :: rest) μ ρ) : V φ ΩB nL d pc L (rf φ 0 0 :: rest) μ ρ := V.getf F mB0 (ci := 10) (k := 47) (N := 50) (C := RX10) (T := TX10) rfl rfl (by decide) in_RX10 fl_RX10_60 rfl hd k
set_option maxRecDepth 100000 in
theorem fl_RX10_63 : Cond.fieldLink RX10 63 "SewnUpModel" "sheetSize" "[I" ∈ lw_G := mG 977 (by decide +kernel) rfl
theorem gf_RX10_63 {φ : Fr} {cc : ByteArray} {nL : Nat} {ret : Option FieldType} {d pc : Nat} {L : List (Option Value)} {rest : List Value} {μ : Mem} {ρ : Option Value × Mem} (F : Fx φ ΩB cc RX10 nL ret) (hd : decode cc pc = .ok (.getfield 63, 3)) (k : V φ ΩB nL d (pc + 3) L (rf φ 15 0 :: rest) μ ρ) : V φ ΩB nL d pc L (rf φ 0 0 :: rest) μ ρ := V.getf F mB0 (ci := 10) (k := 48) (N := 50) (C := RX10) (T := TX10) rfl rfl (by decide) in_RX10 fl_RX10_63 rfl hd k
set_option maxRecDepth 100000 in
theorem fl_RX10_66 : Cond.fieldLink RX10 66 "SewnUpModel" "items" "[I" ∈ lw_G := mG 978 (by decide +kernel) rfl
theorem gf_RX10_66 {φ : Fr} {cc : ByteArray} {nL : Nat} {ret : Option FieldType} {d pc : Nat} {L : List (Option Value)} {rest : List Value} {μ : Mem} {ρ : Option Value × Mem} (F : Fx φ ΩB cc RX10 nL ret) (hd : decode cc pc = .ok (.getfield 66, 3)) (k : V φ ΩB nL d (pc + 3) L (rf φ 16 0 :: rest) μ ρ) : V φ ΩB nL d pc L (rf φ 0 0 :: rest) μ ρ := V.getf F mB0 (ci := 10) (k := 49) (N := 50) (C := RX10) (T := TX10) rfl rfl (by decide) in_RX10 fl_RX10_66 rfl hd k
set_option maxRecDepth 100000 in
theorem fl_RJ0_9 : Cond.fieldLink RJ0 9 "java/lang/String" "value" "[B" ∈ lw_G := mG 1389 (by decide +kernel) rfl
set_option maxRecDepth 100000 in
theorem fl_RJ0_15 : Cond.fieldLink RJ0 15 "java/lang/String" "coder" "B" ∈ lw_G := mG 1390 (by decide +kernel) rfl
set_option maxRecDepth 100000 in
theorem cw_X6_write : Cond.code yX6_write cX6_write 3 (none) ∈ lw_G := mG 359 rfl rfl
theorem iw_RX6 : Cond.initialized RX6 ∈ lw_G := mG 91 rfl rfl
set_option maxRecDepth 100000 in
theorem nw_X6_write : Cond.instanceMethod yX6_write ∈ lw_G := mG 357 rfl rfl
set_option maxRecDepth 100000 in
theorem lw_X6_write : Cond.selects RX6 yX6_write yX6_write ∈ lw_G := mG 358 rfl rfl
set_option maxRecDepth 100000 in
theorem ck_RX9_84 : CkV RX9 84 yX6_write cX6_write 3 (none) 1 := ⟨(mG 356 rfl rfl), nw_X6_write, lw_X6_write, iw_RX6, cw_X6_write, ⟨by decide +kernel, by decide +kernel, by decide +kernel⟩⟩
set_option maxRecDepth 100000 in
theorem cw_J0_length_8abf5 : Cond.code yJ0_length_8abf5 cJ0_length_8abf5 1 (some .int) ∈ lw_G := mG 363 rfl rfl
theorem iw_RJ0 : Cond.initialized RJ0 ∈ lw_G := mG 97 rfl rfl
set_option maxRecDepth 100000 in
theorem nw_J0_length_8abf5 : Cond.instanceMethod yJ0_length_8abf5 ∈ lw_G := mG 361 rfl rfl
set_option maxRecDepth 100000 in
theorem lw_J0_length_8abf5 : Cond.selects RJ0 yJ0_length_8abf5 yJ0_length_8abf5 ∈ lw_G := mG 362 rfl rfl
set_option maxRecDepth 100000 in
theorem ck_RX6_31 : CkV RX6 31 yJ0_length_8abf5 cJ0_length_8abf5 1 (some .int) 0 := ⟨(mG 360 rfl rfl), nw_J0_length_8abf5, lw_J0_length_8abf5, iw_RJ0, cw_J0_length_8abf5, ⟨by decide +kernel, by decide +kernel, by decide +kernel⟩⟩
set_option maxRecDepth 100000 in
theorem cw_J0_coder_7d493 : Cond.code yJ0_coder_7d493 cJ0_coder_7d493 1 (some .byte) ∈ lw_G := mG 367 rfl rfl
set_option maxRecDepth 100000 in
theorem nw_J0_coder_7d493 : Cond.instanceMethod yJ0_coder_7d493 ∈ lw_G := mG 365 rfl rfl
set_option maxRecDepth 100000 in
theorem lw_J0_coder_7d493 : Cond.selects RJ0 yJ0_coder_7d493 yJ0_coder_7d493 ∈ lw_G := mG 366 rfl rfl
set_option maxRecDepth 100000 in
theorem ck_RJ0_335 : CkV RJ0 335 yJ0_coder_7d493 cJ0_coder_7d493 1 (some .byte) 0 := ⟨(mG 364 rfl rfl), nw_J0_coder_7d493, lw_J0_coder_7d493, iw_RJ0, cw_J0_coder_7d493, ⟨by decide +kernel, by decide +kernel, by decide +kernel⟩⟩
set_option maxRecDepth 100000 in
theorem cw_J9_min_7cf53 : Cond.code yJ9_min_7cf53 cJ9_min_7cf53 2 (some .int) ∈ lw_G := mG 372 rfl rfl
theorem iw_RJ9 : Cond.initialized RJ9 ∈ lw_G := mG 98 rfl rfl
set_option maxRecDepth 100000 in
theorem sw_J9_min_7cf53 : Cond.static yJ9_min_7cf53 ∈ lw_G := mG 371 rfl rfl
set_option maxRecDepth 100000 in
theorem ck_RX6_37 : CkS RX6 37 yJ9_min_7cf53 cJ9_min_7cf53 2 (some .int) 2 := ⟨(mG 370 rfl rfl), sw_J9_min_7cf53, iw_RJ9, cw_J9_min_7cf53, ⟨by decide +kernel, by decide +kernel, by decide +kernel⟩⟩
set_option maxRecDepth 100000 in
theorem cw_J0_charAt_5068e : Cond.code yJ0_charAt_5068e cJ0_charAt_5068e 2 (some .char) ∈ lw_G := mG 376 rfl rfl
set_option maxRecDepth 100000 in
theorem nw_J0_charAt_5068e : Cond.instanceMethod yJ0_charAt_5068e ∈ lw_G := mG 374 rfl rfl
set_option maxRecDepth 100000 in
theorem lw_J0_charAt_5068e : Cond.selects RJ0 yJ0_charAt_5068e yJ0_charAt_5068e ∈ lw_G := mG 375 rfl rfl
set_option maxRecDepth 100000 in
theorem ck_RX6_43 : CkV RX6 43 yJ0_charAt_5068e cJ0_charAt_5068e 2 (some .char) 1 := ⟨(mG 373 rfl rfl), nw_J0_charAt_5068e, lw_J0_charAt_5068e, iw_RJ0, cw_J0_charAt_5068e, ⟨by decide +kernel, by decide +kernel, by decide +kernel⟩⟩
set_option maxRecDepth 100000 in
theorem cw_J0_isLatin1_aae02 : Cond.code yJ0_isLatin1_aae02 cJ0_isLatin1_aae02 1 (some .boolean) ∈ lw_G := mG 380 rfl rfl
set_option maxRecDepth 100000 in
theorem nw_J0_isLatin1_aae02 : Cond.instanceMethod yJ0_isLatin1_aae02 ∈ lw_G := mG 378 rfl rfl
set_option maxRecDepth 100000 in
theorem lw_J0_isLatin1_aae02 : Cond.selects RJ0 yJ0_isLatin1_aae02 yJ0_isLatin1_aae02 ∈ lw_G := mG 379 rfl rfl
set_option maxRecDepth 100000 in
theorem ck_RJ0_492 : CkV RJ0 492 yJ0_isLatin1_aae02 cJ0_isLatin1_aae02 1 (some .boolean) 0 := ⟨(mG 377 rfl rfl), nw_J0_isLatin1_aae02, lw_J0_isLatin1_aae02, iw_RJ0, cw_J0_isLatin1_aae02, ⟨by decide +kernel, by decide +kernel, by decide +kernel⟩⟩
set_option maxRecDepth 100000 in
theorem cw_J1_charAt_3b067 : Cond.code yJ1_charAt_3b067 cJ1_charAt_3b067 2 (some .char) ∈ lw_G := mG 383 rfl rfl
theorem iw_RJ1 : Cond.initialized RJ1 ∈ lw_G := mG 99 rfl rfl
set_option maxRecDepth 100000 in
theorem sw_J1_charAt_3b067 : Cond.static yJ1_charAt_3b067 ∈ lw_G := mG 382 rfl rfl
set_option maxRecDepth 100000 in
theorem ck_RJ0_495 : CkS RJ0 495 yJ1_charAt_3b067 cJ1_charAt_3b067 2 (some .char) 2 := ⟨(mG 381 rfl rfl), sw_J1_charAt_3b067, iw_RJ1, cw_J1_charAt_3b067, ⟨by decide +kernel, by decide +kernel, by decide +kernel⟩⟩
set_option maxRecDepth 100000 in
theorem cw_J0_checkIndex_df160 : Cond.code yJ0_checkIndex_df160 cJ0_checkIndex_df160 2 (none) ∈ lw_G := mG 386 rfl rfl
set_option maxRecDepth 100000 in
theorem sw_J0_checkIndex_df160 : Cond.static yJ0_checkIndex_df160 ∈ lw_G := mG 385 rfl rfl
set_option maxRecDepth 100000 in
theorem ck_RJ1_9 : CkS RJ1 9 yJ0_checkIndex_df160 cJ0_checkIndex_df160 2 (none) 2 := ⟨(mG 384 rfl rfl), sw_J0_checkIndex_df160, iw_RJ0, cw_J0_checkIndex_df160, ⟨by decide +kernel, by decide +kernel, by decide +kernel⟩⟩
set_option maxRecDepth 100000 in
theorem cw_J3_checkIndex_8e157 : Cond.code yJ3_checkIndex_8e157 cJ3_checkIndex_8e157 3 (some .int) ∈ lw_G := mG 391 rfl rfl
theorem iw_RJ3 : Cond.initialized RJ3 ∈ lw_G := mG 100 rfl rfl
set_option maxRecDepth 100000 in
theorem sw_J3_checkIndex_8e157 : Cond.static yJ3_checkIndex_8e157 ∈ lw_G := mG 390 rfl rfl
set_option maxRecDepth 100000 in
theorem ck_RJ0_1059 : CkS RJ0 1059 yJ3_checkIndex_8e157 cJ3_checkIndex_8e157 3 (some .int) 3 := ⟨(mG 389 rfl rfl), sw_J3_checkIndex_8e157, iw_RJ3, cw_J3_checkIndex_8e157, ⟨by decide +kernel, by decide +kernel, by decide +kernel⟩⟩
set_option maxRecDepth 100000 in
theorem cw_J2_charAt_3b067 : Cond.code yJ2_charAt_3b067 cJ2_charAt_3b067 2 (some .char) ∈ lw_G := mG 394 rfl rfl
theorem iw_RJ2 : Cond.initialized RJ2 ∈ lw_G := mG 101 rfl rfl
set_option maxRecDepth 100000 in
theorem sw_J2_charAt_3b067 : Cond.static yJ2_charAt_3b067 ∈ lw_G := mG 393 rfl rfl
set_option maxRecDepth 100000 in
theorem ck_RJ0_498 : CkS RJ0 498 yJ2_charAt_3b067 cJ2_charAt_3b067 2 (some .char) 2 := ⟨(mG 392 rfl rfl), sw_J2_charAt_3b067, iw_RJ2, cw_J2_charAt_3b067, ⟨by decide +kernel, by decide +kernel, by decide +kernel⟩⟩
set_option maxRecDepth 100000 in
theorem cw_J2_checkIndex_2214a : Cond.code yJ2_checkIndex_2214a cJ2_checkIndex_2214a 2 (none) ∈ lw_G := mG 397 rfl rfl
set_option maxRecDepth 100000 in
theorem sw_J2_checkIndex_2214a : Cond.static yJ2_checkIndex_2214a ∈ lw_G := mG 396 rfl rfl
set_option maxRecDepth 100000 in
theorem ck_RJ2_67 : CkS RJ2 67 yJ2_checkIndex_2214a cJ2_checkIndex_2214a 2 (none) 2 := ⟨(mG 395 rfl rfl), sw_J2_checkIndex_2214a, iw_RJ2, cw_J2_checkIndex_2214a, ⟨by decide +kernel, by decide +kernel, by decide +kernel⟩⟩
set_option maxRecDepth 100000 in
theorem cw_J2_length_9d52b : Cond.code yJ2_length_9d52b cJ2_length_9d52b 1 (some .int) ∈ lw_G := mG 400 rfl rfl
set_option maxRecDepth 100000 in
theorem sw_J2_length_9d52b : Cond.static yJ2_length_9d52b ∈ lw_G := mG 399 rfl rfl
set_option maxRecDepth 100000 in
theorem ck_RJ2_48 : CkS RJ2 48 yJ2_length_9d52b cJ2_length_9d52b 1 (some .int) 1 := ⟨(mG 398 rfl rfl), sw_J2_length_9d52b, iw_RJ2, cw_J2_length_9d52b, ⟨by decide +kernel, by decide +kernel, by decide +kernel⟩⟩
set_option maxRecDepth 100000 in
theorem ck_RJ2_414 : CkS RJ2 414 yJ0_checkIndex_df160 cJ0_checkIndex_df160 2 (none) 2 := ⟨(mG 401 rfl rfl), sw_J0_checkIndex_df160, iw_RJ0, cw_J0_checkIndex_df160, ⟨by decide +kernel, by decide +kernel, by decide +kernel⟩⟩
set_option maxRecDepth 100000 in
theorem cw_J2_getChar_3b067 : Cond.code yJ2_getChar_3b067 cJ2_getChar_3b067 2 (some .char) ∈ lw_G := mG 404 rfl rfl
set_option maxRecDepth 100000 in
theorem sw_J2_getChar_3b067 : Cond.static yJ2_getChar_3b067 ∈ lw_G := mG 403 rfl rfl
set_option maxRecDepth 100000 in
theorem ck_RJ2_71 : CkS RJ2 71 yJ2_getChar_3b067 cJ2_getChar_3b067 2 (some .char) 2 := ⟨(mG 402 rfl rfl), sw_J2_getChar_3b067, iw_RJ2, cw_J2_getChar_3b067, ⟨by decide +kernel, by decide +kernel, by decide +kernel⟩⟩
set_option maxRecDepth 100000 in
theorem cw_X4_read : Cond.code yX4_read cX4_read 3 (some .int) ∈ lw_G := mG 414 rfl rfl
theorem iw_RX4 : Cond.initialized RX4 ∈ lw_G := mG 90 rfl rfl
set_option maxRecDepth 100000 in
theorem nw_X4_read : Cond.instanceMethod yX4_read ∈ lw_G := mG 412 rfl rfl
set_option maxRecDepth 100000 in
theorem lw_X4_read : Cond.selects RX4 yX4_read yX4_read ∈ lw_G := mG 413 rfl rfl
set_option maxRecDepth 100000 in
theorem ck_RX9_90 : CkV RX9 90 yX4_read cX4_read 3 (some .int) 1 := ⟨(mG 411 rfl rfl), nw_X4_read, lw_X4_read, iw_RX4, cw_X4_read, ⟨by decide +kernel, by decide +kernel, by decide +kernel⟩⟩
set_option maxRecDepth 100000 in
theorem cw_X6_cut : Cond.code yX6_cut cX6_cut 3 (none) ∈ lw_G := mG 418 rfl rfl
set_option maxRecDepth 100000 in
theorem nw_X6_cut : Cond.instanceMethod yX6_cut ∈ lw_G := mG 416 rfl rfl
set_option maxRecDepth 100000 in
theorem lw_X6_cut : Cond.selects RX6 yX6_cut yX6_cut ∈ lw_G := mG 417 rfl rfl
set_option maxRecDepth 100000 in
theorem ck_RX4_32 : CkV RX4 32 yX6_cut cX6_cut 3 (none) 0 := ⟨(mG 415 rfl rfl), nw_X6_cut, lw_X6_cut, iw_RX6, cw_X6_cut, ⟨by decide +kernel, by decide +kernel, by decide +kernel⟩⟩
set_option maxRecDepth 100000 in
theorem cw_X6_passBlanks : Cond.code yX6_passBlanks cX6_passBlanks 1 (none) ∈ lw_G := mG 422 rfl rfl
set_option maxRecDepth 100000 in
theorem nw_X6_passBlanks : Cond.instanceMethod yX6_passBlanks ∈ lw_G := mG 421 rfl rfl
theorem lw_X6_passBlanks : Cond.selects RX6 yX6_passBlanks yX6_passBlanks ∈ lw_G := mG 0 rfl rfl
set_option maxRecDepth 100000 in
theorem ck_RX6_47 : CkV RX6 47 yX6_passBlanks cX6_passBlanks 1 (none) 0 := ⟨(mG 419 rfl rfl), nw_X6_passBlanks, lw_X6_passBlanks, iw_RX6, cw_X6_passBlanks, ⟨by decide +kernel, by decide +kernel, by decide +kernel⟩⟩
set_option maxRecDepth 100000 in
theorem cw_X6_cutOne : Cond.code yX6_cutOne cX6_cutOne 2 (some .int) ∈ lw_G := mG 426 rfl rfl
set_option maxRecDepth 100000 in
theorem nw_X6_cutOne : Cond.instanceMethod yX6_cutOne ∈ lw_G := mG 425 rfl rfl
theorem lw_X6_cutOne : Cond.selects RX6 yX6_cutOne yX6_cutOne ∈ lw_G := mG 1 rfl rfl
set_option maxRecDepth 100000 in
theorem ck_RX6_50 : CkV RX6 50 yX6_cutOne cX6_cutOne 2 (some .int) 1 := ⟨(mG 423 rfl rfl), nw_X6_cutOne, lw_X6_cutOne, iw_RX6, cw_X6_cutOne, ⟨by decide +kernel, by decide +kernel, by decide +kernel⟩⟩
set_option maxRecDepth 100000 in
theorem cw_X6_isLetter : Cond.code yX6_isLetter cX6_isLetter 2 (some .boolean) ∈ lw_G := mG 430 rfl rfl
set_option maxRecDepth 100000 in
theorem nw_X6_isLetter : Cond.instanceMethod yX6_isLetter ∈ lw_G := mG 429 rfl rfl
theorem lw_X6_isLetter : Cond.selects RX6 yX6_isLetter yX6_isLetter ∈ lw_G := mG 2 rfl rfl
set_option maxRecDepth 100000 in
theorem ck_RX6_54 : CkV RX6 54 yX6_isLetter cX6_isLetter 2 (some .boolean) 1 := ⟨(mG 427 rfl rfl), nw_X6_isLetter, lw_X6_isLetter, iw_RX6, cw_X6_isLetter, ⟨by decide +kernel, by decide +kernel, by decide +kernel⟩⟩
set_option maxRecDepth 100000 in
theorem cw_X6_cutWord : Cond.code yX6_cutWord cX6_cutWord 3 (some .int) ∈ lw_G := mG 434 rfl rfl
set_option maxRecDepth 100000 in
theorem nw_X6_cutWord : Cond.instanceMethod yX6_cutWord ∈ lw_G := mG 433 rfl rfl
theorem lw_X6_cutWord : Cond.selects RX6 yX6_cutWord yX6_cutWord ∈ lw_G := mG 3 rfl rfl
set_option maxRecDepth 100000 in
theorem ck_RX6_58 : CkV RX6 58 yX6_cutWord cX6_cutWord 3 (some .int) 0 := ⟨(mG 431 rfl rfl), nw_X6_cutWord, lw_X6_cutWord, iw_RX6, cw_X6_cutWord, ⟨by decide +kernel, by decide +kernel, by decide +kernel⟩⟩
set_option maxRecDepth 100000 in
theorem cw_X6_spelling : Cond.code yX6_spelling cX6_spelling 1 (some (.object "java/lang/String")) ∈ lw_G := mG 437 rfl rfl
set_option maxRecDepth 100000 in
theorem sw_X6_spelling : Cond.static yX6_spelling ∈ lw_G := mG 436 rfl rfl
set_option maxRecDepth 100000 in
theorem ck_RX6_70 : CkS RX6 70 yX6_spelling cX6_spelling 1 (some (.object "java/lang/String")) 1 := ⟨(mG 435 rfl rfl), sw_X6_spelling, iw_RX6, cw_X6_spelling, ⟨by decide +kernel, by decide +kernel, by decide +kernel⟩⟩
set_option maxRecDepth 100000 in
theorem cw_X6_isSpelled : Cond.code yX6_isSpelled cX6_isSpelled 4 (some .boolean) ∈ lw_G := mG 453 rfl rfl
set_option maxRecDepth 100000 in
theorem nw_X6_isSpelled : Cond.instanceMethod yX6_isSpelled ∈ lw_G := mG 452 rfl rfl
theorem lw_X6_isSpelled : Cond.selects RX6 yX6_isSpelled yX6_isSpelled ∈ lw_G := mG 4 rfl rfl
set_option maxRecDepth 100000 in
theorem ck_RX6_74 : CkV RX6 74 yX6_isSpelled cX6_isSpelled 4 (some .boolean) 2 := ⟨(mG 450 rfl rfl), nw_X6_isSpelled, lw_X6_isSpelled, iw_RX6, cw_X6_isSpelled, ⟨by decide +kernel, by decide +kernel, by decide +kernel⟩⟩
set_option maxRecDepth 100000 in
theorem cw_X6_isDigit : Cond.code yX6_isDigit cX6_isDigit 2 (some .boolean) ∈ lw_G := mG 457 rfl rfl
set_option maxRecDepth 100000 in
theorem nw_X6_isDigit : Cond.instanceMethod yX6_isDigit ∈ lw_G := mG 456 rfl rfl
theorem lw_X6_isDigit : Cond.selects RX6 yX6_isDigit yX6_isDigit ∈ lw_G := mG 5 rfl rfl
set_option maxRecDepth 100000 in
theorem ck_RX6_61 : CkV RX6 61 yX6_isDigit cX6_isDigit 2 (some .boolean) 1 := ⟨(mG 454 rfl rfl), nw_X6_isDigit, lw_X6_isDigit, iw_RX6, cw_X6_isDigit, ⟨by decide +kernel, by decide +kernel, by decide +kernel⟩⟩
set_option maxRecDepth 100000 in
theorem cw_X6_cutNumber : Cond.code yX6_cutNumber cX6_cutNumber 3 (some .int) ∈ lw_G := mG 461 rfl rfl
set_option maxRecDepth 100000 in
theorem nw_X6_cutNumber : Cond.instanceMethod yX6_cutNumber ∈ lw_G := mG 460 rfl rfl
theorem lw_X6_cutNumber : Cond.selects RX6 yX6_cutNumber yX6_cutNumber ∈ lw_G := mG 6 rfl rfl
set_option maxRecDepth 100000 in
theorem ck_RX6_64 : CkV RX6 64 yX6_cutNumber cX6_cutNumber 3 (some .int) 1 := ⟨(mG 458 rfl rfl), nw_X6_cutNumber, lw_X6_cutNumber, iw_RX6, cw_X6_cutNumber, ⟨by decide +kernel, by decide +kernel, by decide +kernel⟩⟩
set_option maxRecDepth 100000 in
theorem cw_X6_signAt : Cond.code yX6_signAt cX6_signAt 2 (some .int) ∈ lw_G := mG 465 rfl rfl
set_option maxRecDepth 100000 in
theorem nw_X6_signAt : Cond.instanceMethod yX6_signAt ∈ lw_G := mG 464 rfl rfl
theorem lw_X6_signAt : Cond.selects RX6 yX6_signAt yX6_signAt ∈ lw_G := mG 7 rfl rfl
set_option maxRecDepth 100000 in
theorem ck_RX6_67 : CkV RX6 67 yX6_signAt cX6_signAt 2 (some .int) 1 := ⟨(mG 462 rfl rfl), nw_X6_signAt, lw_X6_signAt, iw_RX6, cw_X6_signAt, ⟨by decide +kernel, by decide +kernel, by decide +kernel⟩⟩
set_option maxRecDepth 100000 in
theorem cw_X4_readsParts : Cond.code yX4_readsParts cX4_readsParts 2 (some .boolean) ∈ lw_G := mG 469 rfl rfl
set_option maxRecDepth 100000 in
theorem nw_X4_readsParts : Cond.instanceMethod yX4_readsParts ∈ lw_G := mG 468 rfl rfl
theorem lw_X4_readsParts : Cond.selects RX4 yX4_readsParts yX4_readsParts ∈ lw_G := mG 8 rfl rfl
set_option maxRecDepth 100000 in
theorem ck_RX4_39 : CkV RX4 39 yX4_readsParts cX4_readsParts 2 (some .boolean) 0 := ⟨(mG 466 rfl rfl), nw_X4_readsParts, lw_X4_readsParts, iw_RX4, cw_X4_readsParts, ⟨by decide +kernel, by decide +kernel, by decide +kernel⟩⟩
set_option maxRecDepth 100000 in
theorem cw_X4_begin : Cond.code yX4_begin cX4_begin 2 (none) ∈ lw_G := mG 473 rfl rfl
set_option maxRecDepth 100000 in
theorem nw_X4_begin : Cond.instanceMethod yX4_begin ∈ lw_G := mG 472 rfl rfl
theorem lw_X4_begin : Cond.selects RX4 yX4_begin yX4_begin ∈ lw_G := mG 9 rfl rfl
set_option maxRecDepth 100000 in
theorem ck_RX4_49 : CkV RX4 49 yX4_begin cX4_begin 2 (none) 1 := ⟨(mG 470 rfl rfl), nw_X4_begin, lw_X4_begin, iw_RX4, cw_X4_begin, ⟨by decide +kernel, by decide +kernel, by decide +kernel⟩⟩
set_option maxRecDepth 100000 in
theorem cw_X4_eats : Cond.code yX4_eats cX4_eats 2 (some .boolean) ∈ lw_G := mG 477 rfl rfl
set_option maxRecDepth 100000 in
theorem nw_X4_eats : Cond.instanceMethod yX4_eats ∈ lw_G := mG 476 rfl rfl
theorem lw_X4_eats : Cond.selects RX4 yX4_eats yX4_eats ∈ lw_G := mG 10 rfl rfl
set_option maxRecDepth 100000 in
theorem ck_RX4_53 : CkV RX4 53 yX4_eats cX4_eats 2 (some .boolean) 1 := ⟨(mG 474 rfl rfl), nw_X4_eats, lw_X4_eats, iw_RX4, cw_X4_eats, ⟨by decide +kernel, by decide +kernel, by decide +kernel⟩⟩
set_option maxRecDepth 100000 in
theorem cw_X4_pass : Cond.code yX4_pass cX4_pass 1 (none) ∈ lw_G := mG 481 rfl rfl
set_option maxRecDepth 100000 in
theorem nw_X4_pass : Cond.instanceMethod yX4_pass ∈ lw_G := mG 480 rfl rfl
theorem lw_X4_pass : Cond.selects RX4 yX4_pass yX4_pass ∈ lw_G := mG 11 rfl rfl
set_option maxRecDepth 100000 in
theorem ck_RX4_63 : CkV RX4 63 yX4_pass cX4_pass 1 (none) 0 := ⟨(mG 478 rfl rfl), nw_X4_pass, lw_X4_pass, iw_RX4, cw_X4_pass, ⟨by decide +kernel, by decide +kernel, by decide +kernel⟩⟩
set_option maxRecDepth 100000 in
theorem cw_X4_readsAny : Cond.code yX4_readsAny cX4_readsAny 3 (some .boolean) ∈ lw_G := mG 485 rfl rfl
set_option maxRecDepth 100000 in
theorem nw_X4_readsAny : Cond.instanceMethod yX4_readsAny ∈ lw_G := mG 484 rfl rfl
theorem lw_X4_readsAny : Cond.selects RX4 yX4_readsAny yX4_readsAny ∈ lw_G := mG 12 rfl rfl
set_option maxRecDepth 100000 in
theorem ck_RX4_57 : CkV RX4 57 yX4_readsAny cX4_readsAny 3 (some .boolean) 1 := ⟨(mG 482 rfl rfl), nw_X4_readsAny, lw_X4_readsAny, iw_RX4, cw_X4_readsAny, ⟨by decide +kernel, by decide +kernel, by decide +kernel⟩⟩
set_option maxRecDepth 100000 in
theorem cw_X4_readsAll : Cond.code yX4_readsAll cX4_readsAll 3 (some .boolean) ∈ lw_G := mG 489 rfl rfl
set_option maxRecDepth 100000 in
theorem nw_X4_readsAll : Cond.instanceMethod yX4_readsAll ∈ lw_G := mG 488 rfl rfl
theorem lw_X4_readsAll : Cond.selects RX4 yX4_readsAll yX4_readsAll ∈ lw_G := mG 13 rfl rfl
set_option maxRecDepth 100000 in
theorem ck_RX4_60 : CkV RX4 60 yX4_readsAll cX4_readsAll 3 (some .boolean) 1 := ⟨(mG 486 rfl rfl), nw_X4_readsAll, lw_X4_readsAll, iw_RX4, cw_X4_readsAll, ⟨by decide +kernel, by decide +kernel, by decide +kernel⟩⟩
set_option maxRecDepth 100000 in
theorem cw_X4_readsNot : Cond.code yX4_readsNot cX4_readsNot 2 (some .boolean) ∈ lw_G := mG 493 rfl rfl
set_option maxRecDepth 100000 in
theorem nw_X4_readsNot : Cond.instanceMethod yX4_readsNot ∈ lw_G := mG 492 rfl rfl
theorem lw_X4_readsNot : Cond.selects RX4 yX4_readsNot yX4_readsNot ∈ lw_G := mG 14 rfl rfl
set_option maxRecDepth 100000 in
theorem ck_RX4_69 : CkV RX4 69 yX4_readsNot cX4_readsNot 2 (some .boolean) 1 := ⟨(mG 490 rfl rfl), nw_X4_readsNot, lw_X4_readsNot, iw_RX4, cw_X4_readsNot, ⟨by decide +kernel, by decide +kernel, by decide +kernel⟩⟩
set_option maxRecDepth 100000 in
theorem cw_X4_readsLess : Cond.code yX4_readsLess cX4_readsLess 3 (some .boolean) ∈ lw_G := mG 497 rfl rfl
set_option maxRecDepth 100000 in
theorem nw_X4_readsLess : Cond.instanceMethod yX4_readsLess ∈ lw_G := mG 496 rfl rfl
theorem lw_X4_readsLess : Cond.selects RX4 yX4_readsLess yX4_readsLess ∈ lw_G := mG 15 rfl rfl
set_option maxRecDepth 100000 in
theorem ck_RX4_72 : CkV RX4 72 yX4_readsLess cX4_readsLess 3 (some .boolean) 1 := ⟨(mG 494 rfl rfl), nw_X4_readsLess, lw_X4_readsLess, iw_RX4, cw_X4_readsLess, ⟨by decide +kernel, by decide +kernel, by decide +kernel⟩⟩
set_option maxRecDepth 100000 in
theorem cw_X4_readsSum : Cond.code yX4_readsSum cX4_readsSum 4 (some .boolean) ∈ lw_G := mG 501 rfl rfl
set_option maxRecDepth 100000 in
theorem nw_X4_readsSum : Cond.instanceMethod yX4_readsSum ∈ lw_G := mG 500 rfl rfl
theorem lw_X4_readsSum : Cond.selects RX4 yX4_readsSum yX4_readsSum ∈ lw_G := mG 16 rfl rfl
set_option maxRecDepth 100000 in
theorem ck_RX4_75 : CkV RX4 75 yX4_readsSum cX4_readsSum 4 (some .boolean) 1 := ⟨(mG 498 rfl rfl), nw_X4_readsSum, lw_X4_readsSum, iw_RX4, cw_X4_readsSum, ⟨by decide +kernel, by decide +kernel, by decide +kernel⟩⟩
set_option maxRecDepth 100000 in
theorem cw_X4_readsTerm : Cond.code yX4_readsTerm cX4_readsTerm 3 (some .boolean) ∈ lw_G := mG 505 rfl rfl
set_option maxRecDepth 100000 in
theorem nw_X4_readsTerm : Cond.instanceMethod yX4_readsTerm ∈ lw_G := mG 504 rfl rfl
theorem lw_X4_readsTerm : Cond.selects RX4 yX4_readsTerm yX4_readsTerm ∈ lw_G := mG 17 rfl rfl
set_option maxRecDepth 100000 in
theorem ck_RX4_78 : CkV RX4 78 yX4_readsTerm cX4_readsTerm 3 (some .boolean) 1 := ⟨(mG 502 rfl rfl), nw_X4_readsTerm, lw_X4_readsTerm, iw_RX4, cw_X4_readsTerm, ⟨by decide +kernel, by decide +kernel, by decide +kernel⟩⟩
set_option maxRecDepth 100000 in
theorem cw_X4_readsOne : Cond.code yX4_readsOne cX4_readsOne 2 (some .boolean) ∈ lw_G := mG 509 rfl rfl
set_option maxRecDepth 100000 in
theorem nw_X4_readsOne : Cond.instanceMethod yX4_readsOne ∈ lw_G := mG 508 rfl rfl
theorem lw_X4_readsOne : Cond.selects RX4 yX4_readsOne yX4_readsOne ∈ lw_G := mG 18 rfl rfl
set_option maxRecDepth 100000 in
theorem ck_RX4_81 : CkV RX4 81 yX4_readsOne cX4_readsOne 2 (some .boolean) 1 := ⟨(mG 506 rfl rfl), nw_X4_readsOne, lw_X4_readsOne, iw_RX4, cw_X4_readsOne, ⟨by decide +kernel, by decide +kernel, by decide +kernel⟩⟩
set_option maxRecDepth 100000 in
theorem cw_X4_put : Cond.code yX4_put cX4_put 2 (none) ∈ lw_G := mG 513 rfl rfl
set_option maxRecDepth 100000 in
theorem nw_X4_put : Cond.instanceMethod yX4_put ∈ lw_G := mG 512 rfl rfl
theorem lw_X4_put : Cond.selects RX4 yX4_put yX4_put ∈ lw_G := mG 19 rfl rfl
set_option maxRecDepth 100000 in
theorem ck_RX4_66 : CkV RX4 66 yX4_put cX4_put 2 (none) 1 := ⟨(mG 510 rfl rfl), nw_X4_put, lw_X4_put, iw_RX4, cw_X4_put, ⟨by decide +kernel, by decide +kernel, by decide +kernel⟩⟩
set_option maxRecDepth 100000 in
theorem cw_X9_set : Cond.code yX9_set cX9_set 5 (some .int) ∈ lw_G := mG 555 rfl rfl
theorem iw_RX9 : Cond.initialized RX9 ∈ lw_G := mG 87 rfl rfl
set_option maxRecDepth 100000 in
theorem nw_X9_set : Cond.instanceMethod yX9_set ∈ lw_G := mG 553 rfl rfl
set_option maxRecDepth 100000 in
theorem lw_X9_set : Cond.selects RX9 yX9_set yX9_set ∈ lw_G := mG 554 rfl rfl
set_option maxRecDepth 100000 in
theorem ck_RL_13 : CkV RL 13 yX9_set cX9_set 5 (some .int) 3 := ⟨(mG 552 rfl rfl), nw_X9_set, lw_X9_set, iw_RX9, cw_X9_set, ⟨by decide +kernel, by decide +kernel, by decide +kernel⟩⟩
set_option maxRecDepth 100000 in
theorem cw_X9_isSettable : Cond.code yX9_isSettable cX9_isSettable 3 (some .boolean) ∈ lw_G := mG 559 rfl rfl
set_option maxRecDepth 100000 in
theorem nw_X9_isSettable : Cond.instanceMethod yX9_isSettable ∈ lw_G := mG 558 rfl rfl
theorem lw_X9_isSettable : Cond.selects RX9 yX9_isSettable yX9_isSettable ∈ lw_G := mG 20 rfl rfl
set_option maxRecDepth 100000 in
theorem ck_RX9_94 : CkV RX9 94 yX9_isSettable cX9_isSettable 3 (some .boolean) 2 := ⟨(mG 556 rfl rfl), nw_X9_isSettable, lw_X9_isSettable, iw_RX9, cw_X9_isSettable, ⟨by decide +kernel, by decide +kernel, by decide +kernel⟩⟩
set_option maxRecDepth 100000 in
theorem cw_X9_isGroom : Cond.code yX9_isGroom cX9_isGroom 2 (some .boolean) ∈ lw_G := mG 563 rfl rfl
set_option maxRecDepth 100000 in
theorem nw_X9_isGroom : Cond.instanceMethod yX9_isGroom ∈ lw_G := mG 562 rfl rfl
theorem lw_X9_isGroom : Cond.selects RX9 yX9_isGroom yX9_isGroom ∈ lw_G := mG 21 rfl rfl
set_option maxRecDepth 100000 in
theorem ck_RX9_140 : CkV RX9 140 yX9_isGroom cX9_isGroom 2 (some .boolean) 1 := ⟨(mG 560 rfl rfl), nw_X9_isGroom, lw_X9_isGroom, iw_RX9, cw_X9_isGroom, ⟨by decide +kernel, by decide +kernel, by decide +kernel⟩⟩
set_option maxRecDepth 100000 in
theorem cw_X9_lastOf : Cond.code yX9_lastOf cX9_lastOf 1 (some .int) ∈ lw_G := mG 566 rfl rfl
set_option maxRecDepth 100000 in
theorem sw_X9_lastOf : Cond.static yX9_lastOf ∈ lw_G := mG 565 rfl rfl
set_option maxRecDepth 100000 in
theorem ck_RX9_98 : CkS RX9 98 yX9_lastOf cX9_lastOf 1 (some .int) 1 := ⟨(mG 564 rfl rfl), sw_X9_lastOf, iw_RX9, cw_X9_lastOf, ⟨by decide +kernel, by decide +kernel, by decide +kernel⟩⟩
set_option maxRecDepth 100000 in
theorem cw_X9_settable : Cond.code yX9_settable cX9_settable 3 (some .int) ∈ lw_G := mG 570 rfl rfl
set_option maxRecDepth 100000 in
theorem nw_X9_settable : Cond.instanceMethod yX9_settable ∈ lw_G := mG 569 rfl rfl
theorem lw_X9_settable : Cond.selects RX9 yX9_settable yX9_settable ∈ lw_G := mG 22 rfl rfl
set_option maxRecDepth 100000 in
theorem ck_RX9_102 : CkV RX9 102 yX9_settable cX9_settable 3 (some .int) 2 := ⟨(mG 567 rfl rfl), nw_X9_settable, lw_X9_settable, iw_RX9, cw_X9_settable, ⟨by decide +kernel, by decide +kernel, by decide +kernel⟩⟩
set_option maxRecDepth 100000 in
theorem cw_X9_groom : Cond.code yX9_groom cX9_groom 5 (some .int) ∈ lw_G := mG 574 rfl rfl
set_option maxRecDepth 100000 in
theorem nw_X9_groom : Cond.instanceMethod yX9_groom ∈ lw_G := mG 572 rfl rfl
set_option maxRecDepth 100000 in
theorem lw_X9_groom : Cond.selects RX9 yX9_groom yX9_groom ∈ lw_G := mG 573 rfl rfl
set_option maxRecDepth 100000 in
theorem ck_RL_18 : CkV RL 18 yX9_groom cX9_groom 5 (some .int) 3 := ⟨(mG 571 rfl rfl), nw_X9_groom, lw_X9_groom, iw_RX9, cw_X9_groom, ⟨by decide +kernel, by decide +kernel, by decide +kernel⟩⟩
set_option maxRecDepth 100000 in
theorem cw_X9_isKind : Cond.code yX9_isKind cX9_isKind 1 (some .boolean) ∈ lw_G := mG 577 rfl rfl
set_option maxRecDepth 100000 in
theorem sw_X9_isKind : Cond.static yX9_isKind ∈ lw_G := mG 576 rfl rfl
set_option maxRecDepth 100000 in
theorem ck_RX9_127 : CkS RX9 127 yX9_isKind cX9_isKind 1 (some .boolean) 1 := ⟨(mG 575 rfl rfl), sw_X9_isKind, iw_RX9, cw_X9_isKind, ⟨by decide +kernel, by decide +kernel, by decide +kernel⟩⟩
set_option maxRecDepth 100000 in
theorem cw_X9_change : Cond.code yX9_change cX9_change 4 (some .int) ∈ lw_G := mG 581 rfl rfl
set_option maxRecDepth 100000 in
theorem nw_X9_change : Cond.instanceMethod yX9_change ∈ lw_G := mG 579 rfl rfl
set_option maxRecDepth 100000 in
theorem lw_X9_change : Cond.selects RX9 yX9_change yX9_change ∈ lw_G := mG 580 rfl rfl
set_option maxRecDepth 100000 in
theorem ck_RL_22 : CkV RL 22 yX9_change cX9_change 4 (some .int) 2 := ⟨(mG 578 rfl rfl), nw_X9_change, lw_X9_change, iw_RX9, cw_X9_change, ⟨by decide +kernel, by decide +kernel, by decide +kernel⟩⟩
set_option maxRecDepth 100000 in
theorem cw_X9_told : Cond.code yX9_told cX9_told 3 (some .int) ∈ lw_G := mG 585 rfl rfl
set_option maxRecDepth 100000 in
theorem nw_X9_told : Cond.instanceMethod yX9_told ∈ lw_G := mG 583 rfl rfl
set_option maxRecDepth 100000 in
theorem lw_X9_told : Cond.selects RX9 yX9_told yX9_told ∈ lw_G := mG 584 rfl rfl
set_option maxRecDepth 100000 in
theorem ck_RL_27 : CkV RL 27 yX9_told cX9_told 3 (some .int) 2 := ⟨(mG 582 rfl rfl), nw_X9_told, lw_X9_told, iw_RX9, cw_X9_told, ⟨by decide +kernel, by decide +kernel, by decide +kernel⟩⟩
set_option maxRecDepth 100000 in
theorem cw_X9_seeAsIs : Cond.code yX9_seeAsIs cX9_seeAsIs 2 (none) ∈ lw_G := mG 589 rfl rfl
set_option maxRecDepth 100000 in
theorem nw_X9_seeAsIs : Cond.instanceMethod yX9_seeAsIs ∈ lw_G := mG 588 rfl rfl
theorem lw_X9_seeAsIs : Cond.selects RX9 yX9_seeAsIs yX9_seeAsIs ∈ lw_G := mG 23 rfl rfl
set_option maxRecDepth 100000 in
theorem ck_RX9_143 : CkV RX9 143 yX9_seeAsIs cX9_seeAsIs 2 (none) 1 := ⟨(mG 586 rfl rfl), nw_X9_seeAsIs, lw_X9_seeAsIs, iw_RX9, cw_X9_seeAsIs, ⟨by decide +kernel, by decide +kernel, by decide +kernel⟩⟩
set_option maxRecDepth 100000 in
theorem cw_X9_seeIn : Cond.code yX9_seeIn cX9_seeIn 3 (none) ∈ lw_G := mG 593 rfl rfl
set_option maxRecDepth 100000 in
theorem nw_X9_seeIn : Cond.instanceMethod yX9_seeIn ∈ lw_G := mG 592 rfl rfl
theorem lw_X9_seeIn : Cond.selects RX9 yX9_seeIn yX9_seeIn ∈ lw_G := mG 24 rfl rfl
set_option maxRecDepth 100000 in
theorem ck_RX9_179 : CkV RX9 179 yX9_seeIn cX9_seeIn 3 (none) 2 := ⟨(mG 590 rfl rfl), nw_X9_seeIn, lw_X9_seeIn, iw_RX9, cw_X9_seeIn, ⟨by decide +kernel, by decide +kernel, by decide +kernel⟩⟩
set_option maxRecDepth 100000 in
theorem cw_X9_see : Cond.code yX9_see cX9_see 5 (none) ∈ lw_G := mG 597 rfl rfl
set_option maxRecDepth 100000 in
theorem nw_X9_see : Cond.instanceMethod yX9_see ∈ lw_G := mG 596 rfl rfl
theorem lw_X9_see : Cond.selects RX9 yX9_see yX9_see ∈ lw_G := mG 25 rfl rfl
set_option maxRecDepth 100000 in
theorem ck_RX9_175 : CkV RX9 175 yX9_see cX9_see 5 (none) 3 := ⟨(mG 594 rfl rfl), nw_X9_see, lw_X9_see, iw_RX9, cw_X9_see, ⟨by decide +kernel, by decide +kernel, by decide +kernel⟩⟩
set_option maxRecDepth 100000 in
theorem cw_X9_rule : Cond.code yX9_rule cX9_rule 1 (some (.object "SewnUp$Text")) ∈ lw_G := mG 601 rfl rfl
set_option maxRecDepth 100000 in
theorem nw_X9_rule : Cond.instanceMethod yX9_rule ∈ lw_G := mG 600 rfl rfl
theorem lw_X9_rule : Cond.selects RX9 yX9_rule yX9_rule ∈ lw_G := mG 26 rfl rfl
set_option maxRecDepth 100000 in
theorem ck_RX9_154 : CkV RX9 154 yX9_rule cX9_rule 1 (some (.object "SewnUp$Text")) 0 := ⟨(mG 598 rfl rfl), nw_X9_rule, lw_X9_rule, iw_RX9, cw_X9_rule, ⟨by decide +kernel, by decide +kernel, by decide +kernel⟩⟩
set_option maxRecDepth 100000 in
theorem cw_X2_heats : Cond.code yX2_heats cX2_heats 3 (some .int) ∈ lw_G := mG 605 rfl rfl
theorem iw_RX2 : Cond.initialized RX2 ∈ lw_G := mG 92 rfl rfl
set_option maxRecDepth 100000 in
theorem nw_X2_heats : Cond.instanceMethod yX2_heats ∈ lw_G := mG 603 rfl rfl
set_option maxRecDepth 100000 in
theorem lw_X2_heats : Cond.selects RX2 yX2_heats yX2_heats ∈ lw_G := mG 604 rfl rfl
set_option maxRecDepth 100000 in
theorem ck_RX9_158 : CkV RX9 158 yX2_heats cX2_heats 3 (some .int) 1 := ⟨(mG 602 rfl rfl), nw_X2_heats, lw_X2_heats, iw_RX2, cw_X2_heats, ⟨by decide +kernel, by decide +kernel, by decide +kernel⟩⟩
set_option maxRecDepth 100000 in
theorem cw_X2_nameAll : Cond.code yX2_nameAll cX2_nameAll 1 (none) ∈ lw_G := mG 609 rfl rfl
set_option maxRecDepth 100000 in
theorem nw_X2_nameAll : Cond.instanceMethod yX2_nameAll ∈ lw_G := mG 608 rfl rfl
theorem lw_X2_nameAll : Cond.selects RX2 yX2_nameAll yX2_nameAll ∈ lw_G := mG 27 rfl rfl
set_option maxRecDepth 100000 in
theorem ck_RX2_43 : CkV RX2 43 yX2_nameAll cX2_nameAll 1 (none) 0 := ⟨(mG 606 rfl rfl), nw_X2_nameAll, lw_X2_nameAll, iw_RX2, cw_X2_nameAll, ⟨by decide +kernel, by decide +kernel, by decide +kernel⟩⟩
set_option maxRecDepth 100000 in
theorem cw_X7_answer : Cond.code yX7_answer cX7_answer 6 (some .int) ∈ lw_G := mG 613 rfl rfl
theorem iw_RX7 : Cond.initialized RX7 ∈ lw_G := mG 95 rfl rfl
set_option maxRecDepth 100000 in
theorem nw_X7_answer : Cond.instanceMethod yX7_answer ∈ lw_G := mG 611 rfl rfl
set_option maxRecDepth 100000 in
theorem lw_X7_answer : Cond.selects RX7 yX7_answer yX7_answer ∈ lw_G := mG 612 rfl rfl
set_option maxRecDepth 100000 in
theorem ck_RX2_46 : CkV RX2 46 yX7_answer cX7_answer 6 (some .int) 2 := ⟨(mG 610 rfl rfl), nw_X7_answer, lw_X7_answer, iw_RX7, cw_X7_answer, ⟨by decide +kernel, by decide +kernel, by decide +kernel⟩⟩
set_option maxRecDepth 100000 in
theorem cw_X7_joined : Cond.code yX7_joined cX7_joined 3 (some .int) ∈ lw_G := mG 616 rfl rfl
set_option maxRecDepth 100000 in
theorem sw_X7_joined : Cond.static yX7_joined ∈ lw_G := mG 615 rfl rfl
set_option maxRecDepth 100000 in
theorem ck_RX7_21 : CkS RX7 21 yX7_joined cX7_joined 3 (some .int) 3 := ⟨(mG 614 rfl rfl), sw_X7_joined, iw_RX7, cw_X7_joined, ⟨by decide +kernel, by decide +kernel, by decide +kernel⟩⟩
set_option maxRecDepth 100000 in
theorem cw_X2_calms : Cond.code yX2_calms cX2_calms 4 (some .int) ∈ lw_G := mG 623 rfl rfl
set_option maxRecDepth 100000 in
theorem nw_X2_calms : Cond.instanceMethod yX2_calms ∈ lw_G := mG 621 rfl rfl
set_option maxRecDepth 100000 in
theorem lw_X2_calms : Cond.selects RX2 yX2_calms yX2_calms ∈ lw_G := mG 622 rfl rfl
set_option maxRecDepth 100000 in
theorem ck_RX9_161 : CkV RX9 161 yX2_calms cX2_calms 4 (some .int) 1 := ⟨(mG 620 rfl rfl), nw_X2_calms, lw_X2_calms, iw_RX2, cw_X2_calms, ⟨by decide +kernel, by decide +kernel, by decide +kernel⟩⟩
set_option maxRecDepth 100000 in
theorem cw_X2_feels : Cond.code yX2_feels cX2_feels 3 (some .int) ∈ lw_G := mG 627 rfl rfl
set_option maxRecDepth 100000 in
theorem nw_X2_feels : Cond.instanceMethod yX2_feels ∈ lw_G := mG 625 rfl rfl
set_option maxRecDepth 100000 in
theorem lw_X2_feels : Cond.selects RX2 yX2_feels yX2_feels ∈ lw_G := mG 626 rfl rfl
set_option maxRecDepth 100000 in
theorem ck_RX9_164 : CkV RX9 164 yX2_feels cX2_feels 3 (some .int) 1 := ⟨(mG 624 rfl rfl), nw_X2_feels, lw_X2_feels, iw_RX2, cw_X2_feels, ⟨by decide +kernel, by decide +kernel, by decide +kernel⟩⟩
set_option maxRecDepth 100000 in
theorem cw_X2_nameNone : Cond.code yX2_nameNone cX2_nameNone 2 (none) ∈ lw_G := mG 631 rfl rfl
set_option maxRecDepth 100000 in
theorem nw_X2_nameNone : Cond.instanceMethod yX2_nameNone ∈ lw_G := mG 630 rfl rfl
theorem lw_X2_nameNone : Cond.selects RX2 yX2_nameNone yX2_nameNone ∈ lw_G := mG 28 rfl rfl
set_option maxRecDepth 100000 in
theorem ck_RX2_56 : CkV RX2 56 yX2_nameNone cX2_nameNone 2 (none) 0 := ⟨(mG 628 rfl rfl), nw_X2_nameNone, lw_X2_nameNone, iw_RX2, cw_X2_nameNone, ⟨by decide +kernel, by decide +kernel, by decide +kernel⟩⟩
set_option maxRecDepth 100000 in
theorem cw_X9_feed : Cond.code yX9_feed cX9_feed 3 (some .int) ∈ lw_G := mG 635 rfl rfl
set_option maxRecDepth 100000 in
theorem nw_X9_feed : Cond.instanceMethod yX9_feed ∈ lw_G := mG 633 rfl rfl
set_option maxRecDepth 100000 in
theorem lw_X9_feed : Cond.selects RX9 yX9_feed yX9_feed ∈ lw_G := mG 634 rfl rfl
set_option maxRecDepth 100000 in
theorem ck_RL_31 : CkV RL 31 yX9_feed cX9_feed 3 (some .int) 1 := ⟨(mG 632 rfl rfl), nw_X9_feed, lw_X9_feed, iw_RX9, cw_X9_feed, ⟨by decide +kernel, by decide +kernel, by decide +kernel⟩⟩
set_option maxRecDepth 100000 in
theorem cw_X9_text : Cond.code yX9_text cX9_text 2 (some .int) ∈ lw_G := mG 639 rfl rfl
set_option maxRecDepth 100000 in
theorem nw_X9_text : Cond.instanceMethod yX9_text ∈ lw_G := mG 637 rfl rfl
set_option maxRecDepth 100000 in
theorem lw_X9_text : Cond.selects RX9 yX9_text yX9_text ∈ lw_G := mG 638 rfl rfl
set_option maxRecDepth 100000 in
theorem ck_RL_36 : CkV RL 36 yX9_text cX9_text 2 (some .int) 0 := ⟨(mG 636 rfl rfl), nw_X9_text, lw_X9_text, iw_RX9, cw_X9_text, ⟨by decide +kernel, by decide +kernel, by decide +kernel⟩⟩
set_option maxRecDepth 100000 in
theorem cw_X9_force : Cond.code yX9_force cX9_force 3 (some .int) ∈ lw_G := mG 643 rfl rfl
set_option maxRecDepth 100000 in
theorem nw_X9_force : Cond.instanceMethod yX9_force ∈ lw_G := mG 641 rfl rfl
set_option maxRecDepth 100000 in
theorem lw_X9_force : Cond.selects RX9 yX9_force yX9_force ∈ lw_G := mG 642 rfl rfl
set_option maxRecDepth 100000 in
theorem ck_RL_41 : CkV RL 41 yX9_force cX9_force 3 (some .int) 1 := ⟨(mG 640 rfl rfl), nw_X9_force, lw_X9_force, iw_RX9, cw_X9_force, ⟨by decide +kernel, by decide +kernel, by decide +kernel⟩⟩
set_option maxRecDepth 100000 in
theorem cw_X9_day : Cond.code yX9_day cX9_day 3 (some .int) ∈ lw_G := mG 647 rfl rfl
set_option maxRecDepth 100000 in
theorem nw_X9_day : Cond.instanceMethod yX9_day ∈ lw_G := mG 645 rfl rfl
set_option maxRecDepth 100000 in
theorem lw_X9_day : Cond.selects RX9 yX9_day yX9_day ∈ lw_G := mG 646 rfl rfl
set_option maxRecDepth 100000 in
theorem ck_RL_45 : CkV RL 45 yX9_day cX9_day 3 (some .int) 0 := ⟨(mG 644 rfl rfl), nw_X9_day, lw_X9_day, iw_RX9, cw_X9_day, ⟨by decide +kernel, by decide +kernel, by decide +kernel⟩⟩
set_option maxRecDepth 100000 in
theorem cw_X2_boilsInADay : Cond.code yX2_boilsInADay cX2_boilsInADay 4 (some .boolean) ∈ lw_G := mG 651 rfl rfl
set_option maxRecDepth 100000 in
theorem nw_X2_boilsInADay : Cond.instanceMethod yX2_boilsInADay ∈ lw_G := mG 649 rfl rfl
set_option maxRecDepth 100000 in
theorem lw_X2_boilsInADay : Cond.selects RX2 yX2_boilsInADay yX2_boilsInADay ∈ lw_G := mG 650 rfl rfl
set_option maxRecDepth 100000 in
theorem ck_RX9_187 : CkV RX9 187 yX2_boilsInADay cX2_boilsInADay 4 (some .boolean) 2 := ⟨(mG 648 rfl rfl), nw_X2_boilsInADay, lw_X2_boilsInADay, iw_RX2, cw_X2_boilsInADay, ⟨by decide +kernel, by decide +kernel, by decide +kernel⟩⟩
set_option maxRecDepth 100000 in
theorem ck_RX2_59 : CkV RX2 59 yX2_heats cX2_heats 3 (some .int) 1 := ⟨(mG 652 rfl rfl), nw_X2_heats, lw_X2_heats, iw_RX2, cw_X2_heats, ⟨by decide +kernel, by decide +kernel, by decide +kernel⟩⟩
set_option maxRecDepth 100000 in
theorem ck_RX2_63 : CkS RX2 63 yJ9_min_7cf53 cJ9_min_7cf53 2 (some .int) 2 := ⟨(mG 653 rfl rfl), sw_J9_min_7cf53, iw_RJ9, cw_J9_min_7cf53, ⟨by decide +kernel, by decide +kernel, by decide +kernel⟩⟩
set_option maxRecDepth 100000 in
theorem ck_RX2_69 : CkV RX2 69 yX2_calms cX2_calms 4 (some .int) 1 := ⟨(mG 654 rfl rfl), nw_X2_calms, lw_X2_calms, iw_RX2, cw_X2_calms, ⟨by decide +kernel, by decide +kernel, by decide +kernel⟩⟩
set_option maxRecDepth 100000 in
theorem cw_J9_max_7cf53 : Cond.code yJ9_max_7cf53 cJ9_max_7cf53 2 (some .int) ∈ lw_G := mG 657 rfl rfl
set_option maxRecDepth 100000 in
theorem sw_J9_max_7cf53 : Cond.static yJ9_max_7cf53 ∈ lw_G := mG 656 rfl rfl
set_option maxRecDepth 100000 in
theorem ck_RX2_72 : CkS RX2 72 yJ9_max_7cf53 cJ9_max_7cf53 2 (some .int) 2 := ⟨(mG 655 rfl rfl), sw_J9_max_7cf53, iw_RJ9, cw_J9_max_7cf53, ⟨by decide +kernel, by decide +kernel, by decide +kernel⟩⟩
set_option maxRecDepth 100000 in
theorem cw_X9_run : Cond.code yX9_run cX9_run 7 (some .int) ∈ lw_G := mG 661 rfl rfl
set_option maxRecDepth 100000 in
theorem nw_X9_run : Cond.instanceMethod yX9_run ∈ lw_G := mG 659 rfl rfl
set_option maxRecDepth 100000 in
theorem lw_X9_run : Cond.selects RX9 yX9_run yX9_run ∈ lw_G := mG 660 rfl rfl
set_option maxRecDepth 100000 in
theorem ck_RL_49 : CkV RL 49 yX9_run cX9_run 7 (some .int) 2 := ⟨(mG 658 rfl rfl), nw_X9_run, lw_X9_run, iw_RX9, cw_X9_run, ⟨by decide +kernel, by decide +kernel, by decide +kernel⟩⟩
set_option maxRecDepth 100000 in
theorem cw_X9_isDays : Cond.code yX9_isDays cX9_isDays 2 (some .boolean) ∈ lw_G := mG 664 rfl rfl
set_option maxRecDepth 100000 in
theorem sw_X9_isDays : Cond.static yX9_isDays ∈ lw_G := mG 663 rfl rfl
set_option maxRecDepth 100000 in
theorem ck_RX9_191 : CkS RX9 191 yX9_isDays cX9_isDays 2 (some .boolean) 2 := ⟨(mG 662 rfl rfl), sw_X9_isDays, iw_RX9, cw_X9_isDays, ⟨by decide +kernel, by decide +kernel, by decide +kernel⟩⟩
set_option maxRecDepth 100000 in
theorem cw_X2_lives : Cond.code yX2_lives cX2_lives 5 (none) ∈ lw_G := mG 668 rfl rfl
set_option maxRecDepth 100000 in
theorem nw_X2_lives : Cond.instanceMethod yX2_lives ∈ lw_G := mG 666 rfl rfl
set_option maxRecDepth 100000 in
theorem lw_X2_lives : Cond.selects RX2 yX2_lives yX2_lives ∈ lw_G := mG 667 rfl rfl
set_option maxRecDepth 100000 in
theorem ck_RX9_194 : CkV RX9 194 yX2_lives cX2_lives 5 (none) 3 := ⟨(mG 665 rfl rfl), nw_X2_lives, lw_X2_lives, iw_RX2, cw_X2_lives, ⟨by decide +kernel, by decide +kernel, by decide +kernel⟩⟩
set_option maxRecDepth 100000 in
theorem ck_RX2_75 : CkV RX2 75 yX2_boilsInADay cX2_boilsInADay 4 (some .boolean) 2 := ⟨(mG 669 rfl rfl), nw_X2_boilsInADay, lw_X2_boilsInADay, iw_RX2, cw_X2_boilsInADay, ⟨by decide +kernel, by decide +kernel, by decide +kernel⟩⟩
set_option maxRecDepth 100000 in
theorem cw_X9_rings : Cond.code yX9_rings cX9_rings 2 (some .int) ∈ lw_G := mG 673 rfl rfl
set_option maxRecDepth 100000 in
theorem nw_X9_rings : Cond.instanceMethod yX9_rings ∈ lw_G := mG 671 rfl rfl
set_option maxRecDepth 100000 in
theorem lw_X9_rings : Cond.selects RX9 yX9_rings yX9_rings ∈ lw_G := mG 672 rfl rfl
set_option maxRecDepth 100000 in
theorem ck_RL_53 : CkV RL 53 yX9_rings cX9_rings 2 (some .int) 1 := ⟨(mG 670 rfl rfl), nw_X9_rings, lw_X9_rings, iw_RX9, cw_X9_rings, ⟨by decide +kernel, by decide +kernel, by decide +kernel⟩⟩
set_option maxRecDepth 100000 in
theorem cw_X9_ringCount : Cond.code yX9_ringCount cX9_ringCount 4 (some .int) ∈ lw_G := mG 677 rfl rfl
set_option maxRecDepth 100000 in
theorem nw_X9_ringCount : Cond.instanceMethod yX9_ringCount ∈ lw_G := mG 676 rfl rfl
theorem lw_X9_ringCount : Cond.selects RX9 yX9_ringCount yX9_ringCount ∈ lw_G := mG 29 rfl rfl
set_option maxRecDepth 100000 in
theorem ck_RX9_204 : CkV RX9 204 yX9_ringCount cX9_ringCount 4 (some .int) 0 := ⟨(mG 674 rfl rfl), nw_X9_ringCount, lw_X9_ringCount, iw_RX9, cw_X9_ringCount, ⟨by decide +kernel, by decide +kernel, by decide +kernel⟩⟩
set_option maxRecDepth 100000 in
theorem cw_X9_ringOf : Cond.code yX9_ringOf cX9_ringOf 5 (some .int) ∈ lw_G := mG 681 rfl rfl
set_option maxRecDepth 100000 in
theorem nw_X9_ringOf : Cond.instanceMethod yX9_ringOf ∈ lw_G := mG 680 rfl rfl
theorem lw_X9_ringOf : Cond.selects RX9 yX9_ringOf yX9_ringOf ∈ lw_G := mG 30 rfl rfl
set_option maxRecDepth 100000 in
theorem ck_RX9_217 : CkV RX9 217 yX9_ringOf cX9_ringOf 5 (some .int) 1 := ⟨(mG 678 rfl rfl), nw_X9_ringOf, lw_X9_ringOf, iw_RX9, cw_X9_ringOf, ⟨by decide +kernel, by decide +kernel, by decide +kernel⟩⟩
set_option maxRecDepth 100000 in
theorem cw_X9_longestRing : Cond.code yX9_longestRing cX9_longestRing 3 (some .int) ∈ lw_G := mG 685 rfl rfl
set_option maxRecDepth 100000 in
theorem nw_X9_longestRing : Cond.instanceMethod yX9_longestRing ∈ lw_G := mG 684 rfl rfl
theorem lw_X9_longestRing : Cond.selects RX9 yX9_longestRing yX9_longestRing ∈ lw_G := mG 31 rfl rfl
set_option maxRecDepth 100000 in
theorem ck_RX9_208 : CkV RX9 208 yX9_longestRing cX9_longestRing 3 (some .int) 0 := ⟨(mG 682 rfl rfl), nw_X9_longestRing, lw_X9_longestRing, iw_RX9, cw_X9_longestRing, ⟨by decide +kernel, by decide +kernel, by decide +kernel⟩⟩
set_option maxRecDepth 100000 in
theorem cw_J6_bitCount_0f7a4 : Cond.code yJ6_bitCount_0f7a4 cJ6_bitCount_0f7a4 1 (some .int) ∈ lw_G := mG 688 rfl rfl
theorem iw_RJ6 : Cond.initialized RJ6 ∈ lw_G := mG 103 rfl rfl
set_option maxRecDepth 100000 in
theorem sw_J6_bitCount_0f7a4 : Cond.static yJ6_bitCount_0f7a4 ∈ lw_G := mG 687 rfl rfl
set_option maxRecDepth 100000 in
theorem ck_RX9_220 : CkS RX9 220 yJ6_bitCount_0f7a4 cJ6_bitCount_0f7a4 1 (some .int) 1 := ⟨(mG 686 rfl rfl), sw_J6_bitCount_0f7a4, iw_RJ6, cw_J6_bitCount_0f7a4, ⟨by decide +kernel, by decide +kernel, by decide +kernel⟩⟩
set_option maxRecDepth 100000 in
theorem ck_RX9_225 : CkS RX9 225 yJ9_max_7cf53 cJ9_max_7cf53 2 (some .int) 2 := ⟨(mG 692 rfl rfl), sw_J9_max_7cf53, iw_RJ9, cw_J9_max_7cf53, ⟨by decide +kernel, by decide +kernel, by decide +kernel⟩⟩
set_option maxRecDepth 100000 in
theorem cw_X9_firstChange : Cond.code yX9_firstChange cX9_firstChange 4 (some .int) ∈ lw_G := mG 696 rfl rfl
set_option maxRecDepth 100000 in
theorem nw_X9_firstChange : Cond.instanceMethod yX9_firstChange ∈ lw_G := mG 695 rfl rfl
theorem lw_X9_firstChange : Cond.selects RX9 yX9_firstChange yX9_firstChange ∈ lw_G := mG 32 rfl rfl
set_option maxRecDepth 100000 in
theorem ck_RX9_211 : CkV RX9 211 yX9_firstChange cX9_firstChange 4 (some .int) 0 := ⟨(mG 693 rfl rfl), nw_X9_firstChange, lw_X9_firstChange, iw_RX9, cw_X9_firstChange, ⟨by decide +kernel, by decide +kernel, by decide +kernel⟩⟩
set_option maxRecDepth 100000 in
theorem cw_X9_inOwn : Cond.code yX9_inOwn cX9_inOwn 3 (some .int) ∈ lw_G := mG 700 rfl rfl
set_option maxRecDepth 100000 in
theorem nw_X9_inOwn : Cond.instanceMethod yX9_inOwn ∈ lw_G := mG 699 rfl rfl
theorem lw_X9_inOwn : Cond.selects RX9 yX9_inOwn yX9_inOwn ∈ lw_G := mG 33 rfl rfl
set_option maxRecDepth 100000 in
theorem ck_RX9_214 : CkV RX9 214 yX9_inOwn cX9_inOwn 3 (some .int) 0 := ⟨(mG 697 rfl rfl), nw_X9_inOwn, lw_X9_inOwn, iw_RX9, cw_X9_inOwn, ⟨by decide +kernel, by decide +kernel, by decide +kernel⟩⟩
set_option maxRecDepth 100000 in
theorem cw_X9_ring : Cond.code yX9_ring cX9_ring 2 (some .int) ∈ lw_G := mG 704 rfl rfl
set_option maxRecDepth 100000 in
theorem nw_X9_ring : Cond.instanceMethod yX9_ring ∈ lw_G := mG 702 rfl rfl
set_option maxRecDepth 100000 in
theorem lw_X9_ring : Cond.selects RX9 yX9_ring yX9_ring ∈ lw_G := mG 703 rfl rfl
set_option maxRecDepth 100000 in
theorem ck_RL_57 : CkV RL 57 yX9_ring cX9_ring 2 (some .int) 1 := ⟨(mG 701 rfl rfl), nw_X9_ring, lw_X9_ring, iw_RX9, cw_X9_ring, ⟨by decide +kernel, by decide +kernel, by decide +kernel⟩⟩
set_option maxRecDepth 100000 in
theorem cw_X9_better : Cond.code yX9_better cX9_better 9 (some .int) ∈ lw_G := mG 708 rfl rfl
set_option maxRecDepth 100000 in
theorem nw_X9_better : Cond.instanceMethod yX9_better ∈ lw_G := mG 706 rfl rfl
set_option maxRecDepth 100000 in
theorem lw_X9_better : Cond.selects RX9 yX9_better yX9_better ∈ lw_G := mG 707 rfl rfl
set_option maxRecDepth 100000 in
theorem ck_RL_61 : CkV RL 61 yX9_better cX9_better 9 (some .int) 2 := ⟨(mG 705 rfl rfl), nw_X9_better, lw_X9_better, iw_RX9, cw_X9_better, ⟨by decide +kernel, by decide +kernel, by decide +kernel⟩⟩
set_option maxRecDepth 100000 in
theorem cw_X9_foreseeTempers : Cond.code yX9_foreseeTempers cX9_foreseeTempers 4 (none) ∈ lw_G := mG 712 rfl rfl
set_option maxRecDepth 100000 in
theorem nw_X9_foreseeTempers : Cond.instanceMethod yX9_foreseeTempers ∈ lw_G := mG 711 rfl rfl
theorem lw_X9_foreseeTempers : Cond.selects RX9 yX9_foreseeTempers yX9_foreseeTempers ∈ lw_G := mG 34 rfl rfl
set_option maxRecDepth 100000 in
theorem ck_RX9_230 : CkV RX9 230 yX9_foreseeTempers cX9_foreseeTempers 4 (none) 1 := ⟨(mG 709 rfl rfl), nw_X9_foreseeTempers, lw_X9_foreseeTempers, iw_RX9, cw_X9_foreseeTempers, ⟨by decide +kernel, by decide +kernel, by decide +kernel⟩⟩
set_option maxRecDepth 100000 in
theorem cw_X9_warmerBy : Cond.code yX9_warmerBy cX9_warmerBy 5 (some .int) ∈ lw_G := mG 716 rfl rfl
set_option maxRecDepth 100000 in
theorem nw_X9_warmerBy : Cond.instanceMethod yX9_warmerBy ∈ lw_G := mG 715 rfl rfl
theorem lw_X9_warmerBy : Cond.selects RX9 yX9_warmerBy yX9_warmerBy ∈ lw_G := mG 35 rfl rfl
set_option maxRecDepth 100000 in
theorem ck_RX9_233 : CkV RX9 233 yX9_warmerBy cX9_warmerBy 5 (some .int) 2 := ⟨(mG 713 rfl rfl), nw_X9_warmerBy, lw_X9_warmerBy, iw_RX9, cw_X9_warmerBy, ⟨by decide +kernel, by decide +kernel, by decide +kernel⟩⟩
set_option maxRecDepth 100000 in
theorem cw_X9_best : Cond.code yX9_best cX9_best 8 (some .int) ∈ lw_G := mG 720 rfl rfl
set_option maxRecDepth 100000 in
theorem nw_X9_best : Cond.instanceMethod yX9_best ∈ lw_G := mG 718 rfl rfl
set_option maxRecDepth 100000 in
theorem lw_X9_best : Cond.selects RX9 yX9_best yX9_best ∈ lw_G := mG 719 rfl rfl
set_option maxRecDepth 100000 in
theorem ck_RL_65 : CkV RL 65 yX9_best cX9_best 8 (some .int) 2 := ⟨(mG 717 rfl rfl), nw_X9_best, lw_X9_best, iw_RX9, cw_X9_best, ⟨by decide +kernel, by decide +kernel, by decide +kernel⟩⟩
set_option maxRecDepth 100000 in
theorem cw_X8_begin : Cond.code yX8_begin cX8_begin 3 (none) ∈ lw_G := mG 724 rfl rfl
theorem iw_RX8 : Cond.initialized RX8 ∈ lw_G := mG 93 rfl rfl
set_option maxRecDepth 100000 in
theorem nw_X8_begin : Cond.instanceMethod yX8_begin ∈ lw_G := mG 722 rfl rfl
set_option maxRecDepth 100000 in
theorem lw_X8_begin : Cond.selects RX8 yX8_begin yX8_begin ∈ lw_G := mG 723 rfl rfl
set_option maxRecDepth 100000 in
theorem ck_RX9_236 : CkV RX9 236 yX8_begin cX8_begin 3 (none) 1 := ⟨(mG 721 rfl rfl), nw_X8_begin, lw_X8_begin, iw_RX8, cw_X8_begin, ⟨by decide +kernel, by decide +kernel, by decide +kernel⟩⟩
set_option maxRecDepth 100000 in
theorem cw_X8_digits : Cond.code yX8_digits cX8_digits 3 (some .int) ∈ lw_G := mG 728 rfl rfl
set_option maxRecDepth 100000 in
theorem nw_X8_digits : Cond.instanceMethod yX8_digits ∈ lw_G := mG 726 rfl rfl
set_option maxRecDepth 100000 in
theorem lw_X8_digits : Cond.selects RX8 yX8_digits yX8_digits ∈ lw_G := mG 727 rfl rfl
set_option maxRecDepth 100000 in
theorem ck_RX9_245 : CkV RX9 245 yX8_digits cX8_digits 3 (some .int) 0 := ⟨(mG 725 rfl rfl), nw_X8_digits, lw_X8_digits, iw_RX8, cw_X8_digits, ⟨by decide +kernel, by decide +kernel, by decide +kernel⟩⟩
set_option maxRecDepth 100000 in
theorem cw_X8_step : Cond.code yX8_step cX8_step 5 (none) ∈ lw_G := mG 732 rfl rfl
set_option maxRecDepth 100000 in
theorem nw_X8_step : Cond.instanceMethod yX8_step ∈ lw_G := mG 730 rfl rfl
set_option maxRecDepth 100000 in
theorem lw_X8_step : Cond.selects RX8 yX8_step yX8_step ∈ lw_G := mG 731 rfl rfl
set_option maxRecDepth 100000 in
theorem ck_RX9_248 : CkV RX9 248 yX8_step cX8_step 5 (none) 0 := ⟨(mG 729 rfl rfl), nw_X8_step, lw_X8_step, iw_RX8, cw_X8_step, ⟨by decide +kernel, by decide +kernel, by decide +kernel⟩⟩
set_option maxRecDepth 100000 in
theorem cw_X8_swap : Cond.code yX8_swap cX8_swap 4 (none) ∈ lw_G := mG 736 rfl rfl
set_option maxRecDepth 100000 in
theorem nw_X8_swap : Cond.instanceMethod yX8_swap ∈ lw_G := mG 735 rfl rfl
theorem lw_X8_swap : Cond.selects RX8 yX8_swap yX8_swap ∈ lw_G := mG 36 rfl rfl
set_option maxRecDepth 100000 in
theorem ck_RX8_25 : CkV RX8 25 yX8_swap cX8_swap 4 (none) 2 := ⟨(mG 733 rfl rfl), nw_X8_swap, lw_X8_swap, iw_RX8, cw_X8_swap, ⟨by decide +kernel, by decide +kernel, by decide +kernel⟩⟩
set_option maxRecDepth 100000 in
theorem cw_X9_from : Cond.code yX9_from cX9_from 2 (some .int) ∈ lw_G := mG 740 rfl rfl
set_option maxRecDepth 100000 in
theorem nw_X9_from : Cond.instanceMethod yX9_from ∈ lw_G := mG 738 rfl rfl
set_option maxRecDepth 100000 in
theorem lw_X9_from : Cond.selects RX9 yX9_from yX9_from ∈ lw_G := mG 739 rfl rfl
set_option maxRecDepth 100000 in
theorem ck_RL_69 : CkV RL 69 yX9_from cX9_from 2 (some .int) 1 := ⟨(mG 737 rfl rfl), nw_X9_from, lw_X9_from, iw_RX9, cw_X9_from, ⟨by decide +kernel, by decide +kernel, by decide +kernel⟩⟩
set_option maxRecDepth 100000 in
theorem cw_X9_fillPockets : Cond.code yX9_fillPockets cX9_fillPockets 2 (none) ∈ lw_G := mG 744 rfl rfl
set_option maxRecDepth 100000 in
theorem nw_X9_fillPockets : Cond.instanceMethod yX9_fillPockets ∈ lw_G := mG 743 rfl rfl
theorem lw_X9_fillPockets : Cond.selects RX9 yX9_fillPockets yX9_fillPockets ∈ lw_G := mG 37 rfl rfl
set_option maxRecDepth 100000 in
theorem ck_RX9_251 : CkV RX9 251 yX9_fillPockets cX9_fillPockets 2 (none) 0 := ⟨(mG 741 rfl rfl), nw_X9_fillPockets, lw_X9_fillPockets, iw_RX9, cw_X9_fillPockets, ⟨by decide +kernel, by decide +kernel, by decide +kernel⟩⟩
set_option maxRecDepth 100000 in
theorem cw_X3_open : Cond.code yX3_open cX3_open 3 (none) ∈ lw_G := mG 748 rfl rfl
theorem iw_RX3 : Cond.initialized RX3 ∈ lw_G := mG 94 rfl rfl
set_option maxRecDepth 100000 in
theorem nw_X3_open : Cond.instanceMethod yX3_open ∈ lw_G := mG 746 rfl rfl
set_option maxRecDepth 100000 in
theorem lw_X3_open : Cond.selects RX3 yX3_open yX3_open ∈ lw_G := mG 747 rfl rfl
set_option maxRecDepth 100000 in
theorem ck_RX9_254 : CkV RX9 254 yX3_open cX3_open 3 (none) 0 := ⟨(mG 745 rfl rfl), nw_X3_open, lw_X3_open, iw_RX3, cw_X3_open, ⟨by decide +kernel, by decide +kernel, by decide +kernel⟩⟩
set_option maxRecDepth 100000 in
theorem cw_X3_openedBy : Cond.code yX3_openedBy cX3_openedBy 4 (some .int) ∈ lw_G := mG 752 rfl rfl
set_option maxRecDepth 100000 in
theorem nw_X3_openedBy : Cond.instanceMethod yX3_openedBy ∈ lw_G := mG 751 rfl rfl
theorem lw_X3_openedBy : Cond.selects RX3 yX3_openedBy yX3_openedBy ∈ lw_G := mG 38 rfl rfl
set_option maxRecDepth 100000 in
theorem ck_RX3_26 : CkV RX3 26 yX3_openedBy cX3_openedBy 4 (some .int) 1 := ⟨(mG 749 rfl rfl), nw_X3_openedBy, lw_X3_openedBy, iw_RX3, cw_X3_openedBy, ⟨by decide +kernel, by decide +kernel, by decide +kernel⟩⟩
set_option maxRecDepth 100000 in
theorem cw_X3_openedFrom : Cond.code yX3_openedFrom cX3_openedFrom 4 (some .int) ∈ lw_G := mG 756 rfl rfl
set_option maxRecDepth 100000 in
theorem nw_X3_openedFrom : Cond.instanceMethod yX3_openedFrom ∈ lw_G := mG 755 rfl rfl
theorem lw_X3_openedFrom : Cond.selects RX3 yX3_openedFrom yX3_openedFrom ∈ lw_G := mG 39 rfl rfl
set_option maxRecDepth 100000 in
theorem ck_RX3_30 : CkV RX3 30 yX3_openedFrom cX3_openedFrom 4 (some .int) 1 := ⟨(mG 753 rfl rfl), nw_X3_openedFrom, lw_X3_openedFrom, iw_RX3, cw_X3_openedFrom, ⟨by decide +kernel, by decide +kernel, by decide +kernel⟩⟩
set_option maxRecDepth 100000 in
theorem cw_X9_keys : Cond.code yX9_keys cX9_keys 2 (some .int) ∈ lw_G := mG 760 rfl rfl
set_option maxRecDepth 100000 in
theorem nw_X9_keys : Cond.instanceMethod yX9_keys ∈ lw_G := mG 758 rfl rfl
set_option maxRecDepth 100000 in
theorem lw_X9_keys : Cond.selects RX9 yX9_keys yX9_keys ∈ lw_G := mG 759 rfl rfl
set_option maxRecDepth 100000 in
theorem ck_RL_73 : CkV RL 73 yX9_keys cX9_keys 2 (some .int) 1 := ⟨(mG 757 rfl rfl), nw_X9_keys, lw_X9_keys, iw_RX9, cw_X9_keys, ⟨by decide +kernel, by decide +kernel, by decide +kernel⟩⟩
set_option maxRecDepth 100000 in
theorem cw_X3_key : Cond.code yX3_key cX3_key 5 (some .int) ∈ lw_G := mG 764 rfl rfl
set_option maxRecDepth 100000 in
theorem nw_X3_key : Cond.instanceMethod yX3_key ∈ lw_G := mG 762 rfl rfl
set_option maxRecDepth 100000 in
theorem lw_X3_key : Cond.selects RX3 yX3_key yX3_key ∈ lw_G := mG 763 rfl rfl
set_option maxRecDepth 100000 in
theorem ck_RX9_260 : CkV RX9 260 yX3_key cX3_key 5 (some .int) 0 := ⟨(mG 761 rfl rfl), nw_X3_key, lw_X3_key, iw_RX3, cw_X3_key, ⟨by decide +kernel, by decide +kernel, by decide +kernel⟩⟩
set_option maxRecDepth 100000 in
theorem ck_RX3_33 : CkS RX3 33 yJ6_bitCount_0f7a4 cJ6_bitCount_0f7a4 1 (some .int) 1 := ⟨(mG 765 rfl rfl), sw_J6_bitCount_0f7a4, iw_RJ6, cw_J6_bitCount_0f7a4, ⟨by decide +kernel, by decide +kernel, by decide +kernel⟩⟩
set_option maxRecDepth 100000 in
theorem cw_X3_mostOpened : Cond.code yX3_mostOpened cX3_mostOpened 3 (some .int) ∈ lw_G := mG 769 rfl rfl
set_option maxRecDepth 100000 in
theorem nw_X3_mostOpened : Cond.instanceMethod yX3_mostOpened ∈ lw_G := mG 767 rfl rfl
set_option maxRecDepth 100000 in
theorem lw_X3_mostOpened : Cond.selects RX3 yX3_mostOpened yX3_mostOpened ∈ lw_G := mG 768 rfl rfl
set_option maxRecDepth 100000 in
theorem ck_RX9_263 : CkV RX9 263 yX3_mostOpened cX3_mostOpened 3 (some .int) 0 := ⟨(mG 766 rfl rfl), nw_X3_mostOpened, lw_X3_mostOpened, iw_RX3, cw_X3_mostOpened, ⟨by decide +kernel, by decide +kernel, by decide +kernel⟩⟩
set_option maxRecDepth 100000 in
theorem ck_RX3_38 : CkS RX3 38 yJ9_max_7cf53 cJ9_max_7cf53 2 (some .int) 2 := ⟨(mG 770 rfl rfl), sw_J9_max_7cf53, iw_RJ9, cw_J9_max_7cf53, ⟨by decide +kernel, by decide +kernel, by decide +kernel⟩⟩
set_option maxRecDepth 100000 in
theorem cw_X3_fewest : Cond.code yX3_fewest cX3_fewest 4 (some .int) ∈ lw_G := mG 774 rfl rfl
set_option maxRecDepth 100000 in
theorem nw_X3_fewest : Cond.instanceMethod yX3_fewest ∈ lw_G := mG 772 rfl rfl
set_option maxRecDepth 100000 in
theorem lw_X3_fewest : Cond.selects RX3 yX3_fewest yX3_fewest ∈ lw_G := mG 773 rfl rfl
set_option maxRecDepth 100000 in
theorem ck_RX9_266 : CkV RX9 266 yX3_fewest cX3_fewest 4 (some .int) 0 := ⟨(mG 771 rfl rfl), nw_X3_fewest, lw_X3_fewest, iw_RX3, cw_X3_fewest, ⟨by decide +kernel, by decide +kernel, by decide +kernel⟩⟩
set_option maxRecDepth 100000 in
theorem cw_X9_tells : Cond.code yX9_tells cX9_tells 5 (some .int) ∈ lw_G := mG 778 rfl rfl
set_option maxRecDepth 100000 in
theorem nw_X9_tells : Cond.instanceMethod yX9_tells ∈ lw_G := mG 776 rfl rfl
set_option maxRecDepth 100000 in
theorem lw_X9_tells : Cond.selects RX9 yX9_tells yX9_tells ∈ lw_G := mG 777 rfl rfl
set_option maxRecDepth 100000 in
theorem ck_RL_77 : CkV RL 77 yX9_tells cX9_tells 5 (some .int) 2 := ⟨(mG 775 rfl rfl), nw_X9_tells, lw_X9_tells, iw_RX9, cw_X9_tells, ⟨by decide +kernel, by decide +kernel, by decide +kernel⟩⟩
set_option maxRecDepth 100000 in
theorem cw_X9_isSheet : Cond.code yX9_isSheet cX9_isSheet 1 (some .boolean) ∈ lw_G := mG 781 rfl rfl
set_option maxRecDepth 100000 in
theorem sw_X9_isSheet : Cond.static yX9_isSheet ∈ lw_G := mG 780 rfl rfl
set_option maxRecDepth 100000 in
theorem ck_RX9_276 : CkS RX9 276 yX9_isSheet cX9_isSheet 1 (some .boolean) 1 := ⟨(mG 779 rfl rfl), sw_X9_isSheet, iw_RX9, cw_X9_isSheet, ⟨by decide +kernel, by decide +kernel, by decide +kernel⟩⟩
set_option maxRecDepth 100000 in
theorem cw_X5_isMissing : Cond.code yX5_isMissing cX5_isMissing 1 (some .boolean) ∈ lw_G := mG 785 rfl rfl
theorem iw_RX5 : Cond.initialized RX5 ∈ lw_G := mG 96 rfl rfl
set_option maxRecDepth 100000 in
theorem nw_X5_isMissing : Cond.instanceMethod yX5_isMissing ∈ lw_G := mG 783 rfl rfl
set_option maxRecDepth 100000 in
theorem lw_X5_isMissing : Cond.selects RX5 yX5_isMissing yX5_isMissing ∈ lw_G := mG 784 rfl rfl
set_option maxRecDepth 100000 in
theorem ck_RX9_279 : CkV RX9 279 yX5_isMissing cX5_isMissing 1 (some .boolean) 0 := ⟨(mG 782 rfl rfl), nw_X5_isMissing, lw_X5_isMissing, iw_RX5, cw_X5_isMissing, ⟨by decide +kernel, by decide +kernel, by decide +kernel⟩⟩
set_option maxRecDepth 100000 in
theorem cw_X9_wouldBeSo : Cond.code yX9_wouldBeSo cX9_wouldBeSo 9 (some .int) ∈ lw_G := mG 789 rfl rfl
set_option maxRecDepth 100000 in
theorem nw_X9_wouldBeSo : Cond.instanceMethod yX9_wouldBeSo ∈ lw_G := mG 788 rfl rfl
theorem lw_X9_wouldBeSo : Cond.selects RX9 yX9_wouldBeSo yX9_wouldBeSo ∈ lw_G := mG 40 rfl rfl
set_option maxRecDepth 100000 in
theorem ck_RX9_284 : CkV RX9 284 yX9_wouldBeSo cX9_wouldBeSo 9 (some .int) 3 := ⟨(mG 786 rfl rfl), nw_X9_wouldBeSo, lw_X9_wouldBeSo, iw_RX9, cw_X9_wouldBeSo, ⟨by decide +kernel, by decide +kernel, by decide +kernel⟩⟩
set_option maxRecDepth 100000 in
theorem cw_X9_wearerOf : Cond.code yX9_wearerOf cX9_wearerOf 3 (some .int) ∈ lw_G := mG 793 rfl rfl
set_option maxRecDepth 100000 in
theorem nw_X9_wearerOf : Cond.instanceMethod yX9_wearerOf ∈ lw_G := mG 792 rfl rfl
theorem lw_X9_wearerOf : Cond.selects RX9 yX9_wearerOf yX9_wearerOf ∈ lw_G := mG 41 rfl rfl
set_option maxRecDepth 100000 in
theorem ck_RX9_303 : CkV RX9 303 yX9_wearerOf cX9_wearerOf 3 (some .int) 1 := ⟨(mG 790 rfl rfl), nw_X9_wearerOf, lw_X9_wearerOf, iw_RX9, cw_X9_wearerOf, ⟨by decide +kernel, by decide +kernel, by decide +kernel⟩⟩
set_option maxRecDepth 100000 in
theorem cw_X9_otherwise : Cond.code yX9_otherwise cX9_otherwise 5 (some .int) ∈ lw_G := mG 797 rfl rfl
set_option maxRecDepth 100000 in
theorem nw_X9_otherwise : Cond.instanceMethod yX9_otherwise ∈ lw_G := mG 796 rfl rfl
theorem lw_X9_otherwise : Cond.selects RX9 yX9_otherwise yX9_otherwise ∈ lw_G := mG 42 rfl rfl
set_option maxRecDepth 100000 in
theorem ck_RX9_288 : CkV RX9 288 yX9_otherwise cX9_otherwise 5 (some .int) 2 := ⟨(mG 794 rfl rfl), nw_X9_otherwise, lw_X9_otherwise, iw_RX9, cw_X9_otherwise, ⟨by decide +kernel, by decide +kernel, by decide +kernel⟩⟩
set_option maxRecDepth 100000 in
theorem cw_X9_textsBy : Cond.code yX9_textsBy cX9_textsBy 4 (some .int) ∈ lw_G := mG 801 rfl rfl
set_option maxRecDepth 100000 in
theorem nw_X9_textsBy : Cond.instanceMethod yX9_textsBy ∈ lw_G := mG 800 rfl rfl
theorem lw_X9_textsBy : Cond.selects RX9 yX9_textsBy yX9_textsBy ∈ lw_G := mG 43 rfl rfl
set_option maxRecDepth 100000 in
theorem ck_RX9_292 : CkV RX9 292 yX9_textsBy cX9_textsBy 4 (some .int) 1 := ⟨(mG 798 rfl rfl), nw_X9_textsBy, lw_X9_textsBy, iw_RX9, cw_X9_textsBy, ⟨by decide +kernel, by decide +kernel, by decide +kernel⟩⟩
set_option maxRecDepth 100000 in
theorem cw_X9_waysBy : Cond.code yX9_waysBy cX9_waysBy 7 (some .int) ∈ lw_G := mG 805 rfl rfl
set_option maxRecDepth 100000 in
theorem nw_X9_waysBy : Cond.instanceMethod yX9_waysBy ∈ lw_G := mG 804 rfl rfl
theorem lw_X9_waysBy : Cond.selects RX9 yX9_waysBy yX9_waysBy ∈ lw_G := mG 44 rfl rfl
set_option maxRecDepth 100000 in
theorem ck_RX9_296 : CkV RX9 296 yX9_waysBy cX9_waysBy 7 (some .int) 2 := ⟨(mG 802 rfl rfl), nw_X9_waysBy, lw_X9_waysBy, iw_RX9, cw_X9_waysBy, ⟨by decide +kernel, by decide +kernel, by decide +kernel⟩⟩
set_option maxRecDepth 100000 in
theorem cw_X9_fitCoats : Cond.code yX9_fitCoats cX9_fitCoats 4 (none) ∈ lw_G := mG 809 rfl rfl
set_option maxRecDepth 100000 in
theorem nw_X9_fitCoats : Cond.instanceMethod yX9_fitCoats ∈ lw_G := mG 808 rfl rfl
theorem lw_X9_fitCoats : Cond.selects RX9 yX9_fitCoats yX9_fitCoats ∈ lw_G := mG 45 rfl rfl
set_option maxRecDepth 100000 in
theorem ck_RX9_306 : CkV RX9 306 yX9_fitCoats cX9_fitCoats 4 (none) 1 := ⟨(mG 806 rfl rfl), nw_X9_fitCoats, lw_X9_fitCoats, iw_RX9, cw_X9_fitCoats, ⟨by decide +kernel, by decide +kernel, by decide +kernel⟩⟩
set_option maxRecDepth 100000 in
theorem cw_X8_isAmong : Cond.code yX8_isAmong cX8_isAmong 3 (some .boolean) ∈ lw_G := mG 813 rfl rfl
set_option maxRecDepth 100000 in
theorem nw_X8_isAmong : Cond.instanceMethod yX8_isAmong ∈ lw_G := mG 811 rfl rfl
set_option maxRecDepth 100000 in
theorem lw_X8_isAmong : Cond.selects RX8 yX8_isAmong yX8_isAmong ∈ lw_G := mG 812 rfl rfl
set_option maxRecDepth 100000 in
theorem ck_RX9_310 : CkV RX9 310 yX8_isAmong cX8_isAmong 3 (some .boolean) 1 := ⟨(mG 810 rfl rfl), nw_X8_isAmong, lw_X8_isAmong, iw_RX8, cw_X8_isAmong, ⟨by decide +kernel, by decide +kernel, by decide +kernel⟩⟩
set_option maxRecDepth 100000 in
theorem cw_X8_mark : Cond.code yX8_mark cX8_mark 2 (none) ∈ lw_G := mG 817 rfl rfl
set_option maxRecDepth 100000 in
theorem nw_X8_mark : Cond.instanceMethod yX8_mark ∈ lw_G := mG 815 rfl rfl
set_option maxRecDepth 100000 in
theorem lw_X8_mark : Cond.selects RX8 yX8_mark yX8_mark ∈ lw_G := mG 816 rfl rfl
set_option maxRecDepth 100000 in
theorem ck_RX9_314 : CkV RX9 314 yX8_mark cX8_mark 2 (none) 0 := ⟨(mG 814 rfl rfl), nw_X8_mark, lw_X8_mark, iw_RX8, cw_X8_mark, ⟨by decide +kernel, by decide +kernel, by decide +kernel⟩⟩
set_option maxRecDepth 100000 in
theorem cw_X8_asMarked : Cond.code yX8_asMarked cX8_asMarked 3 (some .int) ∈ lw_G := mG 821 rfl rfl
set_option maxRecDepth 100000 in
theorem nw_X8_asMarked : Cond.instanceMethod yX8_asMarked ∈ lw_G := mG 819 rfl rfl
set_option maxRecDepth 100000 in
theorem lw_X8_asMarked : Cond.selects RX8 yX8_asMarked yX8_asMarked ∈ lw_G := mG 820 rfl rfl
set_option maxRecDepth 100000 in
theorem ck_RX9_317 : CkV RX9 317 yX8_asMarked cX8_asMarked 3 (some .int) 0 := ⟨(mG 818 rfl rfl), nw_X8_asMarked, lw_X8_asMarked, iw_RX8, cw_X8_asMarked, ⟨by decide +kernel, by decide +kernel, by decide +kernel⟩⟩
set_option maxRecDepth 100000 in
theorem cw_X9_film : Cond.code yX9_film cX9_film 4 (some .int) ∈ lw_G := mG 825 rfl rfl
set_option maxRecDepth 100000 in
theorem nw_X9_film : Cond.instanceMethod yX9_film ∈ lw_G := mG 823 rfl rfl
set_option maxRecDepth 100000 in
theorem lw_X9_film : Cond.selects RX9 yX9_film yX9_film ∈ lw_G := mG 824 rfl rfl
set_option maxRecDepth 100000 in
theorem ck_RL_81 : CkV RL 81 yX9_film cX9_film 4 (some .int) 1 := ⟨(mG 822 rfl rfl), nw_X9_film, lw_X9_film, iw_RX9, cw_X9_film, ⟨by decide +kernel, by decide +kernel, by decide +kernel⟩⟩
set_option maxRecDepth 100000 in
theorem cw_X5_become : Cond.code yX5_become cX5_become 4 (none) ∈ lw_G := mG 829 rfl rfl
set_option maxRecDepth 100000 in
theorem nw_X5_become : Cond.instanceMethod yX5_become ∈ lw_G := mG 827 rfl rfl
set_option maxRecDepth 100000 in
theorem lw_X5_become : Cond.selects RX5 yX5_become yX5_become ∈ lw_G := mG 828 rfl rfl
set_option maxRecDepth 100000 in
theorem ck_RX9_320 : CkV RX9 320 yX5_become cX5_become 4 (none) 2 := ⟨(mG 826 rfl rfl), nw_X5_become, lw_X5_become, iw_RX5, cw_X5_become, ⟨by decide +kernel, by decide +kernel, by decide +kernel⟩⟩
set_option maxRecDepth 100000 in
theorem cw_X5_put : Cond.code yX5_put cX5_put 3 (none) ∈ lw_G := mG 833 rfl rfl
set_option maxRecDepth 100000 in
theorem nw_X5_put : Cond.instanceMethod yX5_put ∈ lw_G := mG 831 rfl rfl
set_option maxRecDepth 100000 in
theorem lw_X5_put : Cond.selects RX5 yX5_put yX5_put ∈ lw_G := mG 832 rfl rfl
set_option maxRecDepth 100000 in
theorem ck_RX9_323 : CkV RX9 323 yX5_put cX5_put 3 (none) 2 := ⟨(mG 830 rfl rfl), nw_X5_put, lw_X5_put, iw_RX5, cw_X5_put, ⟨by decide +kernel, by decide +kernel, by decide +kernel⟩⟩
set_option maxRecDepth 100000 in
theorem cw_X9_drawn : Cond.code yX9_drawn cX9_drawn 6 (some .int) ∈ lw_G := mG 837 rfl rfl
set_option maxRecDepth 100000 in
theorem nw_X9_drawn : Cond.instanceMethod yX9_drawn ∈ lw_G := mG 835 rfl rfl
set_option maxRecDepth 100000 in
theorem lw_X9_drawn : Cond.selects RX9 yX9_drawn yX9_drawn ∈ lw_G := mG 836 rfl rfl
set_option maxRecDepth 100000 in
theorem ck_RL_85 : CkV RL 85 yX9_drawn cX9_drawn 6 (some .int) 2 := ⟨(mG 834 rfl rfl), nw_X9_drawn, lw_X9_drawn, iw_RX9, cw_X9_drawn, ⟨by decide +kernel, by decide +kernel, by decide +kernel⟩⟩
set_option maxRecDepth 100000 in
theorem cw_X3_draw : Cond.code yX3_draw cX3_draw 4 (none) ∈ lw_G := mG 841 rfl rfl
set_option maxRecDepth 100000 in
theorem nw_X3_draw : Cond.instanceMethod yX3_draw ∈ lw_G := mG 839 rfl rfl
set_option maxRecDepth 100000 in
theorem lw_X3_draw : Cond.selects RX3 yX3_draw yX3_draw ∈ lw_G := mG 840 rfl rfl
set_option maxRecDepth 100000 in
theorem ck_RX9_326 : CkV RX9 326 yX3_draw cX3_draw 4 (none) 1 := ⟨(mG 838 rfl rfl), nw_X3_draw, lw_X3_draw, iw_RX3, cw_X3_draw, ⟨by decide +kernel, by decide +kernel, by decide +kernel⟩⟩
set_option maxRecDepth 100000 in
theorem cw_X9_chance : Cond.code yX9_chance cX9_chance 6 (some .long) ∈ lw_G := mG 846 rfl rfl
set_option maxRecDepth 100000 in
theorem nw_X9_chance : Cond.instanceMethod yX9_chance ∈ lw_G := mG 844 rfl rfl
set_option maxRecDepth 100000 in
theorem lw_X9_chance : Cond.selects RX9 yX9_chance yX9_chance ∈ lw_G := mG 845 rfl rfl
set_option maxRecDepth 100000 in
theorem ck_RL_89 : CkV RL 89 yX9_chance cX9_chance 6 (some .long) 3 := ⟨(mG 843 rfl rfl), nw_X9_chance, lw_X9_chance, iw_RX9, cw_X9_chance, ⟨by decide +kernel, by decide +kernel, by decide +kernel⟩⟩
set_option maxRecDepth 100000 in
theorem cw_X3_areAllFromOne : Cond.code yX3_areAllFromOne cX3_areAllFromOne 1 (some .boolean) ∈ lw_G := mG 851 rfl rfl
set_option maxRecDepth 100000 in
theorem nw_X3_areAllFromOne : Cond.instanceMethod yX3_areAllFromOne ∈ lw_G := mG 849 rfl rfl
set_option maxRecDepth 100000 in
theorem lw_X3_areAllFromOne : Cond.selects RX3 yX3_areAllFromOne yX3_areAllFromOne ∈ lw_G := mG 850 rfl rfl
set_option maxRecDepth 100000 in
theorem ck_RX9_331 : CkV RX9 331 yX3_areAllFromOne cX3_areAllFromOne 1 (some .boolean) 0 := ⟨(mG 848 rfl rfl), nw_X3_areAllFromOne, lw_X3_areAllFromOne, iw_RX3, cw_X3_areAllFromOne, ⟨by decide +kernel, by decide +kernel, by decide +kernel⟩⟩
set_option maxRecDepth 100000 in
theorem ck_RX3_44 : CkV RX3 44 yX3_mostOpened cX3_mostOpened 3 (some .int) 0 := ⟨(mG 852 rfl rfl), nw_X3_mostOpened, lw_X3_mostOpened, iw_RX3, cw_X3_mostOpened, ⟨by decide +kernel, by decide +kernel, by decide +kernel⟩⟩
set_option maxRecDepth 100000 in
theorem cw_X9_commonOf : Cond.code yX9_commonOf cX9_commonOf 3 (some .int) ∈ lw_G := mG 855 rfl rfl
set_option maxRecDepth 100000 in
theorem sw_X9_commonOf : Cond.static yX9_commonOf ∈ lw_G := mG 854 rfl rfl
set_option maxRecDepth 100000 in
theorem ck_RX9_334 : CkS RX9 334 yX9_commonOf cX9_commonOf 3 (some .int) 2 := ⟨(mG 853 rfl rfl), sw_X9_commonOf, iw_RX9, cw_X9_commonOf, ⟨by decide +kernel, by decide +kernel, by decide +kernel⟩⟩
set_option maxRecDepth 100000 in
theorem cw_X9_image : Cond.code yX9_image cX9_image 1 (some .int) ∈ lw_G := mG 859 rfl rfl
set_option maxRecDepth 100000 in
theorem nw_X9_image : Cond.instanceMethod yX9_image ∈ lw_G := mG 857 rfl rfl
set_option maxRecDepth 100000 in
theorem lw_X9_image : Cond.selects RX9 yX9_image yX9_image ∈ lw_G := mG 858 rfl rfl
set_option maxRecDepth 100000 in
theorem ck_RL_94 : CkV RL 94 yX9_image cX9_image 1 (some .int) 0 := ⟨(mG 856 rfl rfl), nw_X9_image, lw_X9_image, iw_RX9, cw_X9_image, ⟨by decide +kernel, by decide +kernel, by decide +kernel⟩⟩
set_option maxRecDepth 100000 in
theorem cw_X1_become : Cond.code yX1_become cX1_become 3 (none) ∈ lw_G := mG 863 rfl rfl
theorem iw_RX1 : Cond.initialized RX1 ∈ lw_G := mG 88 rfl rfl
set_option maxRecDepth 100000 in
theorem nw_X1_become : Cond.instanceMethod yX1_become ∈ lw_G := mG 861 rfl rfl
set_option maxRecDepth 100000 in
theorem lw_X1_become : Cond.selects RX1 yX1_become yX1_become ∈ lw_G := mG 862 rfl rfl
set_option maxRecDepth 100000 in
theorem ck_RX9_337 : CkV RX9 337 yX1_become cX1_become 3 (none) 1 := ⟨(mG 860 rfl rfl), nw_X1_become, lw_X1_become, iw_RX1, cw_X1_become, ⟨by decide +kernel, by decide +kernel, by decide +kernel⟩⟩
set_option maxRecDepth 100000 in
theorem cw_X0_become : Cond.code yX0_become cX0_become 2 (none) ∈ lw_G := mG 867 rfl rfl
theorem iw_RX0 : Cond.initialized RX0 ∈ lw_G := mG 89 rfl rfl
set_option maxRecDepth 100000 in
theorem nw_X0_become : Cond.instanceMethod yX0_become ∈ lw_G := mG 865 rfl rfl
set_option maxRecDepth 100000 in
theorem lw_X0_become : Cond.selects RX0 yX0_become yX0_become ∈ lw_G := mG 866 rfl rfl
set_option maxRecDepth 100000 in
theorem ck_RX1_31 : CkV RX1 31 yX0_become cX0_become 2 (none) 1 := ⟨(mG 864 rfl rfl), nw_X0_become, lw_X0_become, iw_RX0, cw_X0_become, ⟨by decide +kernel, by decide +kernel, by decide +kernel⟩⟩
set_option maxRecDepth 100000 in
theorem cw_X9_back : Cond.code yX9_back cX9_back 1 (some .int) ∈ lw_G := mG 871 rfl rfl
set_option maxRecDepth 100000 in
theorem nw_X9_back : Cond.instanceMethod yX9_back ∈ lw_G := mG 869 rfl rfl
set_option maxRecDepth 100000 in
theorem lw_X9_back : Cond.selects RX9 yX9_back yX9_back ∈ lw_G := mG 870 rfl rfl
set_option maxRecDepth 100000 in
theorem ck_RL_98 : CkV RL 98 yX9_back cX9_back 1 (some .int) 0 := ⟨(mG 868 rfl rfl), nw_X9_back, lw_X9_back, iw_RX9, cw_X9_back, ⟨by decide +kernel, by decide +kernel, by decide +kernel⟩⟩
set_option maxRecDepth 100000 in
theorem cw_X9_count : Cond.code yX9_count cX9_count 2 (some .int) ∈ lw_G := mG 875 rfl rfl
set_option maxRecDepth 100000 in
theorem nw_X9_count : Cond.instanceMethod yX9_count ∈ lw_G := mG 873 rfl rfl
set_option maxRecDepth 100000 in
theorem lw_X9_count : Cond.selects RX9 yX9_count yX9_count ∈ lw_G := mG 874 rfl rfl
set_option maxRecDepth 100000 in
theorem ck_RL_102 : CkV RL 102 yX9_count cX9_count 2 (some .int) 1 := ⟨(mG 872 rfl rfl), nw_X9_count, lw_X9_count, iw_RX9, cw_X9_count, ⟨by decide +kernel, by decide +kernel, by decide +kernel⟩⟩
set_option maxRecDepth 100000 in
theorem cw_X1_warm : Cond.code yX1_warm cX1_warm 3 (some .int) ∈ lw_G := mG 879 rfl rfl
set_option maxRecDepth 100000 in
theorem nw_X1_warm : Cond.instanceMethod yX1_warm ∈ lw_G := mG 877 rfl rfl
set_option maxRecDepth 100000 in
theorem lw_X1_warm : Cond.selects RX1 yX1_warm yX1_warm ∈ lw_G := mG 878 rfl rfl
set_option maxRecDepth 100000 in
theorem ck_RX9_340 : CkV RX9 340 yX1_warm cX1_warm 3 (some .int) 0 := ⟨(mG 876 rfl rfl), nw_X1_warm, lw_X1_warm, iw_RX1, cw_X1_warm, ⟨by decide +kernel, by decide +kernel, by decide +kernel⟩⟩
set_option maxRecDepth 100000 in
theorem cw_X1_boiling : Cond.code yX1_boiling cX1_boiling 3 (some .int) ∈ lw_G := mG 883 rfl rfl
set_option maxRecDepth 100000 in
theorem nw_X1_boiling : Cond.instanceMethod yX1_boiling ∈ lw_G := mG 881 rfl rfl
set_option maxRecDepth 100000 in
theorem lw_X1_boiling : Cond.selects RX1 yX1_boiling yX1_boiling ∈ lw_G := mG 882 rfl rfl
set_option maxRecDepth 100000 in
theorem ck_RX9_343 : CkV RX9 343 yX1_boiling cX1_boiling 3 (some .int) 0 := ⟨(mG 880 rfl rfl), nw_X1_boiling, lw_X1_boiling, iw_RX1, cw_X1_boiling, ⟨by decide +kernel, by decide +kernel, by decide +kernel⟩⟩
set_option maxRecDepth 100000 in
theorem cw_X9_sheet : Cond.code yX9_sheet cX9_sheet 4 (some .int) ∈ lw_G := mG 887 rfl rfl
set_option maxRecDepth 100000 in
theorem nw_X9_sheet : Cond.instanceMethod yX9_sheet ∈ lw_G := mG 885 rfl rfl
set_option maxRecDepth 100000 in
theorem lw_X9_sheet : Cond.selects RX9 yX9_sheet yX9_sheet ∈ lw_G := mG 886 rfl rfl
set_option maxRecDepth 100000 in
theorem ck_RL_106 : CkV RL 106 yX9_sheet cX9_sheet 4 (some .int) 3 := ⟨(mG 884 rfl rfl), nw_X9_sheet, lw_X9_sheet, iw_RX9, cw_X9_sheet, ⟨by decide +kernel, by decide +kernel, by decide +kernel⟩⟩
set_option maxRecDepth 100000 in
theorem cw_X9_isSort : Cond.code yX9_isSort cX9_isSort 1 (some .boolean) ∈ lw_G := mG 890 rfl rfl
set_option maxRecDepth 100000 in
theorem sw_X9_isSort : Cond.static yX9_isSort ∈ lw_G := mG 889 rfl rfl
set_option maxRecDepth 100000 in
theorem ck_RX9_346 : CkS RX9 346 yX9_isSort cX9_isSort 1 (some .boolean) 1 := ⟨(mG 888 rfl rfl), sw_X9_isSort, iw_RX9, cw_X9_isSort, ⟨by decide +kernel, by decide +kernel, by decide +kernel⟩⟩
set_option maxRecDepth 100000 in
theorem cw_X9_cell : Cond.code yX9_cell cX9_cell 5 (some .int) ∈ lw_G := mG 894 rfl rfl
set_option maxRecDepth 100000 in
theorem nw_X9_cell : Cond.instanceMethod yX9_cell ∈ lw_G := mG 892 rfl rfl
set_option maxRecDepth 100000 in
theorem lw_X9_cell : Cond.selects RX9 yX9_cell yX9_cell ∈ lw_G := mG 893 rfl rfl
set_option maxRecDepth 100000 in
theorem ck_RL_110 : CkV RL 110 yX9_cell cX9_cell 5 (some .int) 3 := ⟨(mG 891 rfl rfl), nw_X9_cell, lw_X9_cell, iw_RX9, cw_X9_cell, ⟨by decide +kernel, by decide +kernel, by decide +kernel⟩⟩
set_option maxRecDepth 100000 in
theorem cw_X9_copy : Cond.code yX9_copy cX9_copy 8 (some .int) ∈ lw_G := mG 898 rfl rfl
set_option maxRecDepth 100000 in
theorem nw_X9_copy : Cond.instanceMethod yX9_copy ∈ lw_G := mG 896 rfl rfl
set_option maxRecDepth 100000 in
theorem lw_X9_copy : Cond.selects RX9 yX9_copy yX9_copy ∈ lw_G := mG 897 rfl rfl
set_option maxRecDepth 100000 in
theorem ck_RL_114 : CkV RL 114 yX9_copy cX9_copy 8 (some .int) 5 := ⟨(mG 895 rfl rfl), nw_X9_copy, lw_X9_copy, iw_RX9, cw_X9_copy, ⟨by decide +kernel, by decide +kernel, by decide +kernel⟩⟩
set_option maxRecDepth 100000 in
theorem cw_X5_has : Cond.code yX5_has cX5_has 3 (some .boolean) ∈ lw_G := mG 902 rfl rfl
set_option maxRecDepth 100000 in
theorem nw_X5_has : Cond.instanceMethod yX5_has ∈ lw_G := mG 900 rfl rfl
set_option maxRecDepth 100000 in
theorem lw_X5_has : Cond.selects RX5 yX5_has yX5_has ∈ lw_G := mG 901 rfl rfl
set_option maxRecDepth 100000 in
theorem ck_RX9_352 : CkV RX9 352 yX5_has cX5_has 3 (some .boolean) 2 := ⟨(mG 899 rfl rfl), nw_X5_has, lw_X5_has, iw_RX5, cw_X5_has, ⟨by decide +kernel, by decide +kernel, by decide +kernel⟩⟩
set_option maxRecDepth 100000 in
theorem cw_X9_grooms : Cond.code yX9_grooms cX9_grooms 9 (some .int) ∈ lw_G := mG 909 rfl rfl
set_option maxRecDepth 100000 in
theorem nw_X9_grooms : Cond.instanceMethod yX9_grooms ∈ lw_G := mG 907 rfl rfl
set_option maxRecDepth 100000 in
theorem lw_X9_grooms : Cond.selects RX9 yX9_grooms yX9_grooms ∈ lw_G := mG 908 rfl rfl
set_option maxRecDepth 100000 in
theorem ck_RL_119 : CkV RL 119 yX9_grooms cX9_grooms 9 (some .int) 4 := ⟨(mG 906 rfl rfl), nw_X9_grooms, lw_X9_grooms, iw_RX9, cw_X9_grooms, ⟨by decide +kernel, by decide +kernel, by decide +kernel⟩⟩
set_option maxRecDepth 100000 in
theorem ck_RX9_360 : CkV RX9 360 yX9_groom cX9_groom 5 (some .int) 3 := ⟨(mG 910 rfl rfl), nw_X9_groom, lw_X9_groom, iw_RX9, cw_X9_groom, ⟨by decide +kernel, by decide +kernel, by decide +kernel⟩⟩
set_option maxRecDepth 100000 in
theorem cw_X9_taken : Cond.code yX9_taken cX9_taken 3 (some .int) ∈ lw_G := mG 914 rfl rfl
set_option maxRecDepth 100000 in
theorem nw_X9_taken : Cond.instanceMethod yX9_taken ∈ lw_G := mG 912 rfl rfl
set_option maxRecDepth 100000 in
theorem lw_X9_taken : Cond.selects RX9 yX9_taken yX9_taken ∈ lw_G := mG 913 rfl rfl
set_option maxRecDepth 100000 in
theorem ck_RL_124 : CkV RL 124 yX9_taken cX9_taken 3 (some .int) 2 := ⟨(mG 911 rfl rfl), nw_X9_taken, lw_X9_taken, iw_RX9, cw_X9_taken, ⟨by decide +kernel, by decide +kernel, by decide +kernel⟩⟩
set_option maxRecDepth 100000 in
theorem cw_X9_isUnder : Cond.code yX9_isUnder cX9_isUnder 4 (some .boolean) ∈ lw_G := mG 917 rfl rfl
set_option maxRecDepth 100000 in
theorem sw_X9_isUnder : Cond.static yX9_isUnder ∈ lw_G := mG 916 rfl rfl
set_option maxRecDepth 100000 in
theorem ck_RX9_364 : CkS RX9 364 yX9_isUnder cX9_isUnder 4 (some .boolean) 2 := ⟨(mG 915 rfl rfl), sw_X9_isUnder, iw_RX9, cw_X9_isUnder, ⟨by decide +kernel, by decide +kernel, by decide +kernel⟩⟩
set_option maxRecDepth 100000 in
theorem cw_X10_spell : Cond.code yX10_spell cX10_spell 10 (none) ∈ lw_G := mG 929 rfl rfl
theorem iw_RX10 : Cond.initialized RX10 ∈ lw_G := mG 102 rfl rfl
set_option maxRecDepth 100000 in
theorem nw_X10_spell : Cond.instanceMethod yX10_spell ∈ lw_G := mG 928 rfl rfl
theorem lw_X10_spell : Cond.selects RX10 yX10_spell yX10_spell ∈ lw_G := mG 46 rfl rfl
set_option maxRecDepth 100000 in
theorem ck_RX10_69 : CkV RX10 69 yX10_spell cX10_spell 10 (none) 9 := ⟨(mG 926 rfl rfl), nw_X10_spell, lw_X10_spell, iw_RX10, cw_X10_spell, ⟨by decide +kernel, by decide +kernel, by decide +kernel⟩⟩
set_option maxRecDepth 100000 in
theorem cw_X10_set : Cond.code yX10_set cX10_set 5 (some .int) ∈ lw_G := mG 1084 rfl rfl
set_option maxRecDepth 100000 in
theorem nw_X10_set : Cond.instanceMethod yX10_set ∈ lw_G := mG 1082 rfl rfl
set_option maxRecDepth 100000 in
theorem lw_X10_set : Cond.selects RX10 yX10_set yX10_set ∈ lw_G := mG 1083 rfl rfl
set_option maxRecDepth 100000 in
theorem ck_RL_17 : CkV RL 17 yX10_set cX10_set 5 (some .int) 3 := ⟨(mG 1081 rfl rfl), nw_X10_set, lw_X10_set, iw_RX10, cw_X10_set, ⟨by decide +kernel, by decide +kernel, by decide +kernel⟩⟩
set_option maxRecDepth 100000 in
theorem cw_X10_in : Cond.code yX10_in cX10_in 6 (some .boolean) ∈ lw_G := mG 1088 rfl rfl
set_option maxRecDepth 100000 in
theorem sw_X10_in : Cond.static yX10_in ∈ lw_G := mG 1087 rfl rfl
set_option maxRecDepth 100000 in
theorem ck_RX10_79 : CkS RX10 79 yX10_in cX10_in 6 (some .boolean) 3 := ⟨(mG 1086 rfl rfl), sw_X10_in, iw_RX10, cw_X10_in, ⟨by decide +kernel, by decide +kernel, by decide +kernel⟩⟩
set_option maxRecDepth 100000 in
theorem cw_X10_isOne : Cond.code yX10_isOne cX10_isOne 2 (some .boolean) ∈ lw_G := mG 1092 rfl rfl
set_option maxRecDepth 100000 in
theorem nw_X10_isOne : Cond.instanceMethod yX10_isOne ∈ lw_G := mG 1091 rfl rfl
theorem lw_X10_isOne : Cond.selects RX10 yX10_isOne yX10_isOne ∈ lw_G := mG 47 rfl rfl
set_option maxRecDepth 100000 in
theorem ck_RX10_85 : CkV RX10 85 yX10_isOne cX10_isOne 2 (some .boolean) 1 := ⟨(mG 1089 rfl rfl), nw_X10_isOne, lw_X10_isOne, iw_RX10, cw_X10_isOne, ⟨by decide +kernel, by decide +kernel, by decide +kernel⟩⟩
set_option maxRecDepth 100000 in
theorem cw_X10_mostOf : Cond.code yX10_mostOf cX10_mostOf 1 (some .int) ∈ lw_G := mG 1095 rfl rfl
set_option maxRecDepth 100000 in
theorem sw_X10_mostOf : Cond.static yX10_mostOf ∈ lw_G := mG 1094 rfl rfl
set_option maxRecDepth 100000 in
theorem ck_RX10_89 : CkS RX10 89 yX10_mostOf cX10_mostOf 1 (some .int) 1 := ⟨(mG 1093 rfl rfl), sw_X10_mostOf, iw_RX10, cw_X10_mostOf, ⟨by decide +kernel, by decide +kernel, by decide +kernel⟩⟩
set_option maxRecDepth 100000 in
theorem cw_X10_told : Cond.code yX10_told cX10_told 4 (some .int) ∈ lw_G := mG 1099 rfl rfl
set_option maxRecDepth 100000 in
theorem nw_X10_told : Cond.instanceMethod yX10_told ∈ lw_G := mG 1097 rfl rfl
set_option maxRecDepth 100000 in
theorem lw_X10_told : Cond.selects RX10 yX10_told yX10_told ∈ lw_G := mG 1098 rfl rfl
set_option maxRecDepth 100000 in
theorem ck_RX10_93 : CkV RX10 93 yX10_told cX10_told 4 (some .int) 2 := ⟨(mG 1096 rfl rfl), nw_X10_told, lw_X10_told, iw_RX10, cw_X10_told, ⟨by decide +kernel, by decide +kernel, by decide +kernel⟩⟩
set_option maxRecDepth 100000 in
theorem cw_X10_thingOf : Cond.code yX10_thingOf cX10_thingOf 2 (some .int) ∈ lw_G := mG 1104 rfl rfl
set_option maxRecDepth 100000 in
theorem nw_X10_thingOf : Cond.instanceMethod yX10_thingOf ∈ lw_G := mG 1103 rfl rfl
theorem lw_X10_thingOf : Cond.selects RX10 yX10_thingOf yX10_thingOf ∈ lw_G := mG 48 rfl rfl
set_option maxRecDepth 100000 in
theorem ck_RX10_119 : CkV RX10 119 yX10_thingOf cX10_thingOf 2 (some .int) 1 := ⟨(mG 1101 rfl rfl), nw_X10_thingOf, lw_X10_thingOf, iw_RX10, cw_X10_thingOf, ⟨by decide +kernel, by decide +kernel, by decide +kernel⟩⟩
set_option maxRecDepth 100000 in
theorem cw_X10_heatsOf : Cond.code yX10_heatsOf cX10_heatsOf 7 (some .int) ∈ lw_G := mG 1108 rfl rfl
set_option maxRecDepth 100000 in
theorem nw_X10_heatsOf : Cond.instanceMethod yX10_heatsOf ∈ lw_G := mG 1107 rfl rfl
theorem lw_X10_heatsOf : Cond.selects RX10 yX10_heatsOf yX10_heatsOf ∈ lw_G := mG 49 rfl rfl
set_option maxRecDepth 100000 in
theorem ck_RX10_122 : CkV RX10 122 yX10_heatsOf cX10_heatsOf 7 (some .int) 3 := ⟨(mG 1105 rfl rfl), nw_X10_heatsOf, lw_X10_heatsOf, iw_RX10, cw_X10_heatsOf, ⟨by decide +kernel, by decide +kernel, by decide +kernel⟩⟩
set_option maxRecDepth 100000 in
theorem cw_X10_says : Cond.code yX10_says cX10_says 5 (some .int) ∈ lw_G := mG 1112 rfl rfl
set_option maxRecDepth 100000 in
theorem nw_X10_says : Cond.instanceMethod yX10_says ∈ lw_G := mG 1111 rfl rfl
theorem lw_X10_says : Cond.selects RX10 yX10_says yX10_says ∈ lw_G := mG 50 rfl rfl
set_option maxRecDepth 100000 in
theorem ck_RX10_252 : CkV RX10 252 yX10_says cX10_says 5 (some .int) 4 := ⟨(mG 1109 rfl rfl), nw_X10_says, lw_X10_says, iw_RX10, cw_X10_says, ⟨by decide +kernel, by decide +kernel, by decide +kernel⟩⟩
set_option maxRecDepth 100000 in
theorem cw_X10_read : Cond.code yX10_read cX10_read 6 (some .int) ∈ lw_G := mG 1116 rfl rfl
set_option maxRecDepth 100000 in
theorem nw_X10_read : Cond.instanceMethod yX10_read ∈ lw_G := mG 1115 rfl rfl
theorem lw_X10_read : Cond.selects RX10 yX10_read yX10_read ∈ lw_G := mG 51 rfl rfl
set_option maxRecDepth 100000 in
theorem ck_RX10_246 : CkV RX10 246 yX10_read cX10_read 6 (some .int) 2 := ⟨(mG 1113 rfl rfl), nw_X10_read, lw_X10_read, iw_RX10, cw_X10_read, ⟨by decide +kernel, by decide +kernel, by decide +kernel⟩⟩
set_option maxRecDepth 100000 in
theorem cw_X10_next : Cond.code yX10_next cX10_next 3 (none) ∈ lw_G := mG 1120 rfl rfl
set_option maxRecDepth 100000 in
theorem nw_X10_next : Cond.instanceMethod yX10_next ∈ lw_G := mG 1119 rfl rfl
theorem lw_X10_next : Cond.selects RX10 yX10_next yX10_next ∈ lw_G := mG 52 rfl rfl
set_option maxRecDepth 100000 in
theorem ck_RX10_184 : CkV RX10 184 yX10_next cX10_next 3 (none) 0 := ⟨(mG 1117 rfl rfl), nw_X10_next, lw_X10_next, iw_RX10, cw_X10_next, ⟨by decide +kernel, by decide +kernel, by decide +kernel⟩⟩
set_option maxRecDepth 100000 in
theorem cw_X10_byteAt : Cond.code yX10_byteAt cX10_byteAt 2 (some .int) ∈ lw_G := mG 1124 rfl rfl
set_option maxRecDepth 100000 in
theorem nw_X10_byteAt : Cond.instanceMethod yX10_byteAt ∈ lw_G := mG 1123 rfl rfl
theorem lw_X10_byteAt : Cond.selects RX10 yX10_byteAt yX10_byteAt ∈ lw_G := mG 53 rfl rfl
set_option maxRecDepth 100000 in
theorem ck_RX10_146 : CkV RX10 146 yX10_byteAt cX10_byteAt 2 (some .int) 1 := ⟨(mG 1121 rfl rfl), nw_X10_byteAt, lw_X10_byteAt, iw_RX10, cw_X10_byteAt, ⟨by decide +kernel, by decide +kernel, by decide +kernel⟩⟩
set_option maxRecDepth 100000 in
theorem cw_X10_isWord : Cond.code yX10_isWord cX10_isWord 9 (some .boolean) ∈ lw_G := mG 1132 rfl rfl
set_option maxRecDepth 100000 in
theorem nw_X10_isWord : Cond.instanceMethod yX10_isWord ∈ lw_G := mG 1131 rfl rfl
theorem lw_X10_isWord : Cond.selects RX10 yX10_isWord yX10_isWord ∈ lw_G := mG 54 rfl rfl
set_option maxRecDepth 100000 in
theorem ck_RX10_187 : CkV RX10 187 yX10_isWord cX10_isWord 9 (some .boolean) 8 := ⟨(mG 1129 rfl rfl), nw_X10_isWord, lw_X10_isWord, iw_RX10, cw_X10_isWord, ⟨by decide +kernel, by decide +kernel, by decide +kernel⟩⟩
set_option maxRecDepth 100000 in
theorem cw_X10_isLetter : Cond.code yX10_isLetter cX10_isLetter 3 (some .boolean) ∈ lw_G := mG 1136 rfl rfl
set_option maxRecDepth 100000 in
theorem nw_X10_isLetter : Cond.instanceMethod yX10_isLetter ∈ lw_G := mG 1135 rfl rfl
theorem lw_X10_isLetter : Cond.selects RX10 yX10_isLetter yX10_isLetter ∈ lw_G := mG 55 rfl rfl
set_option maxRecDepth 100000 in
theorem ck_RX10_174 : CkV RX10 174 yX10_isLetter cX10_isLetter 3 (some .boolean) 2 := ⟨(mG 1133 rfl rfl), nw_X10_isLetter, lw_X10_isLetter, iw_RX10, cw_X10_isLetter, ⟨by decide +kernel, by decide +kernel, by decide +kernel⟩⟩
set_option maxRecDepth 100000 in
theorem cw_X10_part : Cond.code yX10_part cX10_part 3 (some .int) ∈ lw_G := mG 1140 rfl rfl
set_option maxRecDepth 100000 in
theorem nw_X10_part : Cond.instanceMethod yX10_part ∈ lw_G := mG 1139 rfl rfl
theorem lw_X10_part : Cond.selects RX10 yX10_part yX10_part ∈ lw_G := mG 56 rfl rfl
set_option maxRecDepth 100000 in
theorem ck_RX10_242 : CkV RX10 242 yX10_part cX10_part 3 (some .int) 1 := ⟨(mG 1137 rfl rfl), nw_X10_part, lw_X10_part, iw_RX10, cw_X10_part, ⟨by decide +kernel, by decide +kernel, by decide +kernel⟩⟩
set_option maxRecDepth 100000 in
theorem cw_X10_fail : Cond.code yX10_fail cX10_fail 1 (none) ∈ lw_G := mG 1144 rfl rfl
set_option maxRecDepth 100000 in
theorem nw_X10_fail : Cond.instanceMethod yX10_fail ∈ lw_G := mG 1143 rfl rfl
theorem lw_X10_fail : Cond.selects RX10 yX10_fail yX10_fail ∈ lw_G := mG 57 rfl rfl
set_option maxRecDepth 100000 in
theorem ck_RX10_181 : CkV RX10 181 yX10_fail cX10_fail 1 (none) 0 := ⟨(mG 1141 rfl rfl), nw_X10_fail, lw_X10_fail, iw_RX10, cw_X10_fail, ⟨by decide +kernel, by decide +kernel, by decide +kernel⟩⟩
set_option maxRecDepth 100000 in
theorem cw_X10_either : Cond.code yX10_either cX10_either 3 (some .int) ∈ lw_G := mG 1148 rfl rfl
set_option maxRecDepth 100000 in
theorem nw_X10_either : Cond.instanceMethod yX10_either ∈ lw_G := mG 1147 rfl rfl
theorem lw_X10_either : Cond.selects RX10 yX10_either yX10_either ∈ lw_G := mG 58 rfl rfl
set_option maxRecDepth 100000 in
theorem ck_RX10_220 : CkV RX10 220 yX10_either cX10_either 3 (some .int) 0 := ⟨(mG 1145 rfl rfl), nw_X10_either, lw_X10_either, iw_RX10, cw_X10_either, ⟨by decide +kernel, by decide +kernel, by decide +kernel⟩⟩
set_option maxRecDepth 100000 in
theorem cw_X10_both : Cond.code yX10_both cX10_both 3 (some .int) ∈ lw_G := mG 1152 rfl rfl
set_option maxRecDepth 100000 in
theorem nw_X10_both : Cond.instanceMethod yX10_both ∈ lw_G := mG 1151 rfl rfl
theorem lw_X10_both : Cond.selects RX10 yX10_both yX10_both ∈ lw_G := mG 59 rfl rfl
set_option maxRecDepth 100000 in
theorem ck_RX10_239 : CkV RX10 239 yX10_both cX10_both 3 (some .int) 0 := ⟨(mG 1149 rfl rfl), nw_X10_both, lw_X10_both, iw_RX10, cw_X10_both, ⟨by decide +kernel, by decide +kernel, by decide +kernel⟩⟩
set_option maxRecDepth 100000 in
theorem cw_X10_not : Cond.code yX10_not cX10_not 4 (some .int) ∈ lw_G := mG 1156 rfl rfl
set_option maxRecDepth 100000 in
theorem nw_X10_not : Cond.instanceMethod yX10_not ∈ lw_G := mG 1155 rfl rfl
theorem lw_X10_not : Cond.selects RX10 yX10_not yX10_not ∈ lw_G := mG 60 rfl rfl
set_option maxRecDepth 100000 in
theorem ck_RX10_231 : CkV RX10 231 yX10_not cX10_not 4 (some .int) 0 := ⟨(mG 1153 rfl rfl), nw_X10_not, lw_X10_not, iw_RX10, cw_X10_not, ⟨by decide +kernel, by decide +kernel, by decide +kernel⟩⟩
set_option maxRecDepth 100000 in
theorem cw_X10_opens : Cond.code yX10_opens cX10_opens 1 (some .boolean) ∈ lw_G := mG 1160 rfl rfl
set_option maxRecDepth 100000 in
theorem nw_X10_opens : Cond.instanceMethod yX10_opens ∈ lw_G := mG 1159 rfl rfl
theorem lw_X10_opens : Cond.selects RX10 yX10_opens yX10_opens ∈ lw_G := mG 61 rfl rfl
set_option maxRecDepth 100000 in
theorem ck_RX10_212 : CkV RX10 212 yX10_opens cX10_opens 1 (some .boolean) 0 := ⟨(mG 1157 rfl rfl), nw_X10_opens, lw_X10_opens, iw_RX10, cw_X10_opens, ⟨by decide +kernel, by decide +kernel, by decide +kernel⟩⟩
set_option maxRecDepth 100000 in
theorem cw_X10_added : Cond.code yX10_added cX10_added 4 (some .int) ∈ lw_G := mG 1164 rfl rfl
set_option maxRecDepth 100000 in
theorem nw_X10_added : Cond.instanceMethod yX10_added ∈ lw_G := mG 1163 rfl rfl
theorem lw_X10_added : Cond.selects RX10 yX10_added yX10_added ∈ lw_G := mG 62 rfl rfl
set_option maxRecDepth 100000 in
theorem ck_RX10_234 : CkV RX10 234 yX10_added cX10_added 4 (some .int) 0 := ⟨(mG 1161 rfl rfl), nw_X10_added, lw_X10_added, iw_RX10, cw_X10_added, ⟨by decide +kernel, by decide +kernel, by decide +kernel⟩⟩
set_option maxRecDepth 100000 in
theorem cw_X10_term : Cond.code yX10_term cX10_term 2 (some .int) ∈ lw_G := mG 1168 rfl rfl
set_option maxRecDepth 100000 in
theorem nw_X10_term : Cond.instanceMethod yX10_term ∈ lw_G := mG 1167 rfl rfl
theorem lw_X10_term : Cond.selects RX10 yX10_term yX10_term ∈ lw_G := mG 63 rfl rfl
set_option maxRecDepth 100000 in
theorem ck_RX10_226 : CkV RX10 226 yX10_term cX10_term 2 (some .int) 0 := ⟨(mG 1165 rfl rfl), nw_X10_term, lw_X10_term, iw_RX10, cw_X10_term, ⟨by decide +kernel, by decide +kernel, by decide +kernel⟩⟩
set_option maxRecDepth 100000 in
theorem cw_X10_atom : Cond.code yX10_atom cX10_atom 2 (some .int) ∈ lw_G := mG 1172 rfl rfl
set_option maxRecDepth 100000 in
theorem nw_X10_atom : Cond.instanceMethod yX10_atom ∈ lw_G := mG 1171 rfl rfl
theorem lw_X10_atom : Cond.selects RX10 yX10_atom yX10_atom ∈ lw_G := mG 64 rfl rfl
set_option maxRecDepth 100000 in
theorem ck_RX10_216 : CkV RX10 216 yX10_atom cX10_atom 2 (some .int) 0 := ⟨(mG 1169 rfl rfl), nw_X10_atom, lw_X10_atom, iw_RX10, cw_X10_atom, ⟨by decide +kernel, by decide +kernel, by decide +kernel⟩⟩
set_option maxRecDepth 100000 in
theorem cw_X10_isSign : Cond.code yX10_isSign cX10_isSign 2 (some .boolean) ∈ lw_G := mG 1176 rfl rfl
set_option maxRecDepth 100000 in
theorem nw_X10_isSign : Cond.instanceMethod yX10_isSign ∈ lw_G := mG 1175 rfl rfl
theorem lw_X10_isSign : Cond.selects RX10 yX10_isSign yX10_isSign ∈ lw_G := mG 65 rfl rfl
set_option maxRecDepth 100000 in
theorem ck_RX10_209 : CkV RX10 209 yX10_isSign cX10_isSign 2 (some .boolean) 1 := ⟨(mG 1173 rfl rfl), nw_X10_isSign, lw_X10_isSign, iw_RX10, cw_X10_isSign, ⟨by decide +kernel, by decide +kernel, by decide +kernel⟩⟩
set_option maxRecDepth 100000 in
theorem cw_X10_name : Cond.code yX10_name cX10_name 1 (some .int) ∈ lw_G := mG 1180 rfl rfl
set_option maxRecDepth 100000 in
theorem nw_X10_name : Cond.instanceMethod yX10_name ∈ lw_G := mG 1179 rfl rfl
theorem lw_X10_name : Cond.selects RX10 yX10_name yX10_name ∈ lw_G := mG 66 rfl rfl
set_option maxRecDepth 100000 in
theorem ck_RX10_223 : CkV RX10 223 yX10_name cX10_name 1 (some .int) 0 := ⟨(mG 1177 rfl rfl), nw_X10_name, lw_X10_name, iw_RX10, cw_X10_name, ⟨by decide +kernel, by decide +kernel, by decide +kernel⟩⟩
set_option maxRecDepth 100000 in
theorem cw_X10_within : Cond.code yX10_within cX10_within 3 (some .int) ∈ lw_G := mG 1185 rfl rfl
set_option maxRecDepth 100000 in
theorem sw_X10_within : Cond.static yX10_within ∈ lw_G := mG 1184 rfl rfl
set_option maxRecDepth 100000 in
theorem ck_RX10_249 : CkS RX10 249 yX10_within cX10_within 3 (some .int) 3 := ⟨(mG 1183 rfl rfl), sw_X10_within, iw_RX10, cw_X10_within, ⟨by decide +kernel, by decide +kernel, by decide +kernel⟩⟩
set_option maxRecDepth 100000 in
theorem cw_X10_calmsOf : Cond.code yX10_calmsOf cX10_calmsOf 9 (some .int) ∈ lw_G := mG 1189 rfl rfl
set_option maxRecDepth 100000 in
theorem nw_X10_calmsOf : Cond.instanceMethod yX10_calmsOf ∈ lw_G := mG 1188 rfl rfl
theorem lw_X10_calmsOf : Cond.selects RX10 yX10_calmsOf yX10_calmsOf ∈ lw_G := mG 67 rfl rfl
set_option maxRecDepth 100000 in
theorem ck_RX10_126 : CkV RX10 126 yX10_calmsOf cX10_calmsOf 9 (some .int) 3 := ⟨(mG 1186 rfl rfl), nw_X10_calmsOf, lw_X10_calmsOf, iw_RX10, cw_X10_calmsOf, ⟨by decide +kernel, by decide +kernel, by decide +kernel⟩⟩
set_option maxRecDepth 100000 in
theorem cw_X10_feelsOf : Cond.code yX10_feelsOf cX10_feelsOf 6 (some .int) ∈ lw_G := mG 1193 rfl rfl
set_option maxRecDepth 100000 in
theorem nw_X10_feelsOf : Cond.instanceMethod yX10_feelsOf ∈ lw_G := mG 1192 rfl rfl
theorem lw_X10_feelsOf : Cond.selects RX10 yX10_feelsOf yX10_feelsOf ∈ lw_G := mG 68 rfl rfl
set_option maxRecDepth 100000 in
theorem ck_RX10_129 : CkV RX10 129 yX10_feelsOf cX10_feelsOf 6 (some .int) 2 := ⟨(mG 1190 rfl rfl), nw_X10_feelsOf, lw_X10_feelsOf, iw_RX10, cw_X10_feelsOf, ⟨by decide +kernel, by decide +kernel, by decide +kernel⟩⟩
set_option maxRecDepth 100000 in
theorem cw_X10_lays : Cond.code yX10_lays cX10_lays 4 (none) ∈ lw_G := mG 1197 rfl rfl
set_option maxRecDepth 100000 in
theorem nw_X10_lays : Cond.instanceMethod yX10_lays ∈ lw_G := mG 1196 rfl rfl
theorem lw_X10_lays : Cond.selects RX10 yX10_lays yX10_lays ∈ lw_G := mG 69 rfl rfl
set_option maxRecDepth 100000 in
theorem ck_RX10_97 : CkV RX10 97 yX10_lays cX10_lays 4 (none) 3 := ⟨(mG 1194 rfl rfl), nw_X10_lays, lw_X10_lays, iw_RX10, cw_X10_lays, ⟨by decide +kernel, by decide +kernel, by decide +kernel⟩⟩
set_option maxRecDepth 100000 in
theorem cw_X10_groom : Cond.code yX10_groom cX10_groom 4 (some .int) ∈ lw_G := mG 1201 rfl rfl
set_option maxRecDepth 100000 in
theorem nw_X10_groom : Cond.instanceMethod yX10_groom ∈ lw_G := mG 1199 rfl rfl
set_option maxRecDepth 100000 in
theorem lw_X10_groom : Cond.selects RX10 yX10_groom yX10_groom ∈ lw_G := mG 1200 rfl rfl
set_option maxRecDepth 100000 in
theorem ck_RL_21 : CkV RL 21 yX10_groom cX10_groom 4 (some .int) 3 := ⟨(mG 1198 rfl rfl), nw_X10_groom, lw_X10_groom, iw_RX10, cw_X10_groom, ⟨by decide +kernel, by decide +kernel, by decide +kernel⟩⟩
set_option maxRecDepth 100000 in
theorem cw_X10_change : Cond.code yX10_change cX10_change 3 (some .int) ∈ lw_G := mG 1208 rfl rfl
set_option maxRecDepth 100000 in
theorem nw_X10_change : Cond.instanceMethod yX10_change ∈ lw_G := mG 1206 rfl rfl
set_option maxRecDepth 100000 in
theorem lw_X10_change : Cond.selects RX10 yX10_change yX10_change ∈ lw_G := mG 1207 rfl rfl
set_option maxRecDepth 100000 in
theorem ck_RL_26 : CkV RL 26 yX10_change cX10_change 3 (some .int) 2 := ⟨(mG 1205 rfl rfl), nw_X10_change, lw_X10_change, iw_RX10, cw_X10_change, ⟨by decide +kernel, by decide +kernel, by decide +kernel⟩⟩
set_option maxRecDepth 100000 in
theorem cw_X10_swaps : Cond.code yX10_swaps cX10_swaps 4 (none) ∈ lw_G := mG 1212 rfl rfl
set_option maxRecDepth 100000 in
theorem nw_X10_swaps : Cond.instanceMethod yX10_swaps ∈ lw_G := mG 1211 rfl rfl
theorem lw_X10_swaps : Cond.selects RX10 yX10_swaps yX10_swaps ∈ lw_G := mG 70 rfl rfl
set_option maxRecDepth 100000 in
theorem ck_RX10_113 : CkV RX10 113 yX10_swaps cX10_swaps 4 (none) 2 := ⟨(mG 1209 rfl rfl), nw_X10_swaps, lw_X10_swaps, iw_RX10, cw_X10_swaps, ⟨by decide +kernel, by decide +kernel, by decide +kernel⟩⟩
set_option maxRecDepth 100000 in
theorem ck_RL_30 : CkV RL 30 yX10_told cX10_told 4 (some .int) 2 := ⟨(mG 1213 rfl rfl), nw_X10_told, lw_X10_told, iw_RX10, cw_X10_told, ⟨by decide +kernel, by decide +kernel, by decide +kernel⟩⟩
set_option maxRecDepth 100000 in
theorem cw_X10_feed : Cond.code yX10_feed cX10_feed 2 (some .int) ∈ lw_G := mG 1217 rfl rfl
set_option maxRecDepth 100000 in
theorem nw_X10_feed : Cond.instanceMethod yX10_feed ∈ lw_G := mG 1215 rfl rfl
set_option maxRecDepth 100000 in
theorem lw_X10_feed : Cond.selects RX10 yX10_feed yX10_feed ∈ lw_G := mG 1216 rfl rfl
set_option maxRecDepth 100000 in
theorem ck_RL_35 : CkV RL 35 yX10_feed cX10_feed 2 (some .int) 1 := ⟨(mG 1214 rfl rfl), nw_X10_feed, lw_X10_feed, iw_RX10, cw_X10_feed, ⟨by decide +kernel, by decide +kernel, by decide +kernel⟩⟩
set_option maxRecDepth 100000 in
theorem cw_X10_text : Cond.code yX10_text cX10_text 2 (some .int) ∈ lw_G := mG 1222 rfl rfl
set_option maxRecDepth 100000 in
theorem nw_X10_text : Cond.instanceMethod yX10_text ∈ lw_G := mG 1220 rfl rfl
set_option maxRecDepth 100000 in
theorem lw_X10_text : Cond.selects RX10 yX10_text yX10_text ∈ lw_G := mG 1221 rfl rfl
set_option maxRecDepth 100000 in
theorem ck_RL_40 : CkV RL 40 yX10_text cX10_text 2 (some .int) 0 := ⟨(mG 1219 rfl rfl), nw_X10_text, lw_X10_text, iw_RX10, cw_X10_text, ⟨by decide +kernel, by decide +kernel, by decide +kernel⟩⟩
set_option maxRecDepth 100000 in
theorem cw_X10_force : Cond.code yX10_force cX10_force 3 (some .int) ∈ lw_G := mG 1226 rfl rfl
set_option maxRecDepth 100000 in
theorem nw_X10_force : Cond.instanceMethod yX10_force ∈ lw_G := mG 1224 rfl rfl
set_option maxRecDepth 100000 in
theorem lw_X10_force : Cond.selects RX10 yX10_force yX10_force ∈ lw_G := mG 1225 rfl rfl
set_option maxRecDepth 100000 in
theorem ck_RL_44 : CkV RL 44 yX10_force cX10_force 3 (some .int) 1 := ⟨(mG 1223 rfl rfl), nw_X10_force, lw_X10_force, iw_RX10, cw_X10_force, ⟨by decide +kernel, by decide +kernel, by decide +kernel⟩⟩
set_option maxRecDepth 100000 in
theorem cw_X10_day : Cond.code yX10_day cX10_day 3 (some .int) ∈ lw_G := mG 1230 rfl rfl
set_option maxRecDepth 100000 in
theorem nw_X10_day : Cond.instanceMethod yX10_day ∈ lw_G := mG 1228 rfl rfl
set_option maxRecDepth 100000 in
theorem lw_X10_day : Cond.selects RX10 yX10_day yX10_day ∈ lw_G := mG 1229 rfl rfl
set_option maxRecDepth 100000 in
theorem ck_RL_48 : CkV RL 48 yX10_day cX10_day 3 (some .int) 0 := ⟨(mG 1227 rfl rfl), nw_X10_day, lw_X10_day, iw_RX10, cw_X10_day, ⟨by decide +kernel, by decide +kernel, by decide +kernel⟩⟩
set_option maxRecDepth 100000 in
theorem cw_X10_lives : Cond.code yX10_lives cX10_lives 6 (none) ∈ lw_G := mG 1234 rfl rfl
set_option maxRecDepth 100000 in
theorem nw_X10_lives : Cond.instanceMethod yX10_lives ∈ lw_G := mG 1233 rfl rfl
theorem lw_X10_lives : Cond.selects RX10 yX10_lives yX10_lives ∈ lw_G := mG 71 rfl rfl
set_option maxRecDepth 100000 in
theorem ck_RX10_265 : CkV RX10 265 yX10_lives cX10_lives 6 (none) 3 := ⟨(mG 1231 rfl rfl), nw_X10_lives, lw_X10_lives, iw_RX10, cw_X10_lives, ⟨by decide +kernel, by decide +kernel, by decide +kernel⟩⟩
set_option maxRecDepth 100000 in
theorem cw_X10_run : Cond.code yX10_run cX10_run 6 (some .int) ∈ lw_G := mG 1238 rfl rfl
set_option maxRecDepth 100000 in
theorem nw_X10_run : Cond.instanceMethod yX10_run ∈ lw_G := mG 1236 rfl rfl
set_option maxRecDepth 100000 in
theorem lw_X10_run : Cond.selects RX10 yX10_run yX10_run ∈ lw_G := mG 1237 rfl rfl
set_option maxRecDepth 100000 in
theorem ck_RL_52 : CkV RL 52 yX10_run cX10_run 6 (some .int) 2 := ⟨(mG 1235 rfl rfl), nw_X10_run, lw_X10_run, iw_RX10, cw_X10_run, ⟨by decide +kernel, by decide +kernel, by decide +kernel⟩⟩
set_option maxRecDepth 100000 in
theorem cw_X10_rings : Cond.code yX10_rings cX10_rings 5 (some .int) ∈ lw_G := mG 1244 rfl rfl
set_option maxRecDepth 100000 in
theorem nw_X10_rings : Cond.instanceMethod yX10_rings ∈ lw_G := mG 1242 rfl rfl
set_option maxRecDepth 100000 in
theorem lw_X10_rings : Cond.selects RX10 yX10_rings yX10_rings ∈ lw_G := mG 1243 rfl rfl
set_option maxRecDepth 100000 in
theorem ck_RL_56 : CkV RL 56 yX10_rings cX10_rings 5 (some .int) 1 := ⟨(mG 1241 rfl rfl), nw_X10_rings, lw_X10_rings, iw_RX10, cw_X10_rings, ⟨by decide +kernel, by decide +kernel, by decide +kernel⟩⟩
set_option maxRecDepth 100000 in
theorem cw_X10_ringMany : Cond.code yX10_ringMany cX10_ringMany 3 (some .int) ∈ lw_G := mG 1248 rfl rfl
set_option maxRecDepth 100000 in
theorem nw_X10_ringMany : Cond.instanceMethod yX10_ringMany ∈ lw_G := mG 1247 rfl rfl
theorem lw_X10_ringMany : Cond.selects RX10 yX10_ringMany yX10_ringMany ∈ lw_G := mG 72 rfl rfl
set_option maxRecDepth 100000 in
theorem ck_RX10_275 : CkV RX10 275 yX10_ringMany cX10_ringMany 3 (some .int) 0 := ⟨(mG 1245 rfl rfl), nw_X10_ringMany, lw_X10_ringMany, iw_RX10, cw_X10_ringMany, ⟨by decide +kernel, by decide +kernel, by decide +kernel⟩⟩
set_option maxRecDepth 100000 in
theorem cw_X10_ringOf : Cond.code yX10_ringOf cX10_ringOf 4 (some .int) ∈ lw_G := mG 1252 rfl rfl
set_option maxRecDepth 100000 in
theorem nw_X10_ringOf : Cond.instanceMethod yX10_ringOf ∈ lw_G := mG 1251 rfl rfl
theorem lw_X10_ringOf : Cond.selects RX10 yX10_ringOf yX10_ringOf ∈ lw_G := mG 73 rfl rfl
set_option maxRecDepth 100000 in
theorem ck_RX10_272 : CkV RX10 272 yX10_ringOf cX10_ringOf 4 (some .int) 1 := ⟨(mG 1249 rfl rfl), nw_X10_ringOf, lw_X10_ringOf, iw_RX10, cw_X10_ringOf, ⟨by decide +kernel, by decide +kernel, by decide +kernel⟩⟩
set_option maxRecDepth 100000 in
theorem cw_X10_firstChange : Cond.code yX10_firstChange cX10_firstChange 3 (some .int) ∈ lw_G := mG 1256 rfl rfl
set_option maxRecDepth 100000 in
theorem nw_X10_firstChange : Cond.instanceMethod yX10_firstChange ∈ lw_G := mG 1255 rfl rfl
theorem lw_X10_firstChange : Cond.selects RX10 yX10_firstChange yX10_firstChange ∈ lw_G := mG 74 rfl rfl
set_option maxRecDepth 100000 in
theorem ck_RX10_278 : CkV RX10 278 yX10_firstChange cX10_firstChange 3 (some .int) 0 := ⟨(mG 1253 rfl rfl), nw_X10_firstChange, lw_X10_firstChange, iw_RX10, cw_X10_firstChange, ⟨by decide +kernel, by decide +kernel, by decide +kernel⟩⟩
set_option maxRecDepth 100000 in
theorem cw_X10_bitsOf : Cond.code yX10_bitsOf cX10_bitsOf 3 (some .int) ∈ lw_G := mG 1259 rfl rfl
set_option maxRecDepth 100000 in
theorem sw_X10_bitsOf : Cond.static yX10_bitsOf ∈ lw_G := mG 1258 rfl rfl
set_option maxRecDepth 100000 in
theorem ck_RX10_281 : CkS RX10 281 yX10_bitsOf cX10_bitsOf 3 (some .int) 1 := ⟨(mG 1257 rfl rfl), sw_X10_bitsOf, iw_RX10, cw_X10_bitsOf, ⟨by decide +kernel, by decide +kernel, by decide +kernel⟩⟩
set_option maxRecDepth 100000 in
theorem cw_X10_ring : Cond.code yX10_ring cX10_ring 2 (some .int) ∈ lw_G := mG 1263 rfl rfl
set_option maxRecDepth 100000 in
theorem nw_X10_ring : Cond.instanceMethod yX10_ring ∈ lw_G := mG 1261 rfl rfl
set_option maxRecDepth 100000 in
theorem lw_X10_ring : Cond.selects RX10 yX10_ring yX10_ring ∈ lw_G := mG 1262 rfl rfl
set_option maxRecDepth 100000 in
theorem ck_RL_60 : CkV RL 60 yX10_ring cX10_ring 2 (some .int) 1 := ⟨(mG 1260 rfl rfl), nw_X10_ring, lw_X10_ring, iw_RX10, cw_X10_ring, ⟨by decide +kernel, by decide +kernel, by decide +kernel⟩⟩
set_option maxRecDepth 100000 in
theorem cw_X10_better : Cond.code yX10_better cX10_better 8 (some .int) ∈ lw_G := mG 1267 rfl rfl
set_option maxRecDepth 100000 in
theorem nw_X10_better : Cond.instanceMethod yX10_better ∈ lw_G := mG 1265 rfl rfl
set_option maxRecDepth 100000 in
theorem lw_X10_better : Cond.selects RX10 yX10_better yX10_better ∈ lw_G := mG 1266 rfl rfl
set_option maxRecDepth 100000 in
theorem ck_RL_64 : CkV RL 64 yX10_better cX10_better 8 (some .int) 2 := ⟨(mG 1264 rfl rfl), nw_X10_better, lw_X10_better, iw_RX10, cw_X10_better, ⟨by decide +kernel, by decide +kernel, by decide +kernel⟩⟩
set_option maxRecDepth 100000 in
theorem cw_X10_tables : Cond.code yX10_tables cX10_tables 4 (none) ∈ lw_G := mG 1271 rfl rfl
set_option maxRecDepth 100000 in
theorem nw_X10_tables : Cond.instanceMethod yX10_tables ∈ lw_G := mG 1270 rfl rfl
theorem lw_X10_tables : Cond.selects RX10 yX10_tables yX10_tables ∈ lw_G := mG 75 rfl rfl
set_option maxRecDepth 100000 in
theorem ck_RX10_284 : CkV RX10 284 yX10_tables cX10_tables 4 (none) 1 := ⟨(mG 1268 rfl rfl), nw_X10_tables, lw_X10_tables, iw_RX10, cw_X10_tables, ⟨by decide +kernel, by decide +kernel, by decide +kernel⟩⟩
set_option maxRecDepth 100000 in
theorem cw_X10_warmNow : Cond.code yX10_warmNow cX10_warmNow 3 (some .int) ∈ lw_G := mG 1275 rfl rfl
set_option maxRecDepth 100000 in
theorem nw_X10_warmNow : Cond.instanceMethod yX10_warmNow ∈ lw_G := mG 1274 rfl rfl
theorem lw_X10_warmNow : Cond.selects RX10 yX10_warmNow yX10_warmNow ∈ lw_G := mG 76 rfl rfl
set_option maxRecDepth 100000 in
theorem ck_RX10_288 : CkV RX10 288 yX10_warmNow cX10_warmNow 3 (some .int) 0 := ⟨(mG 1272 rfl rfl), nw_X10_warmNow, lw_X10_warmNow, iw_RX10, cw_X10_warmNow, ⟨by decide +kernel, by decide +kernel, by decide +kernel⟩⟩
set_option maxRecDepth 100000 in
theorem cw_X10_best : Cond.code yX10_best cX10_best 3 (some .int) ∈ lw_G := mG 1279 rfl rfl
set_option maxRecDepth 100000 in
theorem nw_X10_best : Cond.instanceMethod yX10_best ∈ lw_G := mG 1277 rfl rfl
set_option maxRecDepth 100000 in
theorem lw_X10_best : Cond.selects RX10 yX10_best yX10_best ∈ lw_G := mG 1278 rfl rfl
set_option maxRecDepth 100000 in
theorem ck_RL_68 : CkV RL 68 yX10_best cX10_best 3 (some .int) 2 := ⟨(mG 1276 rfl rfl), nw_X10_best, lw_X10_best, iw_RX10, cw_X10_best, ⟨by decide +kernel, by decide +kernel, by decide +kernel⟩⟩
set_option maxRecDepth 100000 in
theorem cw_X10_seeks : Cond.code yX10_seeks cX10_seeks 6 (none) ∈ lw_G := mG 1283 rfl rfl
set_option maxRecDepth 100000 in
theorem nw_X10_seeks : Cond.instanceMethod yX10_seeks ∈ lw_G := mG 1282 rfl rfl
theorem lw_X10_seeks : Cond.selects RX10 yX10_seeks yX10_seeks ∈ lw_G := mG 77 rfl rfl
set_option maxRecDepth 100000 in
theorem ck_RX10_300 : CkV RX10 300 yX10_seeks cX10_seeks 6 (none) 4 := ⟨(mG 1280 rfl rfl), nw_X10_seeks, lw_X10_seeks, iw_RX10, cw_X10_seeks, ⟨by decide +kernel, by decide +kernel, by decide +kernel⟩⟩
set_option maxRecDepth 100000 in
theorem cw_X10_from : Cond.code yX10_from cX10_from 2 (some .int) ∈ lw_G := mG 1287 rfl rfl
set_option maxRecDepth 100000 in
theorem nw_X10_from : Cond.instanceMethod yX10_from ∈ lw_G := mG 1285 rfl rfl
set_option maxRecDepth 100000 in
theorem lw_X10_from : Cond.selects RX10 yX10_from yX10_from ∈ lw_G := mG 1286 rfl rfl
set_option maxRecDepth 100000 in
theorem ck_RL_72 : CkV RL 72 yX10_from cX10_from 2 (some .int) 1 := ⟨(mG 1284 rfl rfl), nw_X10_from, lw_X10_from, iw_RX10, cw_X10_from, ⟨by decide +kernel, by decide +kernel, by decide +kernel⟩⟩
set_option maxRecDepth 100000 in
theorem cw_X10_fromOf : Cond.code yX10_fromOf cX10_fromOf 6 (some .int) ∈ lw_G := mG 1291 rfl rfl
set_option maxRecDepth 100000 in
theorem nw_X10_fromOf : Cond.instanceMethod yX10_fromOf ∈ lw_G := mG 1290 rfl rfl
theorem lw_X10_fromOf : Cond.selects RX10 yX10_fromOf yX10_fromOf ∈ lw_G := mG 78 rfl rfl
set_option maxRecDepth 100000 in
theorem ck_RX10_307 : CkV RX10 307 yX10_fromOf cX10_fromOf 6 (some .int) 1 := ⟨(mG 1288 rfl rfl), nw_X10_fromOf, lw_X10_fromOf, iw_RX10, cw_X10_fromOf, ⟨by decide +kernel, by decide +kernel, by decide +kernel⟩⟩
set_option maxRecDepth 100000 in
theorem cw_X10_opens1 : Cond.code yX10_opens1 cX10_opens1 3 (some .boolean) ∈ lw_G := mG 1295 rfl rfl
set_option maxRecDepth 100000 in
theorem nw_X10_opens1 : Cond.instanceMethod yX10_opens1 ∈ lw_G := mG 1294 rfl rfl
theorem lw_X10_opens1 : Cond.selects RX10 yX10_opens1 yX10_opens1 ∈ lw_G := mG 79 rfl rfl
set_option maxRecDepth 100000 in
theorem ck_RX10_304 : CkV RX10 304 yX10_opens1 cX10_opens1 3 (some .boolean) 2 := ⟨(mG 1292 rfl rfl), nw_X10_opens1, lw_X10_opens1, iw_RX10, cw_X10_opens1, ⟨by decide +kernel, by decide +kernel, by decide +kernel⟩⟩
set_option maxRecDepth 100000 in
theorem cw_X10_keys : Cond.code yX10_keys cX10_keys 7 (some .int) ∈ lw_G := mG 1299 rfl rfl
set_option maxRecDepth 100000 in
theorem nw_X10_keys : Cond.instanceMethod yX10_keys ∈ lw_G := mG 1297 rfl rfl
set_option maxRecDepth 100000 in
theorem lw_X10_keys : Cond.selects RX10 yX10_keys yX10_keys ∈ lw_G := mG 1298 rfl rfl
set_option maxRecDepth 100000 in
theorem ck_RL_76 : CkV RL 76 yX10_keys cX10_keys 7 (some .int) 1 := ⟨(mG 1296 rfl rfl), nw_X10_keys, lw_X10_keys, iw_RX10, cw_X10_keys, ⟨by decide +kernel, by decide +kernel, by decide +kernel⟩⟩
set_option maxRecDepth 100000 in
theorem cw_X10_tells : Cond.code yX10_tells cX10_tells 10 (some .int) ∈ lw_G := mG 1304 rfl rfl
set_option maxRecDepth 100000 in
theorem nw_X10_tells : Cond.instanceMethod yX10_tells ∈ lw_G := mG 1302 rfl rfl
set_option maxRecDepth 100000 in
theorem lw_X10_tells : Cond.selects RX10 yX10_tells yX10_tells ∈ lw_G := mG 1303 rfl rfl
set_option maxRecDepth 100000 in
theorem ck_RL_80 : CkV RL 80 yX10_tells cX10_tells 10 (some .int) 2 := ⟨(mG 1301 rfl rfl), nw_X10_tells, lw_X10_tells, iw_RX10, cw_X10_tells, ⟨by decide +kernel, by decide +kernel, by decide +kernel⟩⟩
set_option maxRecDepth 100000 in
theorem cw_X10_isSheet : Cond.code yX10_isSheet cX10_isSheet 1 (some .boolean) ∈ lw_G := mG 1308 rfl rfl
set_option maxRecDepth 100000 in
theorem sw_X10_isSheet : Cond.static yX10_isSheet ∈ lw_G := mG 1307 rfl rfl
set_option maxRecDepth 100000 in
theorem ck_RX10_323 : CkS RX10 323 yX10_isSheet cX10_isSheet 1 (some .boolean) 1 := ⟨(mG 1306 rfl rfl), sw_X10_isSheet, iw_RX10, cw_X10_isSheet, ⟨by decide +kernel, by decide +kernel, by decide +kernel⟩⟩
set_option maxRecDepth 100000 in
theorem cw_X10_unlike : Cond.code yX10_unlike cX10_unlike 4 (some .int) ∈ lw_G := mG 1312 rfl rfl
set_option maxRecDepth 100000 in
theorem nw_X10_unlike : Cond.instanceMethod yX10_unlike ∈ lw_G := mG 1311 rfl rfl
theorem lw_X10_unlike : Cond.selects RX10 yX10_unlike yX10_unlike ∈ lw_G := mG 80 rfl rfl
set_option maxRecDepth 100000 in
theorem ck_RX10_326 : CkV RX10 326 yX10_unlike cX10_unlike 4 (some .int) 1 := ⟨(mG 1309 rfl rfl), nw_X10_unlike, lw_X10_unlike, iw_RX10, cw_X10_unlike, ⟨by decide +kernel, by decide +kernel, by decide +kernel⟩⟩
set_option maxRecDepth 100000 in
theorem cw_X10_looksAll : Cond.code yX10_looksAll cX10_looksAll 4 (none) ∈ lw_G := mG 1316 rfl rfl
set_option maxRecDepth 100000 in
theorem nw_X10_looksAll : Cond.instanceMethod yX10_looksAll ∈ lw_G := mG 1315 rfl rfl
theorem lw_X10_looksAll : Cond.selects RX10 yX10_looksAll yX10_looksAll ∈ lw_G := mG 81 rfl rfl
set_option maxRecDepth 100000 in
theorem ck_RX10_329 : CkV RX10 329 yX10_looksAll cX10_looksAll 4 (none) 1 := ⟨(mG 1313 rfl rfl), nw_X10_looksAll, lw_X10_looksAll, iw_RX10, cw_X10_looksAll, ⟨by decide +kernel, by decide +kernel, by decide +kernel⟩⟩
set_option maxRecDepth 100000 in
theorem cw_X10_looks : Cond.code yX10_looks cX10_looks 5 (none) ∈ lw_G := mG 1320 rfl rfl
set_option maxRecDepth 100000 in
theorem nw_X10_looks : Cond.instanceMethod yX10_looks ∈ lw_G := mG 1319 rfl rfl
theorem lw_X10_looks : Cond.selects RX10 yX10_looks yX10_looks ∈ lw_G := mG 82 rfl rfl
set_option maxRecDepth 100000 in
theorem ck_RX10_318 : CkV RX10 318 yX10_looks cX10_looks 5 (none) 3 := ⟨(mG 1317 rfl rfl), nw_X10_looks, lw_X10_looks, iw_RX10, cw_X10_looks, ⟨by decide +kernel, by decide +kernel, by decide +kernel⟩⟩
set_option maxRecDepth 100000 in
theorem cw_X10_sure : Cond.code yX10_sure cX10_sure 3 (some .int) ∈ lw_G := mG 1324 rfl rfl
set_option maxRecDepth 100000 in
theorem nw_X10_sure : Cond.instanceMethod yX10_sure ∈ lw_G := mG 1323 rfl rfl
theorem lw_X10_sure : Cond.selects RX10 yX10_sure yX10_sure ∈ lw_G := mG 83 rfl rfl
set_option maxRecDepth 100000 in
theorem ck_RX10_332 : CkV RX10 332 yX10_sure cX10_sure 3 (some .int) 0 := ⟨(mG 1321 rfl rfl), nw_X10_sure, lw_X10_sure, iw_RX10, cw_X10_sure, ⟨by decide +kernel, by decide +kernel, by decide +kernel⟩⟩
set_option maxRecDepth 100000 in
theorem cw_X10_film : Cond.code yX10_film cX10_film 3 (some .int) ∈ lw_G := mG 1328 rfl rfl
set_option maxRecDepth 100000 in
theorem nw_X10_film : Cond.instanceMethod yX10_film ∈ lw_G := mG 1326 rfl rfl
set_option maxRecDepth 100000 in
theorem lw_X10_film : Cond.selects RX10 yX10_film yX10_film ∈ lw_G := mG 1327 rfl rfl
set_option maxRecDepth 100000 in
theorem ck_RL_84 : CkV RL 84 yX10_film cX10_film 3 (some .int) 1 := ⟨(mG 1325 rfl rfl), nw_X10_film, lw_X10_film, iw_RX10, cw_X10_film, ⟨by decide +kernel, by decide +kernel, by decide +kernel⟩⟩
set_option maxRecDepth 100000 in
theorem cw_X10_sheet : Cond.code yX10_sheet cX10_sheet 5 (some .int) ∈ lw_G := mG 1332 rfl rfl
set_option maxRecDepth 100000 in
theorem nw_X10_sheet : Cond.instanceMethod yX10_sheet ∈ lw_G := mG 1330 rfl rfl
set_option maxRecDepth 100000 in
theorem lw_X10_sheet : Cond.selects RX10 yX10_sheet yX10_sheet ∈ lw_G := mG 1331 rfl rfl
set_option maxRecDepth 100000 in
theorem ck_RX10_335 : CkV RX10 335 yX10_sheet cX10_sheet 5 (some .int) 3 := ⟨(mG 1329 rfl rfl), nw_X10_sheet, lw_X10_sheet, iw_RX10, cw_X10_sheet, ⟨by decide +kernel, by decide +kernel, by decide +kernel⟩⟩
set_option maxRecDepth 100000 in
theorem cw_X10_drawn : Cond.code yX10_drawn cX10_drawn 4 (some .int) ∈ lw_G := mG 1338 rfl rfl
set_option maxRecDepth 100000 in
theorem nw_X10_drawn : Cond.instanceMethod yX10_drawn ∈ lw_G := mG 1336 rfl rfl
set_option maxRecDepth 100000 in
theorem lw_X10_drawn : Cond.selects RX10 yX10_drawn yX10_drawn ∈ lw_G := mG 1337 rfl rfl
set_option maxRecDepth 100000 in
theorem ck_RL_88 : CkV RL 88 yX10_drawn cX10_drawn 4 (some .int) 2 := ⟨(mG 1335 rfl rfl), nw_X10_drawn, lw_X10_drawn, iw_RX10, cw_X10_drawn, ⟨by decide +kernel, by decide +kernel, by decide +kernel⟩⟩
set_option maxRecDepth 100000 in
theorem cw_X10_draws : Cond.code yX10_draws cX10_draws 4 (none) ∈ lw_G := mG 1342 rfl rfl
set_option maxRecDepth 100000 in
theorem nw_X10_draws : Cond.instanceMethod yX10_draws ∈ lw_G := mG 1341 rfl rfl
theorem lw_X10_draws : Cond.selects RX10 yX10_draws yX10_draws ∈ lw_G := mG 84 rfl rfl
set_option maxRecDepth 100000 in
theorem ck_RX10_339 : CkV RX10 339 yX10_draws cX10_draws 4 (none) 1 := ⟨(mG 1339 rfl rfl), nw_X10_draws, lw_X10_draws, iw_RX10, cw_X10_draws, ⟨by decide +kernel, by decide +kernel, by decide +kernel⟩⟩
set_option maxRecDepth 100000 in
theorem ck_RX10_342 : CkV RX10 342 yX10_run cX10_run 6 (some .int) 2 := ⟨(mG 1344 rfl rfl), nw_X10_run, lw_X10_run, iw_RX10, cw_X10_run, ⟨by decide +kernel, by decide +kernel, by decide +kernel⟩⟩
set_option maxRecDepth 100000 in
theorem cw_X10_laysBack : Cond.code yX10_laysBack cX10_laysBack 2 (none) ∈ lw_G := mG 1348 rfl rfl
set_option maxRecDepth 100000 in
theorem nw_X10_laysBack : Cond.instanceMethod yX10_laysBack ∈ lw_G := mG 1347 rfl rfl
theorem lw_X10_laysBack : Cond.selects RX10 yX10_laysBack yX10_laysBack ∈ lw_G := mG 85 rfl rfl
set_option maxRecDepth 100000 in
theorem ck_RX10_345 : CkV RX10 345 yX10_laysBack cX10_laysBack 2 (none) 0 := ⟨(mG 1345 rfl rfl), nw_X10_laysBack, lw_X10_laysBack, iw_RX10, cw_X10_laysBack, ⟨by decide +kernel, by decide +kernel, by decide +kernel⟩⟩
set_option maxRecDepth 100000 in
theorem cw_X10_chance : Cond.code yX10_chance cX10_chance 12 (some .long) ∈ lw_G := mG 1352 rfl rfl
set_option maxRecDepth 100000 in
theorem nw_X10_chance : Cond.instanceMethod yX10_chance ∈ lw_G := mG 1350 rfl rfl
set_option maxRecDepth 100000 in
theorem lw_X10_chance : Cond.selects RX10 yX10_chance yX10_chance ∈ lw_G := mG 1351 rfl rfl
set_option maxRecDepth 100000 in
theorem ck_RL_93 : CkV RL 93 yX10_chance cX10_chance 12 (some .long) 3 := ⟨(mG 1349 rfl rfl), nw_X10_chance, lw_X10_chance, iw_RX10, cw_X10_chance, ⟨by decide +kernel, by decide +kernel, by decide +kernel⟩⟩
set_option maxRecDepth 100000 in
theorem cw_X10_image : Cond.code yX10_image cX10_image 2 (some .int) ∈ lw_G := mG 1358 rfl rfl
set_option maxRecDepth 100000 in
theorem nw_X10_image : Cond.instanceMethod yX10_image ∈ lw_G := mG 1356 rfl rfl
set_option maxRecDepth 100000 in
theorem lw_X10_image : Cond.selects RX10 yX10_image yX10_image ∈ lw_G := mG 1357 rfl rfl
set_option maxRecDepth 100000 in
theorem ck_RL_97 : CkV RL 97 yX10_image cX10_image 2 (some .int) 0 := ⟨(mG 1355 rfl rfl), nw_X10_image, lw_X10_image, iw_RX10, cw_X10_image, ⟨by decide +kernel, by decide +kernel, by decide +kernel⟩⟩
set_option maxRecDepth 100000 in
theorem cw_X10_back : Cond.code yX10_back cX10_back 2 (some .int) ∈ lw_G := mG 1362 rfl rfl
set_option maxRecDepth 100000 in
theorem nw_X10_back : Cond.instanceMethod yX10_back ∈ lw_G := mG 1360 rfl rfl
set_option maxRecDepth 100000 in
theorem lw_X10_back : Cond.selects RX10 yX10_back yX10_back ∈ lw_G := mG 1361 rfl rfl
set_option maxRecDepth 100000 in
theorem ck_RL_101 : CkV RL 101 yX10_back cX10_back 2 (some .int) 0 := ⟨(mG 1359 rfl rfl), nw_X10_back, lw_X10_back, iw_RX10, cw_X10_back, ⟨by decide +kernel, by decide +kernel, by decide +kernel⟩⟩
set_option maxRecDepth 100000 in
theorem cw_X10_count : Cond.code yX10_count cX10_count 5 (some .int) ∈ lw_G := mG 1366 rfl rfl
set_option maxRecDepth 100000 in
theorem nw_X10_count : Cond.instanceMethod yX10_count ∈ lw_G := mG 1364 rfl rfl
set_option maxRecDepth 100000 in
theorem lw_X10_count : Cond.selects RX10 yX10_count yX10_count ∈ lw_G := mG 1365 rfl rfl
set_option maxRecDepth 100000 in
theorem ck_RL_105 : CkV RL 105 yX10_count cX10_count 5 (some .int) 1 := ⟨(mG 1363 rfl rfl), nw_X10_count, lw_X10_count, iw_RX10, cw_X10_count, ⟨by decide +kernel, by decide +kernel, by decide +kernel⟩⟩
set_option maxRecDepth 100000 in
theorem ck_RL_109 : CkV RL 109 yX10_sheet cX10_sheet 5 (some .int) 3 := ⟨(mG 1367 rfl rfl), nw_X10_sheet, lw_X10_sheet, iw_RX10, cw_X10_sheet, ⟨by decide +kernel, by decide +kernel, by decide +kernel⟩⟩
set_option maxRecDepth 100000 in
theorem cw_X10_cell : Cond.code yX10_cell cX10_cell 4 (some .int) ∈ lw_G := mG 1371 rfl rfl
set_option maxRecDepth 100000 in
theorem nw_X10_cell : Cond.instanceMethod yX10_cell ∈ lw_G := mG 1369 rfl rfl
set_option maxRecDepth 100000 in
theorem lw_X10_cell : Cond.selects RX10 yX10_cell yX10_cell ∈ lw_G := mG 1370 rfl rfl
set_option maxRecDepth 100000 in
theorem ck_RL_113 : CkV RL 113 yX10_cell cX10_cell 4 (some .int) 3 := ⟨(mG 1368 rfl rfl), nw_X10_cell, lw_X10_cell, iw_RX10, cw_X10_cell, ⟨by decide +kernel, by decide +kernel, by decide +kernel⟩⟩
set_option maxRecDepth 100000 in
theorem cw_X10_copy : Cond.code yX10_copy cX10_copy 9 (some .int) ∈ lw_G := mG 1375 rfl rfl
set_option maxRecDepth 100000 in
theorem nw_X10_copy : Cond.instanceMethod yX10_copy ∈ lw_G := mG 1373 rfl rfl
set_option maxRecDepth 100000 in
theorem lw_X10_copy : Cond.selects RX10 yX10_copy yX10_copy ∈ lw_G := mG 1374 rfl rfl
set_option maxRecDepth 100000 in
theorem ck_RL_118 : CkV RL 118 yX10_copy cX10_copy 9 (some .int) 5 := ⟨(mG 1372 rfl rfl), nw_X10_copy, lw_X10_copy, iw_RX10, cw_X10_copy, ⟨by decide +kernel, by decide +kernel, by decide +kernel⟩⟩
set_option maxRecDepth 100000 in
theorem cw_X10_grooms : Cond.code yX10_grooms cX10_grooms 8 (some .int) ∈ lw_G := mG 1379 rfl rfl
set_option maxRecDepth 100000 in
theorem nw_X10_grooms : Cond.instanceMethod yX10_grooms ∈ lw_G := mG 1377 rfl rfl
set_option maxRecDepth 100000 in
theorem lw_X10_grooms : Cond.selects RX10 yX10_grooms yX10_grooms ∈ lw_G := mG 1378 rfl rfl
set_option maxRecDepth 100000 in
theorem ck_RL_123 : CkV RL 123 yX10_grooms cX10_grooms 8 (some .int) 4 := ⟨(mG 1376 rfl rfl), nw_X10_grooms, lw_X10_grooms, iw_RX10, cw_X10_grooms, ⟨by decide +kernel, by decide +kernel, by decide +kernel⟩⟩
set_option maxRecDepth 100000 in
theorem ck_RX10_367 : CkV RX10 367 yX10_groom cX10_groom 4 (some .int) 3 := ⟨(mG 1381 rfl rfl), nw_X10_groom, lw_X10_groom, iw_RX10, cw_X10_groom, ⟨by decide +kernel, by decide +kernel, by decide +kernel⟩⟩
set_option maxRecDepth 100000 in
theorem cw_X10_taken : Cond.code yX10_taken cX10_taken 4 (some .int) ∈ lw_G := mG 1385 rfl rfl
set_option maxRecDepth 100000 in
theorem nw_X10_taken : Cond.instanceMethod yX10_taken ∈ lw_G := mG 1383 rfl rfl
set_option maxRecDepth 100000 in
theorem lw_X10_taken : Cond.selects RX10 yX10_taken yX10_taken ∈ lw_G := mG 1384 rfl rfl
set_option maxRecDepth 100000 in
theorem ck_RL_127 : CkV RL 127 yX10_taken cX10_taken 4 (some .int) 2 := ⟨(mG 1382 rfl rfl), nw_X10_taken, lw_X10_taken, iw_RX10, cw_X10_taken, ⟨by decide +kernel, by decide +kernel, by decide +kernel⟩⟩
set_option maxRecDepth 100000 in
theorem cw_X10_over : Cond.code yX10_over cX10_over 1 (some .int) ∈ lw_G := mG 1388 rfl rfl
set_option maxRecDepth 100000 in
theorem sw_X10_over : Cond.static yX10_over ∈ lw_G := mG 1387 rfl rfl
set_option maxRecDepth 100000 in
theorem ck_RX10_370 : CkS RX10 370 yX10_over cX10_over 1 (some .int) 1 := ⟨(mG 1386 rfl rfl), sw_X10_over, iw_RX10, cw_X10_over, ⟨by decide +kernel, by decide +kernel, by decide +kernel⟩⟩
set_option maxRecDepth 100000 in
theorem cw_X9_within : Cond.code yX9_within cX9_within 1 (some .int) ∈ lw_G := mG 619 rfl rfl
set_option maxRecDepth 100000 in
theorem sw_X9_within : Cond.static yX9_within ∈ lw_G := mG 618 rfl rfl
set_option maxRecDepth 100000 in
theorem ml_RX6_37 : Cond.methodLink RX6 37 Lib.Math.min.name ∈ lw_G := mG 370 rfl rfl
set_option maxRecDepth 100000 in
theorem ml_RX2_63 : Cond.methodLink RX2 63 Lib.Math.min.name ∈ lw_G := mG 653 rfl rfl
set_option maxRecDepth 100000 in
theorem ml_RX2_72 : Cond.methodLink RX2 72 Lib.Math.max.name ∈ lw_G := mG 655 rfl rfl
set_option maxRecDepth 100000 in
theorem kw_RJ6_265 : Cond.constant RJ6 265 1431655765 ∈ lw_G := mG 689 rfl rfl
set_option maxRecDepth 100000 in
theorem kw_RJ6_266 : Cond.constant RJ6 266 858993459 ∈ lw_G := mG 690 rfl rfl
set_option maxRecDepth 100000 in
theorem kw_RJ6_267 : Cond.constant RJ6 267 252645135 ∈ lw_G := mG 691 rfl rfl
set_option maxRecDepth 100000 in
theorem ml_RX9_225 : Cond.methodLink RX9 225 Lib.Math.max.name ∈ lw_G := mG 692 rfl rfl
set_option maxRecDepth 100000 in
theorem ml_RX3_38 : Cond.methodLink RX3 38 Lib.Math.max.name ∈ lw_G := mG 770 rfl rfl
set_option maxRecDepth 100000 in
theorem kw_RX3_25 : Cond.constant RX3 25 1103515245 ∈ lw_G := mG 842 rfl rfl
set_option maxRecDepth 100000 in
theorem kl_RX9_329 : Cond.constantLong RX9 329 (-4611686018427387904) ∈ lw_G := mG 847 rfl rfl
set_option maxRecDepth 100000 in
theorem ml_RX9_354 : Cond.methodLink RX9 354 arraycopyName ∈ lw_G := mG 903 rfl rfl
set_option maxRecDepth 100000 in
theorem kl_RX10_83 : Cond.constantLong RX10 83 (4) ∈ lw_G := mG 1085 rfl rfl
set_option maxRecDepth 100000 in
theorem kl_RX10_117 : Cond.constantLong RX10 117 (10) ∈ lw_G := mG 1100 rfl rfl
set_option maxRecDepth 100000 in
theorem kl_RX10_155 : Cond.constantLong RX10 155 (97) ∈ lw_G := mG 1125 rfl rfl
set_option maxRecDepth 100000 in
theorem kl_RX10_157 : Cond.constantLong RX10 157 (122) ∈ lw_G := mG 1126 rfl rfl
set_option maxRecDepth 100000 in
theorem kl_RX10_159 : Cond.constantLong RX10 159 (48) ∈ lw_G := mG 1127 rfl rfl
set_option maxRecDepth 100000 in
theorem kl_RX10_161 : Cond.constantLong RX10 161 (57) ∈ lw_G := mG 1128 rfl rfl
set_option maxRecDepth 100000 in
theorem kl_RX10_229 : Cond.constantLong RX10 229 (43) ∈ lw_G := mG 1181 rfl rfl
set_option maxRecDepth 100000 in
theorem kl_RX10_237 : Cond.constantLong RX10 237 (60) ∈ lw_G := mG 1182 rfl rfl
set_option maxRecDepth 100000 in
theorem kl_RX10_107 : Cond.constantLong RX10 107 (5) ∈ lw_G := mG 1202 rfl rfl
set_option maxRecDepth 100000 in
theorem kl_RX10_109 : Cond.constantLong RX10 109 (9) ∈ lw_G := mG 1203 rfl rfl
set_option maxRecDepth 100000 in
theorem kl_RX10_111 : Cond.constantLong RX10 111 (15) ∈ lw_G := mG 1204 rfl rfl
set_option maxRecDepth 100000 in
theorem kl_RX10_132 : Cond.constantLong RX10 132 (255) ∈ lw_G := mG 1218 rfl rfl
set_option maxRecDepth 100000 in
theorem kl_RX10_268 : Cond.constantLong RX10 268 (29) ∈ lw_G := mG 1239 rfl rfl
set_option maxRecDepth 100000 in
theorem kl_RX10_270 : Cond.constantLong RX10 270 (40) ∈ lw_G := mG 1240 rfl rfl
set_option maxRecDepth 100000 in
theorem kl_RX10_310 : Cond.constantLong RX10 310 (3) ∈ lw_G := mG 1300 rfl rfl
set_option maxRecDepth 100000 in
theorem kl_RX10_321 : Cond.constantLong RX10 321 (39) ∈ lw_G := mG 1305 rfl rfl
set_option maxRecDepth 100000 in
theorem kl_RX10_361 : Cond.constantLong RX10 361 (-1) ∈ lw_G := mG 1333 rfl rfl
set_option maxRecDepth 100000 in
theorem kl_RX10_363 : Cond.constantLong RX10 363 (2) ∈ lw_G := mG 1334 rfl rfl
set_option maxRecDepth 100000 in
theorem kw_RX10_338 : Cond.constant RX10 338 1103515245 ∈ lw_G := mG 1343 rfl rfl
set_option maxRecDepth 100000 in
theorem kl_RX10_348 : Cond.constantLong RX10 348 (20) ∈ lw_G := mG 1353 rfl rfl
set_option maxRecDepth 100000 in
theorem kl_RX10_350 : Cond.constantLong RX10 350 (-4611686018427387904) ∈ lw_G := mG 1354 rfl rfl
set_option maxRecDepth 100000 in
theorem kl_RX10_365 : Cond.constantLong RX10 365 (6) ∈ lw_G := mG 1380 rfl rfl
set_option maxRecDepth 100000 in
theorem cw_mmax : Cond.code Lib.Math.max.name Lib.Math.max.code 2 (some .int) ∈ lw_G := mG 657 (by decide +kernel) rfl
set_option maxRecDepth 100000 in
theorem sw_mmax : Cond.static Lib.Math.max.name ∈ lw_G := mG 656 rfl rfl
set_option maxRecDepth 100000 in
theorem cw_mmin : Cond.code Lib.Math.min.name Lib.Math.min.code 2 (some .int) ∈ lw_G := mG 372 (by decide +kernel) rfl
set_option maxRecDepth 100000 in
theorem sw_mmin : Cond.static Lib.Math.min.name ∈ lw_G := mG 371 rfl rfl
theorem iw_Math : Cond.initialized "java/lang/Math" ∈ lw_G := mG 98 rfl rfl
theorem iw_Sys : Cond.initialized "java/lang/System" ∈ lw_G := mG 104 rfl rfl
set_option maxRecDepth 100000 in
theorem nw_acp : Cond.native arraycopyName ∈ lw_G := mG 905 rfl rfl
set_option maxRecDepth 100000 in
theorem sw_acp : Cond.static arraycopyName ∈ lw_G := mG 904 rfl rfl
