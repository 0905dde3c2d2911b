def M_set_25 (x1 : Int32) (x2 : Int32) (x3 : Int32) (μ : Mem) : Option (Int32 × Mem) :=
  nm (M_mostOf x1) fun r2 =>
  nm (M_in (Int32.toInt64 x3) 0 (Int32.toInt64 r2)) fun r4 =>
  if r4 = 0 then (
    some ((-2), μ))
  else (
    bnd2 (M_told x2 x1 μ) fun r7 μ8 =>
    bnd (M_lays x1 x2 x3 μ8) fun μ10 =>
    some (r7, μ10))
set_option maxHeartbeats 4000000 in
set_option maxRecDepth 100000 in
theorem M_set_25_ok {φ : Fr} {d : Nat} (F : Fx φ ΩB cX10_set RX10 5 (some .int)) (hd : 111 ≤ d) {x1 : Int32} {x2 : Int32} {x3 : Int32} {μ : Mem} {r : Int32} {μ' : Mem} (h : M_set_25 x1 x2 x3 μ = some (r, μ')) : V φ ΩB 5 d 25 [some (rf φ 0 0), some (.int x1), some (.int x2), some (.int x3), none] [] μ (some (.int r), μ') := by
  unfold M_set_25 at h
  refine V.iload_n F dX10_set_25 rfl rfl ?_
  refine V.i2l F dX10_set_26 ?_
  refine V.lconst (v := 0) F dX10_set_27 (by decide) ?_
  refine V.iload_n F dX10_set_28 rfl rfl ?_
  obtain ⟨r2, e1, h⟩ := nm_out h
  refine V.callSi (As := [.int x1]) F ck_RX10_89 (M_mostOf_ct e1) (by omega) (by decide) rfl rfl (Nat.le_of_ble_eq_true rfl) dX10_set_29 ?_
  refine V.i2l F dX10_set_32 ?_
  obtain ⟨r4, e3, h⟩ := nm_out h
  refine V.callSi (As := [.long (Int32.toInt64 x3), .long 0, .long (Int32.toInt64 r2)]) F ck_RX10_79 (M_in_ct e3) (by omega) (by decide) rfl rfl (Nat.le_of_ble_eq_true rfl) dX10_set_33 ?_
  refine V.if_ne (tgt := 42) F dX10_set_36 (by decide) (fun c5 => ?_) (fun c5 => ?_)
  · have h := f_out h c5
    refine V.rload_n F dX10_set_42 rfl rfl ?_
    refine V.iload_n F dX10_set_43 rfl rfl ?_
    refine V.iload_n F dX10_set_44 rfl rfl ?_
    obtain ⟨r7, μ8, e6, h⟩ := bnd2_out h
    refine V.callVi (f := 0) (i := 0) (As := [.int x2, .int x1]) F ck_RX10_93 (M_told_ct e6) (by omega) (by decide) rfl mB0 rfl rfl rfl (Nat.le_of_ble_eq_true rfl) dX10_set_45 ?_
    refine V.istore (L' := [some (rf φ 0 0), some (.int x1), some (.int x2), some (.int x3), some (.int r7)]) F dX10_set_48 (by decide) rfl rfl rfl ?_
    refine V.rload_n F dX10_set_50 rfl rfl ?_
    refine V.iload_n F dX10_set_51 rfl rfl ?_
    refine V.iload_n F dX10_set_52 rfl rfl ?_
    refine V.iload_n F dX10_set_53 rfl rfl ?_
    obtain ⟨μ10, e9, h⟩ := bnd_out h
    refine V.callVv (f := 0) (i := 0) (As := [.int x1, .int x2, .int x3]) F ck_RX10_97 (M_lays_ct e9) (by omega) (by decide) rfl mB0 rfl rfl rfl (Nat.le_of_ble_eq_true rfl) dX10_set_54 ?_
    refine V.iload F dX10_set_57 rfl ?_
    obtain ⟨rfl, rfl⟩ := r2_out h
    exact V.iret F dX10_set_59
  · have h := t_out h c5
    refine V.bipush (v := (-2)) F dX10_set_39 (by decide) ?_
    obtain ⟨rfl, rfl⟩ := r2_out h
    exact V.iret F dX10_set_41
def M_set (x1 : Int32) (x2 : Int32) (x3 : Int32) (μ : Mem) : Option (Int32 × Mem) :=
  nm (M_in (Int32.toInt64 x1) 0 4) fun r2 =>
  if r2 = 0 then (
    some ((-2), μ))
  else (
    if 1 < x1 then (
      bnd (M_isOne x2 μ) fun r6 =>
      if r6 = 0 then (
        some ((-2), μ))
      else (
        M_set_25 x1 x2 x3 μ))
    else (
      M_set_25 x1 x2 x3 μ))
set_option maxHeartbeats 4000000 in
set_option maxRecDepth 100000 in
theorem M_set_ok {φ : Fr} {d : Nat} (F : Fx φ ΩB cX10_set RX10 5 (some .int)) (hd : 111 ≤ d) {x1 : Int32} {x2 : Int32} {x3 : Int32} {μ : Mem} {r : Int32} {μ' : Mem} (h : M_set x1 x2 x3 μ = some (r, μ')) : V φ ΩB 5 d 0 [some (rf φ 0 0), some (.int x1), some (.int x2), some (.int x3), none] [] μ (some (.int r), μ') := by
  unfold M_set at h
  refine V.iload_n F dX10_set_0 rfl rfl ?_
  refine V.i2l F dX10_set_1 ?_
  refine V.lconst (v := 0) F dX10_set_2 (by decide) ?_
  refine V.ldc2 F kl_RX10_83 dX10_set_3 ?_
  obtain ⟨r2, e1, h⟩ := nm_out h
  refine V.callSi (As := [.long (Int32.toInt64 x1), .long 0, .long 4]) F ck_RX10_79 (M_in_ct e1) (by omega) (by decide) rfl rfl (Nat.le_of_ble_eq_true rfl) dX10_set_6 ?_
  refine V.if_eq (tgt := 39) F dX10_set_9 (by decide) (fun c3 => ?_) (fun c3 => ?_)
  · have h := t_out h c3
    refine V.bipush (v := (-2)) F dX10_set_39 (by decide) ?_
    obtain ⟨rfl, rfl⟩ := r2_out h
    exact V.iret F dX10_set_41
  · have h := f_out h c3
    refine V.iload_n F dX10_set_12 rfl rfl ?_
    refine V.iconst (v := 1) F dX10_set_13 (by decide) ?_
    refine V.icmp_le (tgt := 25) F dX10_set_14 (by decide) (fun c4 => ?_) (fun c4 => ?_)
    · have h := f_out h c4
      exact M_set_25_ok F hd h
    · have h := t_out h c4
      refine V.rload_n F dX10_set_17 rfl rfl ?_
      refine V.iload_n F dX10_set_18 rfl rfl ?_
      obtain ⟨r6, e5, h⟩ := bnd_out h
      refine V.callVi (f := 0) (i := 0) (As := [.int x2]) F ck_RX10_85 (M_isOne_ct e5) (by omega) (by decide) rfl mB0 rfl rfl rfl (Nat.le_of_ble_eq_true rfl) dX10_set_19 ?_
      refine V.if_eq (tgt := 39) F dX10_set_22 (by decide) (fun c7 => ?_) (fun c7 => ?_)
      · have h := t_out h c7
        refine V.bipush (v := (-2)) F dX10_set_39 (by decide) ?_
        obtain ⟨rfl, rfl⟩ := r2_out h
        exact V.iret F dX10_set_41
      · have h := f_out h c7
        exact M_set_25_ok F hd h
set_option maxHeartbeats 4000000 in
set_option maxRecDepth 100000 in
theorem M_set_ct {l : Launch} {G : Glo} {x1 : Int32} {x2 : Int32} {x3 : Int32} {μ : Mem} {r : Int32} {μ' : Mem} (h : M_set x1 x2 x3 μ = some (r, μ')) : Ct l ΩB G 111 yX10_set cX10_set 5 (some .int) [.ref (G.1 0 0), .int x1, .int x2, .int x3] μ (some (.int r), μ') := by
  refine Ct.intro (by decide) (Nat.le_of_ble_eq_true rfl) ?_
  intro φ hl hG F
  subst hl; subst hG
  exact M_set_ok F (Nat.le_refl _) h
def M_groom (x1 : Int32) (x2 : Int32) (x3 : Int32) (μ : Mem) : Option (Int32 × Mem) :=
  nm (M_in (Int32.toInt64 x1) 0 5) fun r2 =>
  if r2 = 0 then (
    some ((-2), μ))
  else (
    nm (M_in (Int32.toInt64 x2) 0 9) fun r5 =>
    if r5 = 0 then (
      some ((-2), μ))
    else (
      nm (M_in (Int32.toInt64 x3) 0 15) fun r8 =>
      if r8 = 0 then (
        some ((-2), μ))
      else (
        if (rd μ 0 0 12) = 6 then (
          some ((-4), μ))
        else (
          chk (inb (rd μ 0 0 12) 6) <|
          nm (up μ 4 0 (ix (rd μ 0 0 12)) x1) fun μ12 =>
          chk (inb (3 * (rd μ12 0 0 12)) 18) <|
          nm (up μ12 5 0 (ix (3 * (rd μ12 0 0 12))) x2) fun μ14 =>
          chk (inb ((3 * (rd μ14 0 0 12)) + 1) 18) <|
          nm (up μ14 5 0 (ix ((3 * (rd μ14 0 0 12)) + 1)) x3) fun μ16 =>
          chk (inb ((3 * (rd μ16 0 0 12)) + 2) 18) <|
          nm (up μ16 5 0 (ix ((3 * (rd μ16 0 0 12)) + 2)) 20) fun μ18 =>
          chk (inb (rd μ18 0 0 12) 6) <|
          nm (up μ18 6 0 (ix (rd μ18 0 0 12)) (rd μ18 0 0 12)) fun μ20 =>
          nm (up μ20 0 0 12 ((rd μ20 0 0 12) + 1)) fun μ21 =>
          some ((rd μ21 0 0 12) - 1, μ21)))))
set_option maxHeartbeats 4000000 in
set_option maxRecDepth 100000 in
theorem M_groom_ok {φ : Fr} {d : Nat} (F : Fx φ ΩB cX10_groom RX10 4 (some .int)) (hd : 2 ≤ d) {x1 : Int32} {x2 : Int32} {x3 : Int32} {μ : Mem} {r : Int32} {μ' : Mem} (h : M_groom x1 x2 x3 μ = some (r, μ')) : V φ ΩB 4 d 0 [some (rf φ 0 0), some (.int x1), some (.int x2), some (.int x3)] [] μ (some (.int r), μ') := by
  unfold M_groom at h
  refine V.iload_n F dX10_groom_0 rfl rfl ?_
  refine V.i2l F dX10_groom_1 ?_
  refine V.lconst (v := 0) F dX10_groom_2 (by decide) ?_
  refine V.ldc2 F kl_RX10_107 dX10_groom_3 ?_
  obtain ⟨r2, e1, h⟩ := nm_out h
  refine V.callSi (As := [.long (Int32.toInt64 x1), .long 0, .long 5]) F ck_RX10_79 (M_in_ct e1) (by omega) (by decide) rfl rfl (Nat.le_of_ble_eq_true rfl) dX10_groom_6 ?_
  refine V.if_eq (tgt := 36) F dX10_groom_9 (by decide) (fun c3 => ?_) (fun c3 => ?_)
  · have h := t_out h c3
    refine V.bipush (v := (-2)) F dX10_groom_36 (by decide) ?_
    obtain ⟨rfl, rfl⟩ := r2_out h
    exact V.iret F dX10_groom_38
  · have h := f_out h c3
    refine V.iload_n F dX10_groom_12 rfl rfl ?_
    refine V.i2l F dX10_groom_13 ?_
    refine V.lconst (v := 0) F dX10_groom_14 (by decide) ?_
    refine V.ldc2 F kl_RX10_109 dX10_groom_15 ?_
    obtain ⟨r5, e4, h⟩ := nm_out h
    refine V.callSi (As := [.long (Int32.toInt64 x2), .long 0, .long 9]) F ck_RX10_79 (M_in_ct e4) (by omega) (by decide) rfl rfl (Nat.le_of_ble_eq_true rfl) dX10_groom_18 ?_
    refine V.if_eq (tgt := 36) F dX10_groom_21 (by decide) (fun c6 => ?_) (fun c6 => ?_)
    · have h := t_out h c6
      refine V.bipush (v := (-2)) F dX10_groom_36 (by decide) ?_
      obtain ⟨rfl, rfl⟩ := r2_out h
      exact V.iret F dX10_groom_38
    · have h := f_out h c6
      refine V.iload_n F dX10_groom_24 rfl rfl ?_
      refine V.i2l F dX10_groom_25 ?_
      refine V.lconst (v := 0) F dX10_groom_26 (by decide) ?_
      refine V.ldc2 F kl_RX10_111 dX10_groom_27 ?_
      obtain ⟨r8, e7, h⟩ := nm_out h
      refine V.callSi (As := [.long (Int32.toInt64 x3), .long 0, .long 15]) F ck_RX10_79 (M_in_ct e7) (by omega) (by decide) rfl rfl (Nat.le_of_ble_eq_true rfl) dX10_groom_30 ?_
      refine V.if_ne (tgt := 39) F dX10_groom_33 (by decide) (fun c9 => ?_) (fun c9 => ?_)
      · have h := f_out h c9
        refine V.rload_n F dX10_groom_39 rfl rfl ?_
        refine gf_RX10_76 F dX10_groom_40 ?_
        refine V.bipush (v := 6) F dX10_groom_43 (by decide) ?_
        refine V.icmp_ne (tgt := 51) F dX10_groom_45 (by decide) (fun c10 => ?_) (fun c10 => ?_)
        · have h := f_out h c10
          refine V.rload_n F dX10_groom_51 rfl rfl ?_
          refine gf_RX10_26 F dX10_groom_52 ?_
          refine V.rload_n F dX10_groom_55 rfl rfl ?_
          refine gf_RX10_76 F dX10_groom_56 ?_
          refine V.iload_n F dX10_groom_59 rfl rfl ?_
          obtain ⟨c11, h⟩ := chk_out h
          obtain ⟨μ12, eμ12, h⟩ := nm_out h
          refine V.iast (t0 := 0) (n := 6) F mB4 (fun _ => rfl) rfl c11 eμ12 dX10_groom_60 ?_
          refine V.rload_n F dX10_groom_61 rfl rfl ?_
          refine gf_RX10_29 F dX10_groom_62 ?_
          refine V.iconst (v := 3) F dX10_groom_65 (by decide) ?_
          refine V.rload_n F dX10_groom_66 rfl rfl ?_
          refine gf_RX10_76 F dX10_groom_67 ?_
          refine V.imul F dX10_groom_70 ?_
          refine V.iload_n F dX10_groom_71 rfl rfl ?_
          obtain ⟨c13, h⟩ := chk_out h
          obtain ⟨μ14, eμ14, h⟩ := nm_out h
          refine V.iast (t0 := 0) (n := 18) F mB5 (fun _ => rfl) rfl c13 eμ14 dX10_groom_72 ?_
          refine V.rload_n F dX10_groom_73 rfl rfl ?_
          refine gf_RX10_29 F dX10_groom_74 ?_
          refine V.iconst (v := 3) F dX10_groom_77 (by decide) ?_
          refine V.rload_n F dX10_groom_78 rfl rfl ?_
          refine gf_RX10_76 F dX10_groom_79 ?_
          refine V.imul F dX10_groom_82 ?_
          refine V.iconst (v := 1) F dX10_groom_83 (by decide) ?_
          refine V.iadd F dX10_groom_84 ?_
          refine V.iload_n F dX10_groom_85 rfl rfl ?_
          obtain ⟨c15, h⟩ := chk_out h
          obtain ⟨μ16, eμ16, h⟩ := nm_out h
          refine V.iast (t0 := 0) (n := 18) F mB5 (fun _ => rfl) rfl c15 eμ16 dX10_groom_86 ?_
          refine V.rload_n F dX10_groom_87 rfl rfl ?_
          refine gf_RX10_29 F dX10_groom_88 ?_
          refine V.iconst (v := 3) F dX10_groom_91 (by decide) ?_
          refine V.rload_n F dX10_groom_92 rfl rfl ?_
          refine gf_RX10_76 F dX10_groom_93 ?_
          refine V.imul F dX10_groom_96 ?_
          refine V.iconst (v := 2) F dX10_groom_97 (by decide) ?_
          refine V.iadd F dX10_groom_98 ?_
          refine V.bipush (v := 20) F dX10_groom_99 (by decide) ?_
          obtain ⟨c17, h⟩ := chk_out h
          obtain ⟨μ18, eμ18, h⟩ := nm_out h
          refine V.iast (t0 := 0) (n := 18) F mB5 (fun _ => rfl) rfl c17 eμ18 dX10_groom_101 ?_
          refine V.rload_n F dX10_groom_102 rfl rfl ?_
          refine gf_RX10_32 F dX10_groom_103 ?_
          refine V.rload_n F dX10_groom_106 rfl rfl ?_
          refine gf_RX10_76 F dX10_groom_107 ?_
          refine V.rload_n F dX10_groom_110 rfl rfl ?_
          refine gf_RX10_76 F dX10_groom_111 ?_
          obtain ⟨c19, h⟩ := chk_out h
          obtain ⟨μ20, eμ20, h⟩ := nm_out h
          refine V.iast (t0 := 0) (n := 6) F mB6 (fun _ => rfl) rfl c19 eμ20 dX10_groom_114 ?_
          refine V.rload_n F dX10_groom_115 rfl rfl ?_
          refine V.dup F dX10_groom_116 rfl ?_
          refine gf_RX10_76 F dX10_groom_117 ?_
          refine V.iconst (v := 1) F dX10_groom_120 (by decide) ?_
          refine V.iadd F dX10_groom_121 ?_
          obtain ⟨μ21, eμ21, h⟩ := nm_out h
          refine pf_RX10_76 F eμ21 dX10_groom_122 ?_
          refine V.rload_n F dX10_groom_125 rfl rfl ?_
          refine gf_RX10_76 F dX10_groom_126 ?_
          refine V.iconst (v := 1) F dX10_groom_129 (by decide) ?_
          refine V.isub F dX10_groom_130 ?_
          obtain ⟨rfl, rfl⟩ := r2_out h
          exact V.iret F dX10_groom_131
        · have h := t_out h c10
          refine V.bipush (v := (-4)) F dX10_groom_48 (by decide) ?_
          obtain ⟨rfl, rfl⟩ := r2_out h
          exact V.iret F dX10_groom_50
      · have h := t_out h c9
        refine V.bipush (v := (-2)) F dX10_groom_36 (by decide) ?_
        obtain ⟨rfl, rfl⟩ := r2_out h
        exact V.iret F dX10_groom_38
set_option maxHeartbeats 4000000 in
set_option maxRecDepth 100000 in
theorem M_groom_ct {l : Launch} {G : Glo} {x1 : Int32} {x2 : Int32} {x3 : Int32} {μ : Mem} {r : Int32} {μ' : Mem} (h : M_groom x1 x2 x3 μ = some (r, μ')) : Ct l ΩB G 2 yX10_groom cX10_groom 4 (some .int) [.ref (G.1 0 0), .int x1, .int x2, .int x3] μ (some (.int r), μ') := by
  refine Ct.intro (by decide) (Nat.le_of_ble_eq_true rfl) ?_
  intro φ hl hG F
  subst hl; subst hG
  exact M_groom_ok F (Nat.le_refl _) h
def M_swaps (x1 : Int32) (x2 : Int32) (μ : Mem) : Option Mem :=
  chk (inb x1 6) <|
  nm (rd μ 6 0 (ix x1)) fun a2 =>
  chk (inb x2 6) <|
  chk (inb x1 6) <|
  nm (up μ 6 0 (ix x1) (rd μ 6 0 (ix x2))) fun μ5 =>
  chk (inb x2 6) <|
  nm (up μ5 6 0 (ix x2) a2) fun μ7 =>
  some μ7
set_option maxHeartbeats 4000000 in
set_option maxRecDepth 100000 in
theorem M_swaps_ok {φ : Fr} {d : Nat} (F : Fx φ ΩB cX10_swaps RX10 4 (none)) (hd : 1 ≤ d) {x1 : Int32} {x2 : Int32} {μ : Mem}  {μ' : Mem} (h : M_swaps x1 x2 μ = some μ') : V φ ΩB 4 d 0 [some (rf φ 0 0), some (.int x1), some (.int x2), none] [] μ (none, μ') := by
  unfold M_swaps at h
  refine V.rload_n F dX10_swaps_0 rfl rfl ?_
  refine gf_RX10_32 F dX10_swaps_1 ?_
  refine V.iload_n F dX10_swaps_4 rfl rfl ?_
  obtain ⟨c1, h⟩ := chk_out h
  refine V.iald (t0 := 0) (n := 6) F mB6 rfl rfl c1 dX10_swaps_5 ?_
  obtain ⟨a2, ea2, h⟩ := nm_out h
  refine V.istore_n (L' := [some (rf φ 0 0), some (.int x1), some (.int x2), some (.int a2)]) F dX10_swaps_6 rfl (by decide) rfl ea2 rfl ?_
  refine V.rload_n F dX10_swaps_7 rfl rfl ?_
  refine gf_RX10_32 F dX10_swaps_8 ?_
  refine V.iload_n F dX10_swaps_11 rfl rfl ?_
  refine V.rload_n F dX10_swaps_12 rfl rfl ?_
  refine gf_RX10_32 F dX10_swaps_13 ?_
  refine V.iload_n F dX10_swaps_16 rfl rfl ?_
  obtain ⟨c3, h⟩ := chk_out h
  refine V.iald (t0 := 0) (n := 6) F mB6 rfl rfl c3 dX10_swaps_17 ?_
  obtain ⟨c4, h⟩ := chk_out h
  obtain ⟨μ5, eμ5, h⟩ := nm_out h
  refine V.iast (t0 := 0) (n := 6) F mB6 (fun _ => rfl) rfl c4 eμ5 dX10_swaps_18 ?_
  refine V.rload_n F dX10_swaps_19 rfl rfl ?_
  refine gf_RX10_32 F dX10_swaps_20 ?_
  refine V.iload_n F dX10_swaps_23 rfl rfl ?_
  refine V.iload_n F dX10_swaps_24 rfl rfl ?_
  obtain ⟨c6, h⟩ := chk_out h
  obtain ⟨μ7, eμ7, h⟩ := nm_out h
  refine V.iast (t0 := 0) (n := 6) F mB6 (fun _ => rfl) rfl c6 eμ7 dX10_swaps_25 ?_
  obtain rfl := r1_out h
  exact V.vret F dX10_swaps_26
set_option maxHeartbeats 4000000 in
set_option maxRecDepth 100000 in
theorem M_swaps_ct {l : Launch} {G : Glo} {x1 : Int32} {x2 : Int32} {μ : Mem}  {μ' : Mem} (h : M_swaps x1 x2 μ = some μ') : Ct l ΩB G 1 yX10_swaps cX10_swaps 4 (none) [.ref (G.1 0 0), .int x1, .int x2] μ (none, μ') := by
  refine Ct.intro (by decide) (Nat.le_of_ble_eq_true rfl) ?_
  intro φ hl hG F
  subst hl; subst hG
  exact M_swaps_ok F (Nat.le_refl _) h
def M_change (x1 : Int32) (x2 : Int32) (μ : Mem) : Option (Int32 × Mem) :=
  bnd (M_isOne x1 μ) fun r2 =>
  if r2 = 0 then (
    some ((-2), μ))
  else (
    bnd (M_isOne x2 μ) fun r5 =>
    if r5 = 0 then (
      some ((-2), μ))
    else (
      if x1 = x2 then (
        some ((-2), μ))
      else (
        bnd (M_swaps x1 x2 μ) fun μ9 =>
        chk (inb x1 6) <|
        some (rd μ9 6 0 (ix x1), μ9))))
set_option maxHeartbeats 4000000 in
set_option maxRecDepth 100000 in
theorem M_change_ok {φ : Fr} {d : Nat} (F : Fx φ ΩB cX10_change RX10 3 (some .int)) (hd : 3 ≤ d) {x1 : Int32} {x2 : Int32} {μ : Mem} {r : Int32} {μ' : Mem} (h : M_change x1 x2 μ = some (r, μ')) : V φ ΩB 3 d 0 [some (rf φ 0 0), some (.int x1), some (.int x2)] [] μ (some (.int r), μ') := by
  unfold M_change at h
  refine V.rload_n F dX10_change_0 rfl rfl ?_
  refine V.iload_n F dX10_change_1 rfl rfl ?_
  obtain ⟨r2, e1, h⟩ := bnd_out h
  refine V.callVi (f := 0) (i := 0) (As := [.int x1]) F ck_RX10_85 (M_isOne_ct e1) (by omega) (by decide) rfl mB0 rfl rfl rfl (Nat.le_of_ble_eq_true rfl) dX10_change_2 ?_
  refine V.if_eq (tgt := 21) F dX10_change_5 (by decide) (fun c3 => ?_) (fun c3 => ?_)
  · have h := t_out h c3
    refine V.bipush (v := (-2)) F dX10_change_21 (by decide) ?_
    obtain ⟨rfl, rfl⟩ := r2_out h
    exact V.iret F dX10_change_23
  · have h := f_out h c3
    refine V.rload_n F dX10_change_8 rfl rfl ?_
    refine V.iload_n F dX10_change_9 rfl rfl ?_
    obtain ⟨r5, e4, h⟩ := bnd_out h
    refine V.callVi (f := 0) (i := 0) (As := [.int x2]) F ck_RX10_85 (M_isOne_ct e4) (by omega) (by decide) rfl mB0 rfl rfl rfl (Nat.le_of_ble_eq_true rfl) dX10_change_10 ?_
    refine V.if_eq (tgt := 21) F dX10_change_13 (by decide) (fun c6 => ?_) (fun c6 => ?_)
    · have h := t_out h c6
      refine V.bipush (v := (-2)) F dX10_change_21 (by decide) ?_
      obtain ⟨rfl, rfl⟩ := r2_out h
      exact V.iret F dX10_change_23
    · have h := f_out h c6
      refine V.iload_n F dX10_change_16 rfl rfl ?_
      refine V.iload_n F dX10_change_17 rfl rfl ?_
      refine V.icmp_ne (tgt := 24) F dX10_change_18 (by decide) (fun c7 => ?_) (fun c7 => ?_)
      · have h := f_out h c7
        refine V.rload_n F dX10_change_24 rfl rfl ?_
        refine V.iload_n F dX10_change_25 rfl rfl ?_
        refine V.iload_n F dX10_change_26 rfl rfl ?_
        obtain ⟨μ9, e8, h⟩ := bnd_out h
        refine V.callVv (f := 0) (i := 0) (As := [.int x1, .int x2]) F ck_RX10_113 (M_swaps_ct e8) (by omega) (by decide) rfl mB0 rfl rfl rfl (Nat.le_of_ble_eq_true rfl) dX10_change_27 ?_
        refine V.rload_n F dX10_change_30 rfl rfl ?_
        refine gf_RX10_32 F dX10_change_31 ?_
        refine V.iload_n F dX10_change_34 rfl rfl ?_
        obtain ⟨c10, h⟩ := chk_out h
        refine V.iald (t0 := 0) (n := 6) F mB6 rfl rfl c10 dX10_change_35 ?_
        obtain ⟨rfl, rfl⟩ := r2_out h
        exact V.iret F dX10_change_36
      · have h := t_out h c7
        refine V.bipush (v := (-2)) F dX10_change_21 (by decide) ?_
        obtain ⟨rfl, rfl⟩ := r2_out h
        exact V.iret F dX10_change_23
set_option maxHeartbeats 4000000 in
set_option maxRecDepth 100000 in
theorem M_change_ct {l : Launch} {G : Glo} {x1 : Int32} {x2 : Int32} {μ : Mem} {r : Int32} {μ' : Mem} (h : M_change x1 x2 μ = some (r, μ')) : Ct l ΩB G 3 yX10_change cX10_change 3 (some .int) [.ref (G.1 0 0), .int x1, .int x2] μ (some (.int r), μ') := by
  refine Ct.intro (by decide) (Nat.le_of_ble_eq_true rfl) ?_
  intro φ hl hG F
  subst hl; subst hG
  exact M_change_ok F (Nat.le_refl _) h
def M_feed (x1 : Int32) (μ : Mem) : Option (Int32 × Mem) :=
  nm (M_in (Int32.toInt64 x1) 0 255) fun r2 =>
  if r2 = 0 then (
    some ((-2), μ))
  else (
    if (rd μ 0 0 6) = 160 then (
      some ((-4), μ))
    else (
      chk (inb (rd μ 0 0 6) 160) <|
      nm (up μ 3 0 (ix (rd μ 0 0 6)) x1) fun μ6 =>
      nm (up μ6 0 0 6 ((rd μ6 0 0 6) + 1)) fun μ7 =>
      some (rd μ7 0 0 6, μ7)))
set_option maxHeartbeats 4000000 in
set_option maxRecDepth 100000 in
theorem M_feed_ok {φ : Fr} {d : Nat} (F : Fx φ ΩB cX10_feed RX10 2 (some .int)) (hd : 2 ≤ d) {x1 : Int32} {μ : Mem} {r : Int32} {μ' : Mem} (h : M_feed x1 μ = some (r, μ')) : V φ ΩB 2 d 0 [some (rf φ 0 0), some (.int x1)] [] μ (some (.int r), μ') := by
  unfold M_feed at h
  refine V.iload_n F dX10_feed_0 rfl rfl ?_
  refine V.i2l F dX10_feed_1 ?_
  refine V.lconst (v := 0) F dX10_feed_2 (by decide) ?_
  refine V.ldc2 F kl_RX10_132 dX10_feed_3 ?_
  obtain ⟨r2, e1, h⟩ := nm_out h
  refine V.callSi (As := [.long (Int32.toInt64 x1), .long 0, .long 255]) F ck_RX10_79 (M_in_ct e1) (by omega) (by decide) rfl rfl (Nat.le_of_ble_eq_true rfl) dX10_feed_6 ?_
  refine V.if_ne (tgt := 15) F dX10_feed_9 (by decide) (fun c3 => ?_) (fun c3 => ?_)
  · have h := f_out h c3
    refine V.rload_n F dX10_feed_15 rfl rfl ?_
    refine gf_RX10_134 F dX10_feed_16 ?_
    refine V.sipush (v := 160) F dX10_feed_19 (by decide) ?_
    refine V.icmp_ne (tgt := 28) F dX10_feed_22 (by decide) (fun c4 => ?_) (fun c4 => ?_)
    · have h := f_out h c4
      refine V.rload_n F dX10_feed_28 rfl rfl ?_
      refine gf_RX10_20 F dX10_feed_29 ?_
      refine V.rload_n F dX10_feed_32 rfl rfl ?_
      refine gf_RX10_134 F dX10_feed_33 ?_
      refine V.iload_n F dX10_feed_36 rfl rfl ?_
      obtain ⟨c5, h⟩ := chk_out h
      obtain ⟨μ6, eμ6, h⟩ := nm_out h
      refine V.iast (t0 := 0) (n := 160) F mB3 (fun _ => rfl) rfl c5 eμ6 dX10_feed_37 ?_
      refine V.rload_n F dX10_feed_38 rfl rfl ?_
      refine V.dup F dX10_feed_39 rfl ?_
      refine gf_RX10_134 F dX10_feed_40 ?_
      refine V.iconst (v := 1) F dX10_feed_43 (by decide) ?_
      refine V.iadd F dX10_feed_44 ?_
      obtain ⟨μ7, eμ7, h⟩ := nm_out h
      refine pf_RX10_134 F eμ7 dX10_feed_45 ?_
      refine V.rload_n F dX10_feed_48 rfl rfl ?_
      refine gf_RX10_134 F dX10_feed_49 ?_
      obtain ⟨rfl, rfl⟩ := r2_out h
      exact V.iret F dX10_feed_52
    · have h := t_out h c4
      refine V.bipush (v := (-4)) F dX10_feed_25 (by decide) ?_
      obtain ⟨rfl, rfl⟩ := r2_out h
      exact V.iret F dX10_feed_27
  · have h := t_out h c3
    refine V.bipush (v := (-2)) F dX10_feed_12 (by decide) ?_
    obtain ⟨rfl, rfl⟩ := r2_out h
    exact V.iret F dX10_feed_14
set_option maxHeartbeats 4000000 in
set_option maxRecDepth 100000 in
theorem M_feed_ct {l : Launch} {G : Glo} {x1 : Int32} {μ : Mem} {r : Int32} {μ' : Mem} (h : M_feed x1 μ = some (r, μ')) : Ct l ΩB G 2 yX10_feed cX10_feed 2 (some .int) [.ref (G.1 0 0), .int x1] μ (some (.int r), μ') := by
  refine Ct.intro (by decide) (Nat.le_of_ble_eq_true rfl) ?_
  intro φ hl hG F
  subst hl; subst hG
  exact M_feed_ok F (Nat.le_refl _) h
def M_text_14 (k14 : Int32 → Mem → Option (Int32 × Mem)) (x1 : Int32) (μ : Mem) : Option (Int32 × Mem) :=
  if x1 < (rd μ 0 0 6) then (
    chk (inb x1 160) <|
    chk (inb ((160 * (rd μ 0 0 3)) + x1) 960) <|
    nm (up μ 1 0 (ix ((160 * (rd μ 0 0 3)) + x1)) (rd μ 3 0 (ix x1))) fun μ12 =>
    nm (x1 + 1) fun a13 =>
    k14 a13 μ12)
  else (
    chk (inb (rd μ 0 0 3) 6) <|
    nm (up μ 2 0 (ix (rd μ 0 0 3)) (rd μ 0 0 6)) fun μ3 =>
    nm (up μ3 0 0 6 0) fun μ4 =>
    bnd2 (M_read (rd μ4 0 0 3) 0 μ4) fun r6 μ7 =>
    if (rd μ7 0 0 26) = 0 then (
      nm (up μ7 0 0 3 ((rd μ7 0 0 3) + 1)) fun μ9 =>
      some ((rd μ9 0 0 3) - 1, μ9))
    else (
      some ((-100) - (rd μ7 0 0 27), μ7)))
set_option maxHeartbeats 4000000 in
set_option maxRecDepth 100000 in
theorem M_text_14_ok {φ : Fr} {d : Nat} (F : Fx φ ΩB cX10_text RX10 2 (some .int)) (hd : 108 ≤ d) {k14 : Int32 → Mem → Option (Int32 × Mem)} (hk14 : ∀ (x1 : Int32) (μ : Mem) (r : Int32) (μ' : Mem), k14 x1 μ = some (r, μ') → V φ ΩB 2 d 14 [some (rf φ 0 0), some (.int x1)] [] μ (some (.int r), μ')) {x1 : Int32} {μ : Mem} {r : Int32} {μ' : Mem} (h : M_text_14 k14 x1 μ = some (r, μ')) : V φ ΩB 2 d 14 [some (rf φ 0 0), some (.int x1)] [] μ (some (.int r), μ') := by
  unfold M_text_14 at h
  refine V.iload_n F dX10_text_14 rfl rfl ?_
  refine V.rload_n F dX10_text_15 rfl rfl ?_
  refine gf_RX10_134 F dX10_text_16 ?_
  refine V.icmp_ge (tgt := 49) F dX10_text_19 (by decide) (fun c1 => ?_) (fun c1 => ?_)
  · have h := f_out h c1
    refine V.rload_n F dX10_text_49 rfl rfl ?_
    refine gf_RX10_17 F dX10_text_50 ?_
    refine V.rload_n F dX10_text_53 rfl rfl ?_
    refine gf_RX10_73 F dX10_text_54 ?_
    refine V.rload_n F dX10_text_57 rfl rfl ?_
    refine gf_RX10_134 F dX10_text_58 ?_
    obtain ⟨c2, h⟩ := chk_out h
    obtain ⟨μ3, eμ3, h⟩ := nm_out h
    refine V.iast (t0 := 0) (n := 6) F mB2 (fun _ => rfl) rfl c2 eμ3 dX10_text_61 ?_
    refine V.rload_n F dX10_text_62 rfl rfl ?_
    refine V.iconst (v := 0) F dX10_text_63 (by decide) ?_
    obtain ⟨μ4, eμ4, h⟩ := nm_out h
    refine pf_RX10_134 F eμ4 dX10_text_64 ?_
    refine V.rload_n F dX10_text_67 rfl rfl ?_
    refine V.rload_n F dX10_text_68 rfl rfl ?_
    refine gf_RX10_73 F dX10_text_69 ?_
    refine V.iconst (v := 0) F dX10_text_72 (by decide) ?_
    obtain ⟨r6, μ7, e5, h⟩ := bnd2_out h
    refine V.callVi (f := 0) (i := 0) (As := [.int (rd μ4 0 0 3), .int 0]) F ck_RX10_246 (M_read_ct e5) (by omega) (by decide) rfl mB0 rfl rfl rfl (Nat.le_of_ble_eq_true rfl) dX10_text_73 ?_
    refine V.istore_n (L' := [some (rf φ 0 0), some (.int r6)]) F dX10_text_76 rfl (by decide) rfl rfl rfl ?_
    refine V.rload_n F dX10_text_77 rfl rfl ?_
    refine gf_RX10_167 F dX10_text_78 ?_
    refine V.if_eq (tgt := 92) F dX10_text_81 (by decide) (fun c8 => ?_) (fun c8 => ?_)
    · have h := t_out h c8
      refine V.rload_n F dX10_text_92 rfl rfl ?_
      refine V.dup F dX10_text_93 rfl ?_
      refine gf_RX10_73 F dX10_text_94 ?_
      refine V.iconst (v := 1) F dX10_text_97 (by decide) ?_
      refine V.iadd F dX10_text_98 ?_
      obtain ⟨μ9, eμ9, h⟩ := nm_out h
      refine pf_RX10_73 F eμ9 dX10_text_99 ?_
      refine V.rload_n F dX10_text_102 rfl rfl ?_
      refine gf_RX10_73 F dX10_text_103 ?_
      refine V.iconst (v := 1) F dX10_text_106 (by decide) ?_
      refine V.isub F dX10_text_107 ?_
      obtain ⟨rfl, rfl⟩ := r2_out h
      exact V.iret F dX10_text_108
    · have h := f_out h c8
      refine V.bipush (v := (-100)) F dX10_text_84 (by decide) ?_
      refine V.rload_n F dX10_text_86 rfl rfl ?_
      refine gf_RX10_171 F dX10_text_87 ?_
      refine V.isub F dX10_text_90 ?_
      obtain ⟨rfl, rfl⟩ := r2_out h
      exact V.iret F dX10_text_91
  · have h := t_out h c1
    refine V.rload_n F dX10_text_22 rfl rfl ?_
    refine gf_RX10_13 F dX10_text_23 ?_
    refine V.sipush (v := 160) F dX10_text_26 (by decide) ?_
    refine V.rload_n F dX10_text_29 rfl rfl ?_
    refine gf_RX10_73 F dX10_text_30 ?_
    refine V.imul F dX10_text_33 ?_
    refine V.iload_n F dX10_text_34 rfl rfl ?_
    refine V.iadd F dX10_text_35 ?_
    refine V.rload_n F dX10_text_36 rfl rfl ?_
    refine gf_RX10_20 F dX10_text_37 ?_
    refine V.iload_n F dX10_text_40 rfl rfl ?_
    obtain ⟨c10, h⟩ := chk_out h
    refine V.iald (t0 := 0) (n := 160) F mB3 rfl rfl c10 dX10_text_41 ?_
    obtain ⟨c11, h⟩ := chk_out h
    obtain ⟨μ12, eμ12, h⟩ := nm_out h
    refine V.iast (t0 := 0) (n := 960) F mB1 (fun _ => rfl) rfl c11 eμ12 dX10_text_42 ?_
    obtain ⟨a13, ea13, h⟩ := nm_out h
    refine V.iinc (z := 1) (L' := [some (rf φ 0 0), some (.int a13)]) F dX10_text_43 rfl (by decide) ea13 (by decide) rfl rfl ?_
    refine V.goto (tgt := 14) F dX10_text_46 (by decide) ?_
    exact hk14 _ _ _ _ h
def M_text_14L : Nat → Int32 → Mem → Option (Int32 × Mem)
  | 0 => fun _ _ => none
  | n + 1 => M_text_14 (M_text_14L n)
set_option maxHeartbeats 4000000 in
set_option maxRecDepth 100000 in
theorem M_text_14L_ok {φ : Fr} {d : Nat} (F : Fx φ ΩB cX10_text RX10 2 (some .int)) (hd : 108 ≤ d) : ∀ (n : Nat) (x1 : Int32) (μ : Mem) (r : Int32) (μ' : Mem), M_text_14L n x1 μ = some (r, μ') → V φ ΩB 2 d 14 [some (rf φ 0 0), some (.int x1)] [] μ (some (.int r), μ') := by
  intro n
  induction n with
  | zero => intro x1 μ r μ' h; cases h
  | succ n ih => intro x1 μ r μ' h; exact M_text_14_ok F hd ih h
def M_text (μ : Mem) : Option (Int32 × Mem) :=
  if (rd μ 0 0 3) = 6 then (
    some ((-4), μ))
  else (
    M_text_14L 1000 0 μ)
set_option maxHeartbeats 4000000 in
set_option maxRecDepth 100000 in
theorem M_text_ok {φ : Fr} {d : Nat} (F : Fx φ ΩB cX10_text RX10 2 (some .int)) (hd : 108 ≤ d) {μ : Mem} {r : Int32} {μ' : Mem} (h : M_text μ = some (r, μ')) : V φ ΩB 2 d 0 [some (rf φ 0 0), none] [] μ (some (.int r), μ') := by
  unfold M_text at h
  refine V.rload_n F dX10_text_0 rfl rfl ?_
  refine gf_RX10_73 F dX10_text_1 ?_
  refine V.bipush (v := 6) F dX10_text_4 (by decide) ?_
  refine V.icmp_ne (tgt := 12) F dX10_text_6 (by decide) (fun c1 => ?_) (fun c1 => ?_)
  · have h := f_out h c1
    refine V.iconst (v := 0) F dX10_text_12 (by decide) ?_
    refine V.istore_n (L' := [some (rf φ 0 0), some (.int 0)]) F dX10_text_13 rfl (by decide) rfl rfl rfl ?_
    exact M_text_14L_ok F hd 1000 _ _ _ _ h
  · have h := t_out h c1
    refine V.bipush (v := (-4)) F dX10_text_9 (by decide) ?_
    obtain ⟨rfl, rfl⟩ := r2_out h
    exact V.iret F dX10_text_11
set_option maxHeartbeats 4000000 in
set_option maxRecDepth 100000 in
theorem M_text_ct {l : Launch} {G : Glo} {μ : Mem} {r : Int32} {μ' : Mem} (h : M_text μ = some (r, μ')) : Ct l ΩB G 108 yX10_text cX10_text 2 (some .int) [.ref (G.1 0 0)] μ (some (.int r), μ') := by
  refine Ct.intro (by decide) (Nat.le_of_ble_eq_true rfl) ?_
  intro φ hl hG F
  subst hl; subst hG
  exact M_text_ok F (Nat.le_refl _) h
def M_force (x1 : Int32) (μ : Mem) : (Int32 × Mem) :=
  nm (M_in (Int32.toInt64 x1) 0 (Int32.toInt64 ((rd μ 0 0 3) - 1))) fun r2 =>
  if r2 = 0 then (
    ((-2), μ))
  else (
    nm (rd μ 0 0 4) fun a4 =>
    nm (up μ 0 0 4 x1) fun μ5 =>
    (a4, μ5))
set_option maxHeartbeats 4000000 in
set_option maxRecDepth 100000 in
theorem M_force_ok {φ : Fr} {d : Nat} (F : Fx φ ΩB cX10_force RX10 3 (some .int)) (hd : 2 ≤ d) {x1 : Int32} {μ : Mem} {r : Int32} {μ' : Mem} (h : M_force x1 μ = (r, μ')) : V φ ΩB 3 d 0 [some (rf φ 0 0), some (.int x1), none] [] μ (some (.int r), μ') := by
  unfold M_force at h
  refine V.iload_n F dX10_force_0 rfl rfl ?_
  refine V.i2l F dX10_force_1 ?_
  refine V.lconst (v := 0) F dX10_force_2 (by decide) ?_
  refine V.rload_n F dX10_force_3 rfl rfl ?_
  refine gf_RX10_73 F dX10_force_4 ?_
  refine V.iconst (v := 1) F dX10_force_7 (by decide) ?_
  refine V.isub F dX10_force_8 ?_
  refine V.i2l F dX10_force_9 ?_
  obtain ⟨r2, e1, h⟩ := nm_out h
  refine V.callSi (As := [.long (Int32.toInt64 x1), .long 0, .long (Int32.toInt64 ((rd μ 0 0 3) - 1))]) F ck_RX10_79 (M_in_ct e1) (by omega) (by decide) rfl rfl (Nat.le_of_ble_eq_true rfl) dX10_force_10 ?_
  refine V.if_ne (tgt := 19) F dX10_force_13 (by decide) (fun c3 => ?_) (fun c3 => ?_)
  · have h := f_out h c3
    refine V.rload_n F dX10_force_19 rfl rfl ?_
    refine gf_RX10_104 F dX10_force_20 ?_
    obtain ⟨a4, ea4, h⟩ := nm_out h
    refine V.istore_n (L' := [some (rf φ 0 0), some (.int x1), some (.int a4)]) F dX10_force_23 rfl (by decide) rfl ea4 rfl ?_
    refine V.rload_n F dX10_force_24 rfl rfl ?_
    refine V.iload_n F dX10_force_25 rfl rfl ?_
    obtain ⟨μ5, eμ5, h⟩ := nm_out h
    refine pf_RX10_104 F eμ5 dX10_force_26 ?_
    refine V.iload_n F dX10_force_29 rfl rfl ?_
    obtain ⟨rfl, rfl⟩ := p2_out h
    exact V.iret F dX10_force_30
  · have h := t_out h c3
    refine V.bipush (v := (-2)) F dX10_force_16 (by decide) ?_
    obtain ⟨rfl, rfl⟩ := p2_out h
    exact V.iret F dX10_force_18
set_option maxHeartbeats 4000000 in
set_option maxRecDepth 100000 in
theorem M_force_ct {l : Launch} {G : Glo} {x1 : Int32} {μ : Mem} {r : Int32} {μ' : Mem} (h : M_force x1 μ = (r, μ')) : Ct l ΩB G 2 yX10_force cX10_force 3 (some .int) [.ref (G.1 0 0), .int x1] μ (some (.int r), μ') := by
  refine Ct.intro (by decide) (Nat.le_of_ble_eq_true rfl) ?_
  intro φ hl hG F
  subst hl; subst hG
  exact M_force_ok F (Nat.le_refl _) h
def M_lives_106 (k33 : Int32 → Int32 → Int32 → Int32 → Int32 → Mem → Option Mem) (x1 : Int32) (x2 : Int32) (x3 : Int32) (x4 : Int32) (x5 : Int32) (μ : Mem) : Option Mem :=
  bnd2 (M_calmsOf x1 x2 (rd μ 0 0 28) μ) fun r2 μ3 =>
  nm (M_within ((rd μ 0 0 28) - r2) 0 99) fun r5 =>
  nm (up μ3 0 0 28 r5) fun μ6 =>
  nm (up μ6 0 0 7 ((rd μ6 0 0 7) + 1)) fun μ7 =>
  nm (x5 + 1) fun a8 =>
  k33 x1 x2 x3 x4 a8 μ7
set_option maxHeartbeats 4000000 in
set_option maxRecDepth 100000 in
theorem M_lives_106_ok {φ : Fr} {d : Nat} (F : Fx φ ΩB cX10_lives RX10 6 (none)) (hd : 110 ≤ d) {k33 : Int32 → Int32 → Int32 → Int32 → Int32 → Mem → Option Mem} (hk33 : ∀ (x1 : Int32) (x2 : Int32) (x3 : Int32) (x4 : Int32) (x5 : Int32) (μ : Mem)  (μ' : Mem), k33 x1 x2 x3 x4 x5 μ = some μ' → V φ ΩB 6 d 33 [some (rf φ 0 0), some (.int x1), some (.int x2), some (.int x3), some (.int x4), some (.int x5)] [] μ (none, μ')) {x1 : Int32} {x2 : Int32} {x3 : Int32} {x4 : Int32} {x5 : Int32} {μ : Mem}  {μ' : Mem} (h : M_lives_106 k33 x1 x2 x3 x4 x5 μ = some μ') : V φ ΩB 6 d 106 [some (rf φ 0 0), some (.int x1), some (.int x2), some (.int x3), some (.int x4), some (.int x5)] [] μ (none, μ') := by
  unfold M_lives_106 at h
  refine V.rload_n F dX10_lives_106 rfl rfl ?_
  refine V.rload_n F dX10_lives_107 rfl rfl ?_
  refine gf_RX10_256 F dX10_lives_108 ?_
  refine V.rload_n F dX10_lives_111 rfl rfl ?_
  refine V.iload_n F dX10_lives_112 rfl rfl ?_
  refine V.iload_n F dX10_lives_113 rfl rfl ?_
  refine V.rload_n F dX10_lives_114 rfl rfl ?_
  refine gf_RX10_256 F dX10_lives_115 ?_
  obtain ⟨r2, μ3, e1, h⟩ := bnd2_out h
  refine V.callVi (f := 0) (i := 0) (As := [.int x1, .int x2, .int (rd μ 0 0 28)]) F ck_RX10_126 (M_calmsOf_ct e1) (by omega) (by decide) rfl mB0 rfl rfl rfl (Nat.le_of_ble_eq_true rfl) dX10_lives_118 ?_
  refine V.isub F dX10_lives_121 ?_
  refine V.iconst (v := 0) F dX10_lives_122 (by decide) ?_
  refine V.bipush (v := 99) F dX10_lives_123 (by decide) ?_
  obtain ⟨r5, e4, h⟩ := nm_out h
  refine V.callSi (As := [.int ((rd μ 0 0 28) - r2), .int 0, .int 99]) F ck_RX10_249 (M_within_ct e4) (by omega) (by decide) rfl rfl (Nat.le_of_ble_eq_true rfl) dX10_lives_125 ?_
  obtain ⟨μ6, eμ6, h⟩ := nm_out h
  refine pf_RX10_256 F eμ6 dX10_lives_128 ?_
  refine V.rload_n F dX10_lives_131 rfl rfl ?_
  refine V.dup F dX10_lives_132 rfl ?_
  refine gf_RX10_101 F dX10_lives_133 ?_
  refine V.iconst (v := 1) F dX10_lives_136 (by decide) ?_
  refine V.iadd F dX10_lives_137 ?_
  obtain ⟨μ7, eμ7, h⟩ := nm_out h
  refine pf_RX10_101 F eμ7 dX10_lives_138 ?_
  obtain ⟨a8, ea8, h⟩ := nm_out h
  refine V.iinc (z := 1) (L' := [some (rf φ 0 0), some (.int x1), some (.int x2), some (.int x3), some (.int x4), some (.int a8)]) F dX10_lives_141 rfl (by decide) ea8 (by decide) rfl rfl ?_
  refine V.goto (tgt := 33) F dX10_lives_144 (by decide) ?_
  exact hk33 _ _ _ _ _ _ _ h
def M_lives_103 (k33 : Int32 → Int32 → Int32 → Int32 → Int32 → Mem → Option Mem) (x1 : Int32) (x2 : Int32) (x3 : Int32) (x4 : Int32) (x5 : Int32) (y1 : Int32) (μ : Mem) : Option Mem :=
  nm (up μ 0 0 30 y1) fun μ1 =>
  M_lives_106 k33 x1 x2 x3 x4 x5 μ1
set_option maxHeartbeats 4000000 in
set_option maxRecDepth 100000 in
theorem M_lives_103_ok {φ : Fr} {d : Nat} (F : Fx φ ΩB cX10_lives RX10 6 (none)) (hd : 110 ≤ d) {k33 : Int32 → Int32 → Int32 → Int32 → Int32 → Mem → Option Mem} (hk33 : ∀ (x1 : Int32) (x2 : Int32) (x3 : Int32) (x4 : Int32) (x5 : Int32) (μ : Mem)  (μ' : Mem), k33 x1 x2 x3 x4 x5 μ = some μ' → V φ ΩB 6 d 33 [some (rf φ 0 0), some (.int x1), some (.int x2), some (.int x3), some (.int x4), some (.int x5)] [] μ (none, μ')) {x1 : Int32} {x2 : Int32} {x3 : Int32} {x4 : Int32} {x5 : Int32} {y1 : Int32} {μ : Mem}  {μ' : Mem} (h : M_lives_103 k33 x1 x2 x3 x4 x5 y1 μ = some μ') : V φ ΩB 6 d 103 [some (rf φ 0 0), some (.int x1), some (.int x2), some (.int x3), some (.int x4), some (.int x5)] [.int y1, rf φ 0 0] μ (none, μ') := by
  unfold M_lives_103 at h
  obtain ⟨μ1, eμ1, h⟩ := nm_out h
  refine pf_RX10_262 F eμ1 dX10_lives_103 ?_
  exact M_lives_106_ok F hd hk33 h
def M_lives_33 (k33 : Int32 → Int32 → Int32 → Int32 → Int32 → Mem → Option Mem) (x1 : Int32) (x2 : Int32) (x3 : Int32) (x4 : Int32) (x5 : Int32) (μ : Mem) : Option Mem :=
  if x5 < x3 then (
    bnd2 (M_heatsOf x1 x2 (rd μ 0 0 28) μ) fun r4 μ5 =>
    nm (M_within ((rd μ 0 0 28) + r4) 0 99) fun r7 =>
    nm (up μ5 0 0 28 r7) fun μ8 =>
    if (rd μ8 0 0 28) < (rd μ8 0 0 8) then (
      M_lives_106 k33 x1 x2 x3 x4 x5 μ8)
    else (
      nm (up μ8 0 0 29 ((rd μ8 0 0 29) + 1)) fun μ10 =>
      if (rd μ10 0 0 30) = (-1) then (
        M_lives_103 k33 x1 x2 x3 x4 x5 x5 μ10)
      else (
        M_lives_103 k33 x1 x2 x3 x4 x5 (rd μ10 0 0 30) μ10)))
  else (
    nm (up μ 0 0 7 x4) fun μ2 =>
    some μ2)
set_option maxHeartbeats 4000000 in
set_option maxRecDepth 100000 in
theorem M_lives_33_ok {φ : Fr} {d : Nat} (F : Fx φ ΩB cX10_lives RX10 6 (none)) (hd : 110 ≤ d) {k33 : Int32 → Int32 → Int32 → Int32 → Int32 → Mem → Option Mem} (hk33 : ∀ (x1 : Int32) (x2 : Int32) (x3 : Int32) (x4 : Int32) (x5 : Int32) (μ : Mem)  (μ' : Mem), k33 x1 x2 x3 x4 x5 μ = some μ' → V φ ΩB 6 d 33 [some (rf φ 0 0), some (.int x1), some (.int x2), some (.int x3), some (.int x4), some (.int x5)] [] μ (none, μ')) {x1 : Int32} {x2 : Int32} {x3 : Int32} {x4 : Int32} {x5 : Int32} {μ : Mem}  {μ' : Mem} (h : M_lives_33 k33 x1 x2 x3 x4 x5 μ = some μ') : V φ ΩB 6 d 33 [some (rf φ 0 0), some (.int x1), some (.int x2), some (.int x3), some (.int x4), some (.int x5)] [] μ (none, μ') := by
  unfold M_lives_33 at h
  refine V.iload F dX10_lives_33 rfl ?_
  refine V.iload_n F dX10_lives_35 rfl rfl ?_
  refine V.icmp_ge (tgt := 147) F dX10_lives_36 (by decide) (fun c1 => ?_) (fun c1 => ?_)
  · have h := f_out h c1
    refine V.rload_n F dX10_lives_147 rfl rfl ?_
    refine V.iload F dX10_lives_148 rfl ?_
    obtain ⟨μ2, eμ2, h⟩ := nm_out h
    refine pf_RX10_101 F eμ2 dX10_lives_150 ?_
    obtain rfl := r1_out h
    exact V.vret F dX10_lives_153
  · have h := t_out h c1
    refine V.rload_n F dX10_lives_39 rfl rfl ?_
    refine V.rload_n F dX10_lives_40 rfl rfl ?_
    refine gf_RX10_256 F dX10_lives_41 ?_
    refine V.rload_n F dX10_lives_44 rfl rfl ?_
    refine V.iload_n F dX10_lives_45 rfl rfl ?_
    refine V.iload_n F dX10_lives_46 rfl rfl ?_
    refine V.rload_n F dX10_lives_47 rfl rfl ?_
    refine gf_RX10_256 F dX10_lives_48 ?_
    obtain ⟨r4, μ5, e3, h⟩ := bnd2_out h
    refine V.callVi (f := 0) (i := 0) (As := [.int x1, .int x2, .int (rd μ 0 0 28)]) F ck_RX10_122 (M_heatsOf_ct e3) (by omega) (by decide) rfl mB0 rfl rfl rfl (Nat.le_of_ble_eq_true rfl) dX10_lives_51 ?_
    refine V.iadd F dX10_lives_54 ?_
    refine V.iconst (v := 0) F dX10_lives_55 (by decide) ?_
    refine V.bipush (v := 99) F dX10_lives_56 (by decide) ?_
    obtain ⟨r7, e6, h⟩ := nm_out h
    refine V.callSi (As := [.int ((rd μ 0 0 28) + r4), .int 0, .int 99]) F ck_RX10_249 (M_within_ct e6) (by omega) (by decide) rfl rfl (Nat.le_of_ble_eq_true rfl) dX10_lives_58 ?_
    obtain ⟨μ8, eμ8, h⟩ := nm_out h
    refine pf_RX10_256 F eμ8 dX10_lives_61 ?_
    refine V.rload_n F dX10_lives_64 rfl rfl ?_
    refine gf_RX10_256 F dX10_lives_65 ?_
    refine V.rload_n F dX10_lives_68 rfl rfl ?_
    refine gf_RX10_23 F dX10_lives_69 ?_
    refine V.icmp_lt (tgt := 106) F dX10_lives_72 (by decide) (fun c9 => ?_) (fun c9 => ?_)
    · have h := t_out h c9
      exact M_lives_106_ok F hd hk33 h
    · have h := f_out h c9
      refine V.rload_n F dX10_lives_75 rfl rfl ?_
      refine V.dup F dX10_lives_76 rfl ?_
      refine gf_RX10_259 F dX10_lives_77 ?_
      refine V.iconst (v := 1) F dX10_lives_80 (by decide) ?_
      refine V.iadd F dX10_lives_81 ?_
      obtain ⟨μ10, eμ10, h⟩ := nm_out h
      refine pf_RX10_259 F eμ10 dX10_lives_82 ?_
      refine V.rload_n F dX10_lives_85 rfl rfl ?_
      refine V.rload_n F dX10_lives_86 rfl rfl ?_
      refine gf_RX10_262 F dX10_lives_87 ?_
      refine V.iconst (v := (-1)) F dX10_lives_90 (by decide) ?_
      refine V.icmp_ne (tgt := 99) F dX10_lives_91 (by decide) (fun c11 => ?_) (fun c11 => ?_)
      · have h := f_out h c11
        refine V.rload_n F dX10_lives_99 rfl rfl ?_
        refine gf_RX10_262 F dX10_lives_100 ?_
        exact M_lives_103_ok F hd hk33 h
      · have h := t_out h c11
        refine V.iload F dX10_lives_94 rfl ?_
        refine V.goto (tgt := 103) F dX10_lives_96 (by decide) ?_
        exact M_lives_103_ok F hd hk33 h
def M_lives_33L : Nat → Int32 → Int32 → Int32 → Int32 → Int32 → Mem → Option Mem
  | 0 => fun _ _ _ _ _ _ => none
  | n + 1 => M_lives_33 (M_lives_33L n)
set_option maxHeartbeats 4000000 in
set_option maxRecDepth 100000 in
theorem M_lives_33L_ok {φ : Fr} {d : Nat} (F : Fx φ ΩB cX10_lives RX10 6 (none)) (hd : 110 ≤ d) : ∀ (n : Nat) (x1 : Int32) (x2 : Int32) (x3 : Int32) (x4 : Int32) (x5 : Int32) (μ : Mem)  (μ' : Mem), M_lives_33L n x1 x2 x3 x4 x5 μ = some μ' → V φ ΩB 6 d 33 [some (rf φ 0 0), some (.int x1), some (.int x2), some (.int x3), some (.int x4), some (.int x5)] [] μ (none, μ') := by
  intro n
  induction n with
  | zero => intro x1 x2 x3 x4 x5 μ μ' h; cases h
  | succ n ih => intro x1 x2 x3 x4 x5 μ μ' h; exact M_lives_33_ok F hd ih h
def M_lives (x1 : Int32) (x2 : Int32) (x3 : Int32) (μ : Mem) : Option Mem :=
  nm (rd μ 0 0 7) fun a1 =>
  chk (inb ((3 * x1) + 2) 18) <|
  nm (up μ 0 0 28 (rd μ 5 0 (ix ((3 * x1) + 2)))) fun μ3 =>
  nm (up μ3 0 0 29 0) fun μ4 =>
  nm (up μ4 0 0 30 (-1)) fun μ5 =>
  M_lives_33L 1000 x1 x2 x3 a1 0 μ5
set_option maxHeartbeats 4000000 in
set_option maxRecDepth 100000 in
theorem M_lives_ok {φ : Fr} {d : Nat} (F : Fx φ ΩB cX10_lives RX10 6 (none)) (hd : 110 ≤ d) {x1 : Int32} {x2 : Int32} {x3 : Int32} {μ : Mem}  {μ' : Mem} (h : M_lives x1 x2 x3 μ = some μ') : V φ ΩB 6 d 0 [some (rf φ 0 0), some (.int x1), some (.int x2), some (.int x3), none, none] [] μ (none, μ') := by
  unfold M_lives at h
  refine V.rload_n F dX10_lives_0 rfl rfl ?_
  refine gf_RX10_101 F dX10_lives_1 ?_
  obtain ⟨a1, ea1, h⟩ := nm_out h
  refine V.istore (L' := [some (rf φ 0 0), some (.int x1), some (.int x2), some (.int x3), some (.int a1), none]) F dX10_lives_4 (by decide) rfl ea1 rfl ?_
  refine V.rload_n F dX10_lives_6 rfl rfl ?_
  refine V.rload_n F dX10_lives_7 rfl rfl ?_
  refine gf_RX10_29 F dX10_lives_8 ?_
  refine V.iconst (v := 3) F dX10_lives_11 (by decide) ?_
  refine V.iload_n F dX10_lives_12 rfl rfl ?_
  refine V.imul F dX10_lives_13 ?_
  refine V.iconst (v := 2) F dX10_lives_14 (by decide) ?_
  refine V.iadd F dX10_lives_15 ?_
  obtain ⟨c2, h⟩ := chk_out h
  refine V.iald (t0 := 0) (n := 18) F mB5 rfl rfl c2 dX10_lives_16 ?_
  obtain ⟨μ3, eμ3, h⟩ := nm_out h
  refine pf_RX10_256 F eμ3 dX10_lives_17 ?_
  refine V.rload_n F dX10_lives_20 rfl rfl ?_
  refine V.iconst (v := 0) F dX10_lives_21 (by decide) ?_
  obtain ⟨μ4, eμ4, h⟩ := nm_out h
  refine pf_RX10_259 F eμ4 dX10_lives_22 ?_
  refine V.rload_n F dX10_lives_25 rfl rfl ?_
  refine V.iconst (v := (-1)) F dX10_lives_26 (by decide) ?_
  obtain ⟨μ5, eμ5, h⟩ := nm_out h
  refine pf_RX10_262 F eμ5 dX10_lives_27 ?_
  refine V.iconst (v := 0) F dX10_lives_30 (by decide) ?_
  refine V.istore (L' := [some (rf φ 0 0), some (.int x1), some (.int x2), some (.int x3), some (.int a1), some (.int 0)]) F dX10_lives_31 (by decide) rfl rfl rfl ?_
  exact M_lives_33L_ok F hd 1000 _ _ _ _ _ _ _ h
set_option maxHeartbeats 4000000 in
set_option maxRecDepth 100000 in
theorem M_lives_ct {l : Launch} {G : Glo} {x1 : Int32} {x2 : Int32} {x3 : Int32} {μ : Mem}  {μ' : Mem} (h : M_lives x1 x2 x3 μ = some μ') : Ct l ΩB G 110 yX10_lives cX10_lives 6 (none) [.ref (G.1 0 0), .int x1, .int x2, .int x3] μ (none, μ') := by
  refine Ct.intro (by decide) (Nat.le_of_ble_eq_true rfl) ?_
  intro φ hl hG F
  subst hl; subst hG
  exact M_lives_ok F (Nat.le_refl _) h
def M_day_17 (k17 : Int32 → Int32 → Mem → Option (Int32 × Mem)) (x1 : Int32) (x2 : Int32) (μ : Mem) : Option (Int32 × Mem) :=
  if x2 < (rd μ 0 0 12) then (
    chk (inb x2 6) <|
    bnd (M_lives x2 (rd μ 6 0 (ix x2)) 1 μ) fun μ5 =>
    chk (inb ((3 * x2) + 2) 18) <|
    nm (up μ5 5 0 (ix ((3 * x2) + 2)) (rd μ5 0 0 28)) fun μ7 =>
    nm (x1 + (rd μ7 0 0 29)) fun a8 =>
    nm (x2 + 1) fun a9 =>
    k17 a8 a9 μ7)
  else (
    nm (up μ 0 0 7 ((rd μ 0 0 7) + 1)) fun μ2 =>
    some (x1, μ2))
set_option maxHeartbeats 4000000 in
set_option maxRecDepth 100000 in
theorem M_day_17_ok {φ : Fr} {d : Nat} (F : Fx φ ΩB cX10_day RX10 3 (some .int)) (hd : 111 ≤ d) {k17 : Int32 → Int32 → Mem → Option (Int32 × Mem)} (hk17 : ∀ (x1 : Int32) (x2 : Int32) (μ : Mem) (r : Int32) (μ' : Mem), k17 x1 x2 μ = some (r, μ') → V φ ΩB 3 d 17 [some (rf φ 0 0), some (.int x1), some (.int x2)] [] μ (some (.int r), μ')) {x1 : Int32} {x2 : Int32} {μ : Mem} {r : Int32} {μ' : Mem} (h : M_day_17 k17 x1 x2 μ = some (r, μ')) : V φ ΩB 3 d 17 [some (rf φ 0 0), some (.int x1), some (.int x2)] [] μ (some (.int r), μ') := by
  unfold M_day_17 at h
  refine V.iload_n F dX10_day_17 rfl rfl ?_
  refine V.rload_n F dX10_day_18 rfl rfl ?_
  refine gf_RX10_76 F dX10_day_19 ?_
  refine V.icmp_ge (tgt := 64) F dX10_day_22 (by decide) (fun c1 => ?_) (fun c1 => ?_)
  · have h := f_out h c1
    refine V.rload_n F dX10_day_64 rfl rfl ?_
    refine V.dup F dX10_day_65 rfl ?_
    refine gf_RX10_101 F dX10_day_66 ?_
    refine V.iconst (v := 1) F dX10_day_69 (by decide) ?_
    refine V.iadd F dX10_day_70 ?_
    obtain ⟨μ2, eμ2, h⟩ := nm_out h
    refine pf_RX10_101 F eμ2 dX10_day_71 ?_
    refine V.iload_n F dX10_day_74 rfl rfl ?_
    obtain ⟨rfl, rfl⟩ := r2_out h
    exact V.iret F dX10_day_75
  · have h := t_out h c1
    refine V.rload_n F dX10_day_25 rfl rfl ?_
    refine V.iload_n F dX10_day_26 rfl rfl ?_
    refine V.rload_n F dX10_day_27 rfl rfl ?_
    refine gf_RX10_32 F dX10_day_28 ?_
    refine V.iload_n F dX10_day_31 rfl rfl ?_
    obtain ⟨c3, h⟩ := chk_out h
    refine V.iald (t0 := 0) (n := 6) F mB6 rfl rfl c3 dX10_day_32 ?_
    refine V.iconst (v := 1) F dX10_day_33 (by decide) ?_
    obtain ⟨μ5, e4, h⟩ := bnd_out h
    refine V.callVv (f := 0) (i := 0) (As := [.int x2, .int (rd μ 6 0 (ix x2)), .int 1]) F ck_RX10_265 (M_lives_ct e4) (by omega) (by decide) rfl mB0 rfl rfl rfl (Nat.le_of_ble_eq_true rfl) dX10_day_34 ?_
    refine V.rload_n F dX10_day_37 rfl rfl ?_
    refine gf_RX10_29 F dX10_day_38 ?_
    refine V.iconst (v := 3) F dX10_day_41 (by decide) ?_
    refine V.iload_n F dX10_day_42 rfl rfl ?_
    refine V.imul F dX10_day_43 ?_
    refine V.iconst (v := 2) F dX10_day_44 (by decide) ?_
    refine V.iadd F dX10_day_45 ?_
    refine V.rload_n F dX10_day_46 rfl rfl ?_
    refine gf_RX10_256 F dX10_day_47 ?_
    obtain ⟨c6, h⟩ := chk_out h
    obtain ⟨μ7, eμ7, h⟩ := nm_out h
    refine V.iast (t0 := 0) (n := 18) F mB5 (fun _ => rfl) rfl c6 eμ7 dX10_day_50 ?_
    refine V.iload_n F dX10_day_51 rfl rfl ?_
    refine V.rload_n F dX10_day_52 rfl rfl ?_
    refine gf_RX10_259 F dX10_day_53 ?_
    refine V.iadd F dX10_day_56 ?_
    obtain ⟨a8, ea8, h⟩ := nm_out h
    refine V.istore_n (L' := [some (rf φ 0 0), some (.int a8), some (.int x2)]) F dX10_day_57 rfl (by decide) rfl ea8 rfl ?_
    obtain ⟨a9, ea9, h⟩ := nm_out h
    refine V.iinc (z := 1) (L' := [some (rf φ 0 0), some (.int a8), some (.int a9)]) F dX10_day_58 rfl (by decide) ea9 (by decide) rfl rfl ?_
    refine V.goto (tgt := 17) F dX10_day_61 (by decide) ?_
    exact hk17 _ _ _ _ _ h
def M_day_17L : Nat → Int32 → Int32 → Mem → Option (Int32 × Mem)
  | 0 => fun _ _ _ => none
  | n + 1 => M_day_17 (M_day_17L n)
set_option maxHeartbeats 4000000 in
set_option maxRecDepth 100000 in
theorem M_day_17L_ok {φ : Fr} {d : Nat} (F : Fx φ ΩB cX10_day RX10 3 (some .int)) (hd : 111 ≤ d) : ∀ (n : Nat) (x1 : Int32) (x2 : Int32) (μ : Mem) (r : Int32) (μ' : Mem), M_day_17L n x1 x2 μ = some (r, μ') → V φ ΩB 3 d 17 [some (rf φ 0 0), some (.int x1), some (.int x2)] [] μ (some (.int r), μ') := by
  intro n
  induction n with
  | zero => intro x1 x2 μ r μ' h; cases h
  | succ n ih => intro x1 x2 μ r μ' h; exact M_day_17_ok F hd ih h
def M_day (μ : Mem) : Option (Int32 × Mem) :=
  if (rd μ 0 0 7) = 999 then (
    some ((-3), μ))
  else (
    M_day_17L 1000 0 0 μ)
set_option maxHeartbeats 4000000 in
set_option maxRecDepth 100000 in
theorem M_day_ok {φ : Fr} {d : Nat} (F : Fx φ ΩB cX10_day RX10 3 (some .int)) (hd : 111 ≤ d) {μ : Mem} {r : Int32} {μ' : Mem} (h : M_day μ = some (r, μ')) : V φ ΩB 3 d 0 [some (rf φ 0 0), none, none] [] μ (some (.int r), μ') := by
  unfold M_day at h
  refine V.rload_n F dX10_day_0 rfl rfl ?_
  refine gf_RX10_101 F dX10_day_1 ?_
  refine V.sipush (v := 999) F dX10_day_4 (by decide) ?_
  refine V.icmp_ne (tgt := 13) F dX10_day_7 (by decide) (fun c1 => ?_) (fun c1 => ?_)
  · have h := f_out h c1
    refine V.iconst (v := 0) F dX10_day_13 (by decide) ?_
    refine V.istore_n (L' := [some (rf φ 0 0), some (.int 0), none]) F dX10_day_14 rfl (by decide) rfl rfl rfl ?_
    refine V.iconst (v := 0) F dX10_day_15 (by decide) ?_
    refine V.istore_n (L' := [some (rf φ 0 0), some (.int 0), some (.int 0)]) F dX10_day_16 rfl (by decide) rfl rfl rfl ?_
    exact M_day_17L_ok F hd 1000 _ _ _ _ _ h
  · have h := t_out h c1
    refine V.bipush (v := (-3)) F dX10_day_10 (by decide) ?_
    obtain ⟨rfl, rfl⟩ := r2_out h
    exact V.iret F dX10_day_12
set_option maxHeartbeats 4000000 in
set_option maxRecDepth 100000 in
theorem M_day_ct {l : Launch} {G : Glo} {μ : Mem} {r : Int32} {μ' : Mem} (h : M_day μ = some (r, μ')) : Ct l ΩB G 111 yX10_day cX10_day 3 (some .int) [.ref (G.1 0 0)] μ (some (.int r), μ') := by
  refine Ct.intro (by decide) (Nat.le_of_ble_eq_true rfl) ?_
  intro φ hl hG F
  subst hl; subst hG
  exact M_day_ok F (Nat.le_refl _) h
def M_run_146 (k106 : Int32 → Int32 → Int32 → Int32 → Mem → Option (Int32 × Mem)) (x1 : Int32) (x2 : Int32) (x5 : Int32) (y0 : Int32) (y1 : Int32) (μ : Mem) : Option (Int32 × Mem) :=
  nm (y0 + y1) fun a1 =>
  nm (x5 + 1) fun a2 =>
  k106 x1 x2 a1 a2 μ
set_option maxHeartbeats 4000000 in
set_option maxRecDepth 100000 in
theorem M_run_146_ok {φ : Fr} {d : Nat} (F : Fx φ ΩB cX10_run RX10 6 (some .int)) (hd : 111 ≤ d) {k106 : Int32 → Int32 → Int32 → Int32 → Mem → Option (Int32 × Mem)} (hk106 : ∀ (x1 : Int32) (x2 : Int32) (x4 : Int32) (x5 : Int32) (μ : Mem) (r : Int32) (μ' : Mem), k106 x1 x2 x4 x5 μ = some (r, μ') → V φ ΩB 6 d 106 [some (rf φ 0 0), some (.int x1), some (.int x2), none, some (.int x4), some (.int x5)] [] μ (some (.int r), μ')) {x1 : Int32} {x2 : Int32} {x5 : Int32} {y0 : Int32} {y1 : Int32} {μ : Mem} {r : Int32} {μ' : Mem} (h : M_run_146 k106 x1 x2 x5 y0 y1 μ = some (r, μ')) : V φ ΩB 6 d 146 [some (rf φ 0 0), some (.int x1), some (.int x2), none, none, some (.int x5)] [.int y1, .int y0] μ (some (.int r), μ') := by
  unfold M_run_146 at h
  refine V.iadd F dX10_run_146 ?_
  obtain ⟨a1, ea1, h⟩ := nm_out h
  refine V.istore (L' := [some (rf φ 0 0), some (.int x1), some (.int x2), none, some (.int a1), some (.int x5)]) F dX10_run_147 (by decide) rfl ea1 rfl ?_
  obtain ⟨a2, ea2, h⟩ := nm_out h
  refine V.iinc (z := 1) (L' := [some (rf φ 0 0), some (.int x1), some (.int x2), none, some (.int a1), some (.int a2)]) F dX10_run_149 rfl (by decide) ea2 (by decide) rfl rfl ?_
  refine V.goto (tgt := 106) F dX10_run_152 (by decide) ?_
  exact hk106 _ _ _ _ _ _ _ h
def M_run_106 (k106 : Int32 → Int32 → Int32 → Int32 → Mem → Option (Int32 × Mem)) (x1 : Int32) (x2 : Int32) (x4 : Int32) (x5 : Int32) (μ : Mem) : Option (Int32 × Mem) :=
  if x5 < (rd μ 0 0 12) then (
    chk (inb x5 6) <|
    bnd (M_lives x5 (rd μ 6 0 (ix x5)) x1 μ) fun μ4 =>
    if x2 = 0 then (
      M_run_146 k106 x1 x2 x5 x4 (rd μ4 0 0 28) μ4)
    else (
      M_run_146 k106 x1 x2 x5 x4 (rd μ4 0 0 29) μ4))
  else (
    some (x4, μ))
set_option maxHeartbeats 4000000 in
set_option maxRecDepth 100000 in
theorem M_run_106_ok {φ : Fr} {d : Nat} (F : Fx φ ΩB cX10_run RX10 6 (some .int)) (hd : 111 ≤ d) {k106 : Int32 → Int32 → Int32 → Int32 → Mem → Option (Int32 × Mem)} (hk106 : ∀ (x1 : Int32) (x2 : Int32) (x4 : Int32) (x5 : Int32) (μ : Mem) (r : Int32) (μ' : Mem), k106 x1 x2 x4 x5 μ = some (r, μ') → V φ ΩB 6 d 106 [some (rf φ 0 0), some (.int x1), some (.int x2), none, some (.int x4), some (.int x5)] [] μ (some (.int r), μ')) {x1 : Int32} {x2 : Int32} {x4 : Int32} {x5 : Int32} {μ : Mem} {r : Int32} {μ' : Mem} (h : M_run_106 k106 x1 x2 x4 x5 μ = some (r, μ')) : V φ ΩB 6 d 106 [some (rf φ 0 0), some (.int x1), some (.int x2), none, some (.int x4), some (.int x5)] [] μ (some (.int r), μ') := by
  unfold M_run_106 at h
  refine V.iload F dX10_run_106 rfl ?_
  refine V.rload_n F dX10_run_108 rfl rfl ?_
  refine gf_RX10_76 F dX10_run_109 ?_
  refine V.icmp_ge (tgt := 155) F dX10_run_112 (by decide) (fun c1 => ?_) (fun c1 => ?_)
  · have h := f_out h c1
    refine V.iload F dX10_run_155 rfl ?_
    obtain ⟨rfl, rfl⟩ := r2_out h
    exact V.iret F dX10_run_157
  · have h := t_out h c1
    refine V.rload_n F dX10_run_115 rfl rfl ?_
    refine V.iload F dX10_run_116 rfl ?_
    refine V.rload_n F dX10_run_118 rfl rfl ?_
    refine gf_RX10_32 F dX10_run_119 ?_
    refine V.iload F dX10_run_122 rfl ?_
    obtain ⟨c2, h⟩ := chk_out h
    refine V.iald (t0 := 0) (n := 6) F mB6 rfl rfl c2 dX10_run_124 ?_
    refine V.iload_n F dX10_run_125 rfl rfl ?_
    obtain ⟨μ4, e3, h⟩ := bnd_out h
    refine V.callVv (f := 0) (i := 0) (As := [.int x5, .int (rd μ 6 0 (ix x5)), .int x1]) F ck_RX10_265 (M_lives_ct e3) (by omega) (by decide) rfl mB0 rfl rfl rfl (Nat.le_of_ble_eq_true rfl) dX10_run_126 ?_
    refine V.iload F dX10_run_129 rfl ?_
    refine V.iload_n F dX10_run_131 rfl rfl ?_
    refine V.if_ne (tgt := 142) F dX10_run_132 (by decide) (fun c5 => ?_) (fun c5 => ?_)
    · have h := f_out h c5
      refine V.rload_n F dX10_run_142 rfl rfl ?_
      refine gf_RX10_259 F dX10_run_143 ?_
      refine V.msk (L' := [some (rf φ 0 0), some (.int x1), some (.int x2), none, none, some (.int x5)]) [true, true, true, false, false, true] rfl ?_
      exact M_run_146_ok F hd hk106 h
    · have h := t_out h c5
      refine V.rload_n F dX10_run_135 rfl rfl ?_
      refine gf_RX10_256 F dX10_run_136 ?_
      refine V.goto (tgt := 146) F dX10_run_139 (by decide) ?_
      refine V.msk (L' := [some (rf φ 0 0), some (.int x1), some (.int x2), none, none, some (.int x5)]) [true, true, true, false, false, true] rfl ?_
      exact M_run_146_ok F hd hk106 h
def M_run_106L : Nat → Int32 → Int32 → Int32 → Int32 → Mem → Option (Int32 × Mem)
  | 0 => fun _ _ _ _ _ => none
  | n + 1 => M_run_106 (M_run_106L n)
set_option maxHeartbeats 4000000 in
set_option maxRecDepth 100000 in
theorem M_run_106L_ok {φ : Fr} {d : Nat} (F : Fx φ ΩB cX10_run RX10 6 (some .int)) (hd : 111 ≤ d) : ∀ (n : Nat) (x1 : Int32) (x2 : Int32) (x4 : Int32) (x5 : Int32) (μ : Mem) (r : Int32) (μ' : Mem), M_run_106L n x1 x2 x4 x5 μ = some (r, μ') → V φ ΩB 6 d 106 [some (rf φ 0 0), some (.int x1), some (.int x2), none, some (.int x4), some (.int x5)] [] μ (some (.int r), μ') := by
  intro n
  induction n with
  | zero => intro x1 x2 x4 x5 μ r μ' h; cases h
  | succ n ih => intro x1 x2 x4 x5 μ r μ' h; exact M_run_106_ok F hd ih h
def M_run_60 (x1 : Int32) (x2 : Int32) (x3 : Int32) (μ : Mem) : Option (Int32 × Mem) :=
  if x3 = 0 then (
    M_run_106L 1000 x1 x2 0 0 μ)
  else (
    chk (inb (irm x2 10) 6) <|
    bnd (M_lives (irm x2 10) (rd μ 6 0 (ix (irm x2 10))) x1 μ) fun μ4 =>
    if x2 < 20 then (
      some (rd μ4 0 0 28, μ4))
    else (
      some (rd μ4 0 0 30, μ4)))
set_option maxHeartbeats 4000000 in
set_option maxRecDepth 100000 in
theorem M_run_60_ok {φ : Fr} {d : Nat} (F : Fx φ ΩB cX10_run RX10 6 (some .int)) (hd : 111 ≤ d) {x1 : Int32} {x2 : Int32} {x3 : Int32} {μ : Mem} {r : Int32} {μ' : Mem} (h : M_run_60 x1 x2 x3 μ = some (r, μ')) : V φ ΩB 6 d 60 [some (rf φ 0 0), some (.int x1), some (.int x2), some (.int x3), none, none] [] μ (some (.int r), μ') := by
  unfold M_run_60 at h
  refine V.iload_n F dX10_run_60 rfl rfl ?_
  refine V.if_eq (tgt := 100) F dX10_run_61 (by decide) (fun c1 => ?_) (fun c1 => ?_)
  · have h := t_out h c1
    refine V.iconst (v := 0) F dX10_run_100 (by decide) ?_
    refine V.istore (L' := [some (rf φ 0 0), some (.int x1), some (.int x2), some (.int x3), some (.int 0), none]) F dX10_run_101 (by decide) rfl rfl rfl ?_
    refine V.iconst (v := 0) F dX10_run_103 (by decide) ?_
    refine V.istore (L' := [some (rf φ 0 0), some (.int x1), some (.int x2), some (.int x3), some (.int 0), some (.int 0)]) F dX10_run_104 (by decide) rfl rfl rfl ?_
    refine V.msk (L' := [some (rf φ 0 0), some (.int x1), some (.int x2), none, some (.int 0), some (.int 0)]) [true, true, true, false, true, true] rfl ?_
    exact M_run_106L_ok F hd 1000 _ _ _ _ _ _ _ h
  · have h := f_out h c1
    refine V.rload_n F dX10_run_64 rfl rfl ?_
    refine V.iload_n F dX10_run_65 rfl rfl ?_
    refine V.bipush (v := 10) F dX10_run_66 (by decide) ?_
    refine V.irem F dX10_run_68 (by decide) ?_
    refine V.rload_n F dX10_run_69 rfl rfl ?_
    refine gf_RX10_32 F dX10_run_70 ?_
    refine V.iload_n F dX10_run_73 rfl rfl ?_
    refine V.bipush (v := 10) F dX10_run_74 (by decide) ?_
    refine V.irem F dX10_run_76 (by decide) ?_
    obtain ⟨c2, h⟩ := chk_out h
    refine V.iald (t0 := 0) (n := 6) F mB6 rfl rfl c2 dX10_run_77 ?_
    refine V.iload_n F dX10_run_78 rfl rfl ?_
    obtain ⟨μ4, e3, h⟩ := bnd_out h
    refine V.callVv (f := 0) (i := 0) (As := [.int (irm x2 10), .int (rd μ 6 0 (ix (irm x2 10))), .int x1]) F ck_RX10_265 (M_lives_ct e3) (by omega) (by decide) rfl mB0 rfl rfl rfl (Nat.le_of_ble_eq_true rfl) dX10_run_79 ?_
    refine V.iload_n F dX10_run_82 rfl rfl ?_
    refine V.bipush (v := 20) F dX10_run_83 (by decide) ?_
    refine V.icmp_ge (tgt := 95) F dX10_run_85 (by decide) (fun c5 => ?_) (fun c5 => ?_)
    · have h := f_out h c5
      refine V.rload_n F dX10_run_95 rfl rfl ?_
      refine gf_RX10_262 F dX10_run_96 ?_
      obtain ⟨rfl, rfl⟩ := r2_out h
      exact V.iret F dX10_run_99
    · have h := t_out h c5
      refine V.rload_n F dX10_run_88 rfl rfl ?_
      refine gf_RX10_256 F dX10_run_89 ?_
      refine V.goto (tgt := 99) F dX10_run_92 (by decide) ?_
      obtain ⟨rfl, rfl⟩ := r2_out h
      exact V.iret F dX10_run_99
def M_run_30 (x1 : Int32) (x2 : Int32) (y0 : Int32) (μ : Mem) : Option (Int32 × Mem) :=
  nm (M_in (Int32.toInt64 x1) 0 40) fun r2 =>
  if r2 = 0 then (
    some ((-2), μ))
  else (
    nm (M_in (Int32.toInt64 x2) 0 1) fun r5 =>
    if r5 = 0 then (
      if y0 = 0 then (
        some ((-2), μ))
      else (
        M_run_60 x1 x2 y0 μ))
    else (
      M_run_60 x1 x2 y0 μ))
set_option maxHeartbeats 4000000 in
set_option maxRecDepth 100000 in
theorem M_run_30_ok {φ : Fr} {d : Nat} (F : Fx φ ΩB cX10_run RX10 6 (some .int)) (hd : 111 ≤ d) {x1 : Int32} {x2 : Int32} {y0 : Int32} {μ : Mem} {r : Int32} {μ' : Mem} (h : M_run_30 x1 x2 y0 μ = some (r, μ')) : V φ ΩB 6 d 30 [some (rf φ 0 0), some (.int x1), some (.int x2), none, none, none] [.int y0] μ (some (.int r), μ') := by
  unfold M_run_30 at h
  refine V.istore_n (L' := [some (rf φ 0 0), some (.int x1), some (.int x2), some (.int y0), none, none]) F dX10_run_30 rfl (by decide) rfl rfl rfl ?_
  refine V.iload_n F dX10_run_31 rfl rfl ?_
  refine V.i2l F dX10_run_32 ?_
  refine V.lconst (v := 0) F dX10_run_33 (by decide) ?_
  refine V.ldc2 F kl_RX10_270 dX10_run_34 ?_
  obtain ⟨r2, e1, h⟩ := nm_out h
  refine V.callSi (As := [.long (Int32.toInt64 x1), .long 0, .long 40]) F ck_RX10_79 (M_in_ct e1) (by omega) (by decide) rfl rfl (Nat.le_of_ble_eq_true rfl) dX10_run_37 ?_
  refine V.if_eq (tgt := 57) F dX10_run_40 (by decide) (fun c3 => ?_) (fun c3 => ?_)
  · have h := t_out h c3
    refine V.bipush (v := (-2)) F dX10_run_57 (by decide) ?_
    obtain ⟨rfl, rfl⟩ := r2_out h
    exact V.iret F dX10_run_59
  · have h := f_out h c3
    refine V.iload_n F dX10_run_43 rfl rfl ?_
    refine V.i2l F dX10_run_44 ?_
    refine V.lconst (v := 0) F dX10_run_45 (by decide) ?_
    refine V.lconst (v := 1) F dX10_run_46 (by decide) ?_
    obtain ⟨r5, e4, h⟩ := nm_out h
    refine V.callSi (As := [.long (Int32.toInt64 x2), .long 0, .long 1]) F ck_RX10_79 (M_in_ct e4) (by omega) (by decide) rfl rfl (Nat.le_of_ble_eq_true rfl) dX10_run_47 ?_
    refine V.if_ne (tgt := 60) F dX10_run_50 (by decide) (fun c6 => ?_) (fun c6 => ?_)
    · have h := f_out h c6
      exact M_run_60_ok F hd h
    · have h := t_out h c6
      refine V.iload_n F dX10_run_53 rfl rfl ?_
      refine V.if_ne (tgt := 60) F dX10_run_54 (by decide) (fun c7 => ?_) (fun c7 => ?_)
      · have h := f_out h c7
        exact M_run_60_ok F hd h
      · have h := t_out h c7
        refine V.bipush (v := (-2)) F dX10_run_57 (by decide) ?_
        obtain ⟨rfl, rfl⟩ := r2_out h
        exact V.iret F dX10_run_59
def M_run (x1 : Int32) (x2 : Int32) (μ : Mem) : Option (Int32 × Mem) :=
  nm (M_in (Int32.toInt64 x2) 10 29) fun r2 =>
  if r2 = 0 then (
    M_run_30 x1 x2 0 μ)
  else (
    bnd (M_isOne (irm x2 10) μ) fun r5 =>
    if r5 = 0 then (
      M_run_30 x1 x2 0 μ)
    else (
      M_run_30 x1 x2 1 μ))
set_option maxHeartbeats 4000000 in
set_option maxRecDepth 100000 in
theorem M_run_ok {φ : Fr} {d : Nat} (F : Fx φ ΩB cX10_run RX10 6 (some .int)) (hd : 111 ≤ d) {x1 : Int32} {x2 : Int32} {μ : Mem} {r : Int32} {μ' : Mem} (h : M_run x1 x2 μ = some (r, μ')) : V φ ΩB 6 d 0 [some (rf φ 0 0), some (.int x1), some (.int x2), none, none, none] [] μ (some (.int r), μ') := by
  unfold M_run at h
  refine V.iload_n F dX10_run_0 rfl rfl ?_
  refine V.i2l F dX10_run_1 ?_
  refine V.ldc2 F kl_RX10_117 dX10_run_2 ?_
  refine V.ldc2 F kl_RX10_268 dX10_run_5 ?_
  obtain ⟨r2, e1, h⟩ := nm_out h
  refine V.callSi (As := [.long (Int32.toInt64 x2), .long 10, .long 29]) F ck_RX10_79 (M_in_ct e1) (by omega) (by decide) rfl rfl (Nat.le_of_ble_eq_true rfl) dX10_run_8 ?_
  refine V.if_eq (tgt := 29) F dX10_run_11 (by decide) (fun c3 => ?_) (fun c3 => ?_)
  · have h := t_out h c3
    refine V.iconst (v := 0) F dX10_run_29 (by decide) ?_
    exact M_run_30_ok F hd h
  · have h := f_out h c3
    refine V.rload_n F dX10_run_14 rfl rfl ?_
    refine V.iload_n F dX10_run_15 rfl rfl ?_
    refine V.bipush (v := 10) F dX10_run_16 (by decide) ?_
    refine V.irem F dX10_run_18 (by decide) ?_
    obtain ⟨r5, e4, h⟩ := bnd_out h
    refine V.callVi (f := 0) (i := 0) (As := [.int (irm x2 10)]) F ck_RX10_85 (M_isOne_ct e4) (by omega) (by decide) rfl mB0 rfl rfl rfl (Nat.le_of_ble_eq_true rfl) dX10_run_19 ?_
    refine V.if_eq (tgt := 29) F dX10_run_22 (by decide) (fun c6 => ?_) (fun c6 => ?_)
    · have h := t_out h c6
      refine V.iconst (v := 0) F dX10_run_29 (by decide) ?_
      exact M_run_30_ok F hd h
    · have h := f_out h c6
      refine V.iconst (v := 1) F dX10_run_25 (by decide) ?_
      refine V.goto (tgt := 30) F dX10_run_26 (by decide) ?_
      exact M_run_30_ok F hd h
set_option maxHeartbeats 4000000 in
set_option maxRecDepth 100000 in
theorem M_run_ct {l : Launch} {G : Glo} {x1 : Int32} {x2 : Int32} {μ : Mem} {r : Int32} {μ' : Mem} (h : M_run x1 x2 μ = some (r, μ')) : Ct l ΩB G 111 yX10_run cX10_run 6 (some .int) [.ref (G.1 0 0), .int x1, .int x2] μ (some (.int r), μ') := by
  refine Ct.intro (by decide) (Nat.le_of_ble_eq_true rfl) ?_
  intro φ hl hG F
  subst hl; subst hG
  exact M_run_ok F (Nat.le_refl _) h
def M_ringOf_4 (k4 : Int32 → Int32 → Mem → Option Int32) (x2 : Int32) (x3 : Int32) (μ : Mem) : Option Int32 :=
  if ((shr x2 x3) &&& 1) = 0 then (
    nm (x2 ||| (shl 1 x3)) fun a2 =>
    chk (inb x3 6) <|
    nm (rd μ 6 0 (ix x3)) fun a4 =>
    k4 a2 a4 μ)
  else (
    some x2)
set_option maxHeartbeats 4000000 in
set_option maxRecDepth 100000 in
theorem M_ringOf_4_ok {φ : Fr} {d : Nat} (F : Fx φ ΩB cX10_ringOf RX10 4 (some .int)) (hd : 1 ≤ d) {k4 : Int32 → Int32 → Mem → Option Int32} (hk4 : ∀ (x2 : Int32) (x3 : Int32) (μ : Mem) (r : Int32), k4 x2 x3 μ = some r → V φ ΩB 4 d 4 [some (rf φ 0 0), none, some (.int x2), some (.int x3)] [] μ (some (.int r), μ)) {x2 : Int32} {x3 : Int32} {μ : Mem} {r : Int32} (h : M_ringOf_4 k4 x2 x3 μ = some r) : V φ ΩB 4 d 4 [some (rf φ 0 0), none, some (.int x2), some (.int x3)] [] μ (some (.int r), μ) := by
  unfold M_ringOf_4 at h
  refine V.iload_n F dX10_ringOf_4 rfl rfl ?_
  refine V.iload_n F dX10_ringOf_5 rfl rfl ?_
  refine V.ishr F dX10_ringOf_6 ?_
  refine V.iconst (v := 1) F dX10_ringOf_7 (by decide) ?_
  refine V.iand F dX10_ringOf_8 ?_
  refine V.if_ne (tgt := 28) F dX10_ringOf_9 (by decide) (fun c1 => ?_) (fun c1 => ?_)
  · have h := f_out h c1
    refine V.iload_n F dX10_ringOf_28 rfl rfl ?_
    obtain rfl := r1_out h
    exact V.iret F dX10_ringOf_29
  · have h := t_out h c1
    refine V.iload_n F dX10_ringOf_12 rfl rfl ?_
    refine V.iconst (v := 1) F dX10_ringOf_13 (by decide) ?_
    refine V.iload_n F dX10_ringOf_14 rfl rfl ?_
    refine V.ishl F dX10_ringOf_15 ?_
    refine V.ior F dX10_ringOf_16 ?_
    obtain ⟨a2, ea2, h⟩ := nm_out h
    refine V.istore_n (L' := [some (rf φ 0 0), none, some (.int a2), some (.int x3)]) F dX10_ringOf_17 rfl (by decide) rfl ea2 rfl ?_
    refine V.rload_n F dX10_ringOf_18 rfl rfl ?_
    refine gf_RX10_32 F dX10_ringOf_19 ?_
    refine V.iload_n F dX10_ringOf_22 rfl rfl ?_
    obtain ⟨c3, h⟩ := chk_out h
    refine V.iald (t0 := 0) (n := 6) F mB6 rfl rfl c3 dX10_ringOf_23 ?_
    obtain ⟨a4, ea4, h⟩ := nm_out h
    refine V.istore_n (L' := [some (rf φ 0 0), none, some (.int a2), some (.int a4)]) F dX10_ringOf_24 rfl (by decide) rfl ea4 rfl ?_
    refine V.goto (tgt := 4) F dX10_ringOf_25 (by decide) ?_
    exact hk4 _ _ _ _ h
def M_ringOf_4L : Nat → Int32 → Int32 → Mem → Option Int32
  | 0 => fun _ _ _ => none
  | n + 1 => M_ringOf_4 (M_ringOf_4L n)
set_option maxHeartbeats 4000000 in
set_option maxRecDepth 100000 in
theorem M_ringOf_4L_ok {φ : Fr} {d : Nat} (F : Fx φ ΩB cX10_ringOf RX10 4 (some .int)) (hd : 1 ≤ d) : ∀ (n : Nat) (x2 : Int32) (x3 : Int32) (μ : Mem) (r : Int32), M_ringOf_4L n x2 x3 μ = some r → V φ ΩB 4 d 4 [some (rf φ 0 0), none, some (.int x2), some (.int x3)] [] μ (some (.int r), μ) := by
  intro n
  induction n with
  | zero => intro x2 x3 μ r h; cases h
  | succ n ih => intro x2 x3 μ r h; exact M_ringOf_4_ok F hd ih h
def M_ringOf (x1 : Int32) (μ : Mem) : Option Int32 :=
  M_ringOf_4L 1000 0 x1 μ
set_option maxHeartbeats 4000000 in
set_option maxRecDepth 100000 in
theorem M_ringOf_ok {φ : Fr} {d : Nat} (F : Fx φ ΩB cX10_ringOf RX10 4 (some .int)) (hd : 1 ≤ d) {x1 : Int32} {μ : Mem} {r : Int32} (h : M_ringOf x1 μ = some r) : V φ ΩB 4 d 0 [some (rf φ 0 0), some (.int x1), none, none] [] μ (some (.int r), μ) := by
  unfold M_ringOf at h
  refine V.iconst (v := 0) F dX10_ringOf_0 (by decide) ?_
  refine V.istore_n (L' := [some (rf φ 0 0), some (.int x1), some (.int 0), none]) F dX10_ringOf_1 rfl (by decide) rfl rfl rfl ?_
  refine V.iload_n F dX10_ringOf_2 rfl rfl ?_
  refine V.istore_n (L' := [some (rf φ 0 0), some (.int x1), some (.int 0), some (.int x1)]) F dX10_ringOf_3 rfl (by decide) rfl rfl rfl ?_
  refine V.msk (L' := [some (rf φ 0 0), none, some (.int 0), some (.int x1)]) [true, false, true, true] rfl ?_
  exact M_ringOf_4L_ok F hd 1000 _ _ _ _ h
set_option maxHeartbeats 4000000 in
set_option maxRecDepth 100000 in
theorem M_ringOf_ct {l : Launch} {G : Glo} {x1 : Int32} {μ : Mem} {r : Int32} (h : M_ringOf x1 μ = some r) : Ct l ΩB G 1 yX10_ringOf cX10_ringOf 4 (some .int) [.ref (G.1 0 0), .int x1] μ (some (.int r), μ) := by
  refine Ct.intro (by decide) (Nat.le_of_ble_eq_true rfl) ?_
  intro φ hl hG F
  subst hl; subst hG
  exact M_ringOf_ok F (Nat.le_refl _) h
def M_bitsOf_4 (k4 : Int32 → Int32 → Option Int32) (x1 : Int32) (x2 : Int32) : Option Int32 :=
  if x2 = 0 then (
    some x1)
  else (
    nm (x1 + 1) fun a2 =>
    nm (x2 &&& (x2 - 1)) fun a3 =>
    k4 a2 a3)
set_option maxHeartbeats 4000000 in
set_option maxRecDepth 100000 in
theorem M_bitsOf_4_ok {φ : Fr} {d : Nat} (F : Fx φ ΩB cX10_bitsOf RX10 3 (some .int)) (hd : 1 ≤ d) {k4 : Int32 → Int32 → Option Int32} (hk4 : ∀ (x1 : Int32) (x2 : Int32) (μ : Mem) (r : Int32), k4 x1 x2 = some r → V φ ΩB 3 d 4 [none, some (.int x1), some (.int x2)] [] μ (some (.int r), μ)) {x1 : Int32} {x2 : Int32} {μ : Mem} {r : Int32} (h : M_bitsOf_4 k4 x1 x2 = some r) : V φ ΩB 3 d 4 [none, some (.int x1), some (.int x2)] [] μ (some (.int r), μ) := by
  unfold M_bitsOf_4 at h
  refine V.iload_n F dX10_bitsOf_4 rfl rfl ?_
  refine V.if_eq (tgt := 20) F dX10_bitsOf_5 (by decide) (fun c1 => ?_) (fun c1 => ?_)
  · have h := t_out h c1
    refine V.iload_n F dX10_bitsOf_20 rfl rfl ?_
    obtain rfl := r1_out h
    exact V.iret F dX10_bitsOf_21
  · have h := f_out h c1
    obtain ⟨a2, ea2, h⟩ := nm_out h
    refine V.iinc (z := 1) (L' := [none, some (.int a2), some (.int x2)]) F dX10_bitsOf_8 rfl (by decide) ea2 (by decide) rfl rfl ?_
    refine V.iload_n F dX10_bitsOf_11 rfl rfl ?_
    refine V.iload_n F dX10_bitsOf_12 rfl rfl ?_
    refine V.iconst (v := 1) F dX10_bitsOf_13 (by decide) ?_
    refine V.isub F dX10_bitsOf_14 ?_
    refine V.iand F dX10_bitsOf_15 ?_
    obtain ⟨a3, ea3, h⟩ := nm_out h
    refine V.istore_n (L' := [none, some (.int a2), some (.int a3)]) F dX10_bitsOf_16 rfl (by decide) rfl ea3 rfl ?_
    refine V.goto (tgt := 4) F dX10_bitsOf_17 (by decide) ?_
    exact hk4 _ _ _ _ h
def M_bitsOf_4L : Nat → Int32 → Int32 → Option Int32
  | 0 => fun _ _ => none
  | n + 1 => M_bitsOf_4 (M_bitsOf_4L n)
set_option maxHeartbeats 4000000 in
set_option maxRecDepth 100000 in
theorem M_bitsOf_4L_ok {φ : Fr} {d : Nat} (F : Fx φ ΩB cX10_bitsOf RX10 3 (some .int)) (hd : 1 ≤ d) : ∀ (n : Nat) (x1 : Int32) (x2 : Int32) (μ : Mem) (r : Int32), M_bitsOf_4L n x1 x2 = some r → V φ ΩB 3 d 4 [none, some (.int x1), some (.int x2)] [] μ (some (.int r), μ) := by
  intro n
  induction n with
  | zero => intro x1 x2 μ r h; cases h
  | succ n ih => intro x1 x2 μ r h; exact M_bitsOf_4_ok F hd ih h
def M_bitsOf (x0 : Int32) : Option Int32 :=
  M_bitsOf_4L 1000 0 x0
set_option maxHeartbeats 4000000 in
set_option maxRecDepth 100000 in
theorem M_bitsOf_ok {φ : Fr} {d : Nat} (F : Fx φ ΩB cX10_bitsOf RX10 3 (some .int)) (hd : 1 ≤ d) {x0 : Int32} {μ : Mem} {r : Int32} (h : M_bitsOf x0 = some r) : V φ ΩB 3 d 0 [some (.int x0), none, none] [] μ (some (.int r), μ) := by
  unfold M_bitsOf at h
  refine V.iconst (v := 0) F dX10_bitsOf_0 (by decide) ?_
  refine V.istore_n (L' := [some (.int x0), some (.int 0), none]) F dX10_bitsOf_1 rfl (by decide) rfl rfl rfl ?_
  refine V.iload_n F dX10_bitsOf_2 rfl rfl ?_
  refine V.istore_n (L' := [some (.int x0), some (.int 0), some (.int x0)]) F dX10_bitsOf_3 rfl (by decide) rfl rfl rfl ?_
  refine V.msk (L' := [none, some (.int 0), some (.int x0)]) [false, true, true] rfl ?_
  exact M_bitsOf_4L_ok F hd 1000 _ _ _ _ h
set_option maxHeartbeats 4000000 in
set_option maxRecDepth 100000 in
theorem M_bitsOf_ct {l : Launch} {G : Glo} {x0 : Int32} {μ : Mem} {r : Int32} (h : M_bitsOf x0 = some r) : Ct l ΩB G 1 yX10_bitsOf cX10_bitsOf 3 (some .int) [.int x0] μ (some (.int r), μ) := by
  refine Ct.intro (by decide) (Nat.le_of_ble_eq_true rfl) ?_
  intro φ hl hG F
  subst hl; subst hG
  exact M_bitsOf_ok F (Nat.le_refl _) h
def M_ringMany_32 (k4 : Int32 → Int32 → Mem → Option Int32) (x2 : Int32) (y0 : Int32) (y1 : Int32) (μ : Mem) : Option Int32 :=
  nm (y0 + y1) fun a1 =>
  nm (x2 + 1) fun a2 =>
  k4 a1 a2 μ
set_option maxHeartbeats 4000000 in
set_option maxRecDepth 100000 in
theorem M_ringMany_32_ok {φ : Fr} {d : Nat} (F : Fx φ ΩB cX10_ringMany RX10 3 (some .int)) (hd : 2 ≤ d) {k4 : Int32 → Int32 → Mem → Option Int32} (hk4 : ∀ (x1 : Int32) (x2 : Int32) (μ : Mem) (r : Int32), k4 x1 x2 μ = some r → V φ ΩB 3 d 4 [some (rf φ 0 0), some (.int x1), some (.int x2)] [] μ (some (.int r), μ)) {x2 : Int32} {y0 : Int32} {y1 : Int32} {μ : Mem} {r : Int32} (h : M_ringMany_32 k4 x2 y0 y1 μ = some r) : V φ ΩB 3 d 32 [some (rf φ 0 0), none, some (.int x2)] [.int y1, .int y0] μ (some (.int r), μ) := by
  unfold M_ringMany_32 at h
  refine V.iadd F dX10_ringMany_32 ?_
  obtain ⟨a1, ea1, h⟩ := nm_out h
  refine V.istore_n (L' := [some (rf φ 0 0), some (.int a1), some (.int x2)]) F dX10_ringMany_33 rfl (by decide) rfl ea1 rfl ?_
  obtain ⟨a2, ea2, h⟩ := nm_out h
  refine V.iinc (z := 1) (L' := [some (rf φ 0 0), some (.int a1), some (.int a2)]) F dX10_ringMany_34 rfl (by decide) ea2 (by decide) rfl rfl ?_
  refine V.goto (tgt := 4) F dX10_ringMany_37 (by decide) ?_
  exact hk4 _ _ _ _ h
def M_ringMany_4 (k4 : Int32 → Int32 → Mem → Option Int32) (x1 : Int32) (x2 : Int32) (μ : Mem) : Option Int32 :=
  if x2 < (rd μ 0 0 12) then (
    bnd (M_ringOf x2 μ) fun r3 =>
    if (r3 &&& ((shl 1 x2) - 1)) = 0 then (
      M_ringMany_32 k4 x2 x1 1 μ)
    else (
      M_ringMany_32 k4 x2 x1 0 μ))
  else (
    some x1)
set_option maxHeartbeats 4000000 in
set_option maxRecDepth 100000 in
theorem M_ringMany_4_ok {φ : Fr} {d : Nat} (F : Fx φ ΩB cX10_ringMany RX10 3 (some .int)) (hd : 2 ≤ d) {k4 : Int32 → Int32 → Mem → Option Int32} (hk4 : ∀ (x1 : Int32) (x2 : Int32) (μ : Mem) (r : Int32), k4 x1 x2 μ = some r → V φ ΩB 3 d 4 [some (rf φ 0 0), some (.int x1), some (.int x2)] [] μ (some (.int r), μ)) {x1 : Int32} {x2 : Int32} {μ : Mem} {r : Int32} (h : M_ringMany_4 k4 x1 x2 μ = some r) : V φ ΩB 3 d 4 [some (rf φ 0 0), some (.int x1), some (.int x2)] [] μ (some (.int r), μ) := by
  unfold M_ringMany_4 at h
  refine V.iload_n F dX10_ringMany_4 rfl rfl ?_
  refine V.rload_n F dX10_ringMany_5 rfl rfl ?_
  refine gf_RX10_76 F dX10_ringMany_6 ?_
  refine V.icmp_ge (tgt := 40) F dX10_ringMany_9 (by decide) (fun c1 => ?_) (fun c1 => ?_)
  · have h := f_out h c1
    refine V.iload_n F dX10_ringMany_40 rfl rfl ?_
    obtain rfl := r1_out h
    exact V.iret F dX10_ringMany_41
  · have h := t_out h c1
    refine V.iload_n F dX10_ringMany_12 rfl rfl ?_
    refine V.rload_n F dX10_ringMany_13 rfl rfl ?_
    refine V.iload_n F dX10_ringMany_14 rfl rfl ?_
    obtain ⟨r3, e2, h⟩ := bnd_out h
    refine V.callVi (f := 0) (i := 0) (As := [.int x2]) F ck_RX10_272 (M_ringOf_ct e2) (by omega) (by decide) rfl mB0 rfl rfl rfl (Nat.le_of_ble_eq_true rfl) dX10_ringMany_15 ?_
    refine V.iconst (v := 1) F dX10_ringMany_18 (by decide) ?_
    refine V.iload_n F dX10_ringMany_19 rfl rfl ?_
    refine V.ishl F dX10_ringMany_20 ?_
    refine V.iconst (v := 1) F dX10_ringMany_21 (by decide) ?_
    refine V.isub F dX10_ringMany_22 ?_
    refine V.iand F dX10_ringMany_23 ?_
    refine V.if_ne (tgt := 31) F dX10_ringMany_24 (by decide) (fun c4 => ?_) (fun c4 => ?_)
    · have h := f_out h c4
      refine V.iconst (v := 0) F dX10_ringMany_31 (by decide) ?_
      refine V.msk (L' := [some (rf φ 0 0), none, some (.int x2)]) [true, false, true] rfl ?_
      exact M_ringMany_32_ok F hd hk4 h
    · have h := t_out h c4
      refine V.iconst (v := 1) F dX10_ringMany_27 (by decide) ?_
      refine V.goto (tgt := 32) F dX10_ringMany_28 (by decide) ?_
      refine V.msk (L' := [some (rf φ 0 0), none, some (.int x2)]) [true, false, true] rfl ?_
      exact M_ringMany_32_ok F hd hk4 h
def M_ringMany_4L : Nat → Int32 → Int32 → Mem → Option Int32
  | 0 => fun _ _ _ => none
  | n + 1 => M_ringMany_4 (M_ringMany_4L n)
set_option maxHeartbeats 4000000 in
set_option maxRecDepth 100000 in
theorem M_ringMany_4L_ok {φ : Fr} {d : Nat} (F : Fx φ ΩB cX10_ringMany RX10 3 (some .int)) (hd : 2 ≤ d) : ∀ (n : Nat) (x1 : Int32) (x2 : Int32) (μ : Mem) (r : Int32), M_ringMany_4L n x1 x2 μ = some r → V φ ΩB 3 d 4 [some (rf φ 0 0), some (.int x1), some (.int x2)] [] μ (some (.int r), μ) := by
  intro n
  induction n with
  | zero => intro x1 x2 μ r h; cases h
  | succ n ih => intro x1 x2 μ r h; exact M_ringMany_4_ok F hd ih h
def M_ringMany (μ : Mem) : Option Int32 :=
  M_ringMany_4L 1000 0 0 μ
set_option maxHeartbeats 4000000 in
set_option maxRecDepth 100000 in
theorem M_ringMany_ok {φ : Fr} {d : Nat} (F : Fx φ ΩB cX10_ringMany RX10 3 (some .int)) (hd : 2 ≤ d) {μ : Mem} {r : Int32} (h : M_ringMany μ = some r) : V φ ΩB 3 d 0 [some (rf φ 0 0), none, none] [] μ (some (.int r), μ) := by
  unfold M_ringMany at h
  refine V.iconst (v := 0) F dX10_ringMany_0 (by decide) ?_
  refine V.istore_n (L' := [some (rf φ 0 0), some (.int 0), none]) F dX10_ringMany_1 rfl (by decide) rfl rfl rfl ?_
  refine V.iconst (v := 0) F dX10_ringMany_2 (by decide) ?_
  refine V.istore_n (L' := [some (rf φ 0 0), some (.int 0), some (.int 0)]) F dX10_ringMany_3 rfl (by decide) rfl rfl rfl ?_
  exact M_ringMany_4L_ok F hd 1000 _ _ _ _ h
set_option maxHeartbeats 4000000 in
set_option maxRecDepth 100000 in
theorem M_ringMany_ct {l : Launch} {G : Glo} {μ : Mem} {r : Int32} (h : M_ringMany μ = some r) : Ct l ΩB G 2 yX10_ringMany cX10_ringMany 3 (some .int) [.ref (G.1 0 0)] μ (some (.int r), μ) := by
  refine Ct.intro (by decide) (Nat.le_of_ble_eq_true rfl) ?_
  intro φ hl hG F
  subst hl; subst hG
  exact M_ringMany_ok F (Nat.le_refl _) h
def M_firstChange_14 (k2 : Int32 → Mem → Option Int32) (k14 : Int32 → Int32 → Mem → Option Int32) (x1 : Int32) (x2 : Int32) (μ : Mem) : Option Int32 :=
  if x2 < (rd μ 0 0 12) then (
    bnd (M_ringOf x1 μ) fun r4 =>
    if ((shr r4 x2) &&& 1) = 1 then (
      some ((10 * x1) + x2))
    else (
      nm (x2 + 1) fun a6 =>
      k14 x1 a6 μ))
  else (
    nm (x1 + 1) fun a2 =>
    k2 a2 μ)
set_option maxHeartbeats 4000000 in
set_option maxRecDepth 100000 in
theorem M_firstChange_14_ok {φ : Fr} {d : Nat} (F : Fx φ ΩB cX10_firstChange RX10 3 (some .int)) (hd : 2 ≤ d) {k2 : Int32 → Mem → Option Int32} (hk2 : ∀ (x1 : Int32) (μ : Mem) (r : Int32), k2 x1 μ = some r → V φ ΩB 3 d 2 [some (rf φ 0 0), some (.int x1), none] [] μ (some (.int r), μ)) {k14 : Int32 → Int32 → Mem → Option Int32} (hk14 : ∀ (x1 : Int32) (x2 : Int32) (μ : Mem) (r : Int32), k14 x1 x2 μ = some r → V φ ΩB 3 d 14 [some (rf φ 0 0), some (.int x1), some (.int x2)] [] μ (some (.int r), μ)) {x1 : Int32} {x2 : Int32} {μ : Mem} {r : Int32} (h : M_firstChange_14 k2 k14 x1 x2 μ = some r) : V φ ΩB 3 d 14 [some (rf φ 0 0), some (.int x1), some (.int x2)] [] μ (some (.int r), μ) := by
  unfold M_firstChange_14 at h
  refine V.iload_n F dX10_firstChange_14 rfl rfl ?_
  refine V.rload_n F dX10_firstChange_15 rfl rfl ?_
  refine gf_RX10_76 F dX10_firstChange_16 ?_
  refine V.icmp_ge (tgt := 48) F dX10_firstChange_19 (by decide) (fun c1 => ?_) (fun c1 => ?_)
  · have h := f_out h c1
    obtain ⟨a2, ea2, h⟩ := nm_out h
    refine V.iinc (z := 1) (L' := [some (rf φ 0 0), some (.int a2), some (.int x2)]) F dX10_firstChange_48 rfl (by decide) ea2 (by decide) rfl rfl ?_
    refine V.goto (tgt := 2) F dX10_firstChange_51 (by decide) ?_
    refine V.msk (L' := [some (rf φ 0 0), some (.int a2), none]) [true, true, false] rfl ?_
    exact hk2 _ _ _ h
  · have h := t_out h c1
    refine V.rload_n F dX10_firstChange_22 rfl rfl ?_
    refine V.iload_n F dX10_firstChange_23 rfl rfl ?_
    obtain ⟨r4, e3, h⟩ := bnd_out h
    refine V.callVi (f := 0) (i := 0) (As := [.int x1]) F ck_RX10_272 (M_ringOf_ct e3) (by omega) (by decide) rfl mB0 rfl rfl rfl (Nat.le_of_ble_eq_true rfl) dX10_firstChange_24 ?_
    refine V.iload_n F dX10_firstChange_27 rfl rfl ?_
    refine V.ishr F dX10_firstChange_28 ?_
    refine V.iconst (v := 1) F dX10_firstChange_29 (by decide) ?_
    refine V.iand F dX10_firstChange_30 ?_
    refine V.iconst (v := 1) F dX10_firstChange_31 (by decide) ?_
    refine V.icmp_ne (tgt := 42) F dX10_firstChange_32 (by decide) (fun c5 => ?_) (fun c5 => ?_)
    · have h := f_out h c5
      obtain ⟨a6, ea6, h⟩ := nm_out h
      refine V.iinc (z := 1) (L' := [some (rf φ 0 0), some (.int x1), some (.int a6)]) F dX10_firstChange_42 rfl (by decide) ea6 (by decide) rfl rfl ?_
      refine V.goto (tgt := 14) F dX10_firstChange_45 (by decide) ?_
      exact hk14 _ _ _ _ h
    · have h := t_out h c5
      refine V.bipush (v := 10) F dX10_firstChange_35 (by decide) ?_
      refine V.iload_n F dX10_firstChange_37 rfl rfl ?_
      refine V.imul F dX10_firstChange_38 ?_
      refine V.iload_n F dX10_firstChange_39 rfl rfl ?_
      refine V.iadd F dX10_firstChange_40 ?_
      obtain rfl := r1_out h
      exact V.iret F dX10_firstChange_41
def M_firstChange_14L (k2 : Int32 → Mem → Option Int32) : Nat → Int32 → Int32 → Mem → Option Int32
  | 0 => fun _ _ _ => none
  | n + 1 => M_firstChange_14 k2 (M_firstChange_14L k2 n)
set_option maxHeartbeats 4000000 in
set_option maxRecDepth 100000 in
theorem M_firstChange_14L_ok {φ : Fr} {d : Nat} (F : Fx φ ΩB cX10_firstChange RX10 3 (some .int)) (hd : 2 ≤ d) {k2 : Int32 → Mem → Option Int32} (hk2 : ∀ (x1 : Int32) (μ : Mem) (r : Int32), k2 x1 μ = some r → V φ ΩB 3 d 2 [some (rf φ 0 0), some (.int x1), none] [] μ (some (.int r), μ)) : ∀ (n : Nat) (x1 : Int32) (x2 : Int32) (μ : Mem) (r : Int32), M_firstChange_14L k2 n x1 x2 μ = some r → V φ ΩB 3 d 14 [some (rf φ 0 0), some (.int x1), some (.int x2)] [] μ (some (.int r), μ) := by
  intro n
  induction n with
  | zero => intro x1 x2 μ r h; cases h
  | succ n ih => intro x1 x2 μ r h; exact M_firstChange_14_ok F hd hk2 ih h
def M_firstChange_2 (k2 : Int32 → Mem → Option Int32) (x1 : Int32) (μ : Mem) : Option Int32 :=
  if x1 < (rd μ 0 0 12) then (
    nm (x1 + 1) fun a2 =>
    M_firstChange_14L k2 1000 x1 a2 μ)
  else (
    some (-1))
set_option maxHeartbeats 4000000 in
set_option maxRecDepth 100000 in
theorem M_firstChange_2_ok {φ : Fr} {d : Nat} (F : Fx φ ΩB cX10_firstChange RX10 3 (some .int)) (hd : 2 ≤ d) {k2 : Int32 → Mem → Option Int32} (hk2 : ∀ (x1 : Int32) (μ : Mem) (r : Int32), k2 x1 μ = some r → V φ ΩB 3 d 2 [some (rf φ 0 0), some (.int x1), none] [] μ (some (.int r), μ)) {x1 : Int32} {μ : Mem} {r : Int32} (h : M_firstChange_2 k2 x1 μ = some r) : V φ ΩB 3 d 2 [some (rf φ 0 0), some (.int x1), none] [] μ (some (.int r), μ) := by
  unfold M_firstChange_2 at h
  refine V.iload_n F dX10_firstChange_2 rfl rfl ?_
  refine V.rload_n F dX10_firstChange_3 rfl rfl ?_
  refine gf_RX10_76 F dX10_firstChange_4 ?_
  refine V.icmp_ge (tgt := 54) F dX10_firstChange_7 (by decide) (fun c1 => ?_) (fun c1 => ?_)
  · have h := f_out h c1
    refine V.iconst (v := (-1)) F dX10_firstChange_54 (by decide) ?_
    obtain rfl := r1_out h
    exact V.iret F dX10_firstChange_55
  · have h := t_out h c1
    refine V.iload_n F dX10_firstChange_10 rfl rfl ?_
    refine V.iconst (v := 1) F dX10_firstChange_11 (by decide) ?_
    refine V.iadd F dX10_firstChange_12 ?_
    obtain ⟨a2, ea2, h⟩ := nm_out h
    refine V.istore_n (L' := [some (rf φ 0 0), some (.int x1), some (.int a2)]) F dX10_firstChange_13 rfl (by decide) rfl ea2 rfl ?_
    exact M_firstChange_14L_ok F hd hk2 1000 _ _ _ _ h
def M_firstChange_2L : Nat → Int32 → Mem → Option Int32
  | 0 => fun _ _ => none
  | n + 1 => M_firstChange_2 (M_firstChange_2L n)
set_option maxHeartbeats 4000000 in
set_option maxRecDepth 100000 in
theorem M_firstChange_2L_ok {φ : Fr} {d : Nat} (F : Fx φ ΩB cX10_firstChange RX10 3 (some .int)) (hd : 2 ≤ d) : ∀ (n : Nat) (x1 : Int32) (μ : Mem) (r : Int32), M_firstChange_2L n x1 μ = some r → V φ ΩB 3 d 2 [some (rf φ 0 0), some (.int x1), none] [] μ (some (.int r), μ) := by
  intro n
  induction n with
  | zero => intro x1 μ r h; cases h
  | succ n ih => intro x1 μ r h; exact M_firstChange_2_ok F hd ih h
def M_firstChange (μ : Mem) : Option Int32 :=
  M_firstChange_2L 1000 0 μ
set_option maxHeartbeats 4000000 in
set_option maxRecDepth 100000 in
theorem M_firstChange_ok {φ : Fr} {d : Nat} (F : Fx φ ΩB cX10_firstChange RX10 3 (some .int)) (hd : 2 ≤ d) {μ : Mem} {r : Int32} (h : M_firstChange μ = some r) : V φ ΩB 3 d 0 [some (rf φ 0 0), none, none] [] μ (some (.int r), μ) := by
  unfold M_firstChange at h
  refine V.iconst (v := 0) F dX10_firstChange_0 (by decide) ?_
  refine V.istore_n (L' := [some (rf φ 0 0), some (.int 0), none]) F dX10_firstChange_1 rfl (by decide) rfl rfl rfl ?_
  exact M_firstChange_2L_ok F hd 1000 _ _ _ h
set_option maxHeartbeats 4000000 in
set_option maxRecDepth 100000 in
theorem M_firstChange_ct {l : Launch} {G : Glo} {μ : Mem} {r : Int32} (h : M_firstChange μ = some r) : Ct l ΩB G 2 yX10_firstChange cX10_firstChange 3 (some .int) [.ref (G.1 0 0)] μ (some (.int r), μ) := by
  refine Ct.intro (by decide) (Nat.le_of_ble_eq_true rfl) ?_
  intro φ hl hG F
  subst hl; subst hG
  exact M_firstChange_ok F (Nat.le_refl _) h
def M_rings_24 (x1 : Int32) (μ : Mem) : Option Int32 :=
  if x1 = 0 then (
    bnd (M_ringMany μ) fun r5 =>
    some r5)
  else (
    bnd (M_ringMany μ) fun r3 =>
    some ((rd μ 0 0 12) - r3))
set_option maxHeartbeats 4000000 in
set_option maxRecDepth 100000 in
theorem M_rings_24_ok {φ : Fr} {d : Nat} (F : Fx φ ΩB cX10_rings RX10 5 (some .int)) (hd : 3 ≤ d) {x1 : Int32} {μ : Mem} {r : Int32} (h : M_rings_24 x1 μ = some r) : V φ ΩB 5 d 24 [some (rf φ 0 0), some (.int x1), none, none, none] [] μ (some (.int r), μ) := by
  unfold M_rings_24 at h
  refine V.iload_n F dX10_rings_24 rfl rfl ?_
  refine V.if_ne (tgt := 35) F dX10_rings_25 (by decide) (fun c1 => ?_) (fun c1 => ?_)
  · have h := f_out h c1
    refine V.rload_n F dX10_rings_35 rfl rfl ?_
    refine gf_RX10_76 F dX10_rings_36 ?_
    refine V.rload_n F dX10_rings_39 rfl rfl ?_
    obtain ⟨r3, e2, h⟩ := bnd_out h
    refine V.callVi (f := 0) (i := 0) (As := []) F ck_RX10_275 (M_ringMany_ct e2) (by omega) (by decide) rfl mB0 rfl rfl rfl (Nat.le_of_ble_eq_true rfl) dX10_rings_40 ?_
    refine V.isub F dX10_rings_43 ?_
    obtain rfl := r1_out h
    exact V.iret F dX10_rings_44
  · have h := t_out h c1
    refine V.rload_n F dX10_rings_28 rfl rfl ?_
    obtain ⟨r5, e4, h⟩ := bnd_out h
    refine V.callVi (f := 0) (i := 0) (As := []) F ck_RX10_275 (M_ringMany_ct e4) (by omega) (by decide) rfl mB0 rfl rfl rfl (Nat.le_of_ble_eq_true rfl) dX10_rings_29 ?_
    refine V.goto (tgt := 44) F dX10_rings_32 (by decide) ?_
    obtain rfl := r1_out h
    exact V.iret F dX10_rings_44
def M_rings_116 (k62 : Int32 → Int32 → Int32 → Int32 → Mem → Option Int32) (x1 : Int32) (x2 : Int32) (x4 : Int32) (y0 : Int32) (y1 : Int32) (μ : Mem) : Option Int32 :=
  nm (y0 ||| (shl y1 x4)) fun a1 =>
  nm (x4 + 1) fun a2 =>
  k62 x1 x2 a1 a2 μ
set_option maxHeartbeats 4000000 in
set_option maxRecDepth 100000 in
theorem M_rings_116_ok {φ : Fr} {d : Nat} (F : Fx φ ΩB cX10_rings RX10 5 (some .int)) (hd : 3 ≤ d) {k62 : Int32 → Int32 → Int32 → Int32 → Mem → Option Int32} (hk62 : ∀ (x1 : Int32) (x2 : Int32) (x3 : Int32) (x4 : Int32) (μ : Mem) (r : Int32), k62 x1 x2 x3 x4 μ = some r → V φ ΩB 5 d 62 [some (rf φ 0 0), some (.int x1), some (.int x2), some (.int x3), some (.int x4)] [] μ (some (.int r), μ)) {x1 : Int32} {x2 : Int32} {x4 : Int32} {y0 : Int32} {y1 : Int32} {μ : Mem} {r : Int32} (h : M_rings_116 k62 x1 x2 x4 y0 y1 μ = some r) : V φ ΩB 5 d 116 [some (rf φ 0 0), some (.int x1), some (.int x2), none, some (.int x4)] [.int y1, .int y0] μ (some (.int r), μ) := by
  unfold M_rings_116 at h
  refine V.iload F dX10_rings_116 rfl ?_
  refine V.ishl F dX10_rings_118 ?_
  refine V.ior F dX10_rings_119 ?_
  obtain ⟨a1, ea1, h⟩ := nm_out h
  refine V.istore_n (L' := [some (rf φ 0 0), some (.int x1), some (.int x2), some (.int a1), some (.int x4)]) F dX10_rings_120 rfl (by decide) rfl ea1 rfl ?_
  obtain ⟨a2, ea2, h⟩ := nm_out h
  refine V.iinc (z := 1) (L' := [some (rf φ 0 0), some (.int x1), some (.int x2), some (.int a1), some (.int a2)]) F dX10_rings_121 rfl (by decide) ea2 (by decide) rfl rfl ?_
  refine V.goto (tgt := 62) F dX10_rings_124 (by decide) ?_
  exact hk62 _ _ _ _ _ _ h
def M_rings_97 (k62 : Int32 → Int32 → Int32 → Int32 → Mem → Option Int32) (x1 : Int32) (x3 : Int32) (x4 : Int32) (y0 : Int32) (μ : Mem) : Option Int32 :=
  chk (inb x4 6) <|
  if (rd μ 6 0 (ix x4)) = x4 then (
    M_rings_116 k62 x1 y0 x4 x3 1 μ)
  else (
    M_rings_116 k62 x1 y0 x4 x3 0 μ)
set_option maxHeartbeats 4000000 in
set_option maxRecDepth 100000 in
theorem M_rings_97_ok {φ : Fr} {d : Nat} (F : Fx φ ΩB cX10_rings RX10 5 (some .int)) (hd : 3 ≤ d) {k62 : Int32 → Int32 → Int32 → Int32 → Mem → Option Int32} (hk62 : ∀ (x1 : Int32) (x2 : Int32) (x3 : Int32) (x4 : Int32) (μ : Mem) (r : Int32), k62 x1 x2 x3 x4 μ = some r → V φ ΩB 5 d 62 [some (rf φ 0 0), some (.int x1), some (.int x2), some (.int x3), some (.int x4)] [] μ (some (.int r), μ)) {x1 : Int32} {x3 : Int32} {x4 : Int32} {y0 : Int32} {μ : Mem} {r : Int32} (h : M_rings_97 k62 x1 x3 x4 y0 μ = some r) : V φ ΩB 5 d 97 [some (rf φ 0 0), some (.int x1), none, some (.int x3), some (.int x4)] [.int y0] μ (some (.int r), μ) := by
  unfold M_rings_97 at h
  refine V.istore_n (L' := [some (rf φ 0 0), some (.int x1), some (.int y0), some (.int x3), some (.int x4)]) F dX10_rings_97 rfl (by decide) rfl rfl rfl ?_
  refine V.iload_n F dX10_rings_98 rfl rfl ?_
  refine V.rload_n F dX10_rings_99 rfl rfl ?_
  refine gf_RX10_32 F dX10_rings_100 ?_
  refine V.iload F dX10_rings_103 rfl ?_
  obtain ⟨c1, h⟩ := chk_out h
  refine V.iald (t0 := 0) (n := 6) F mB6 rfl rfl c1 dX10_rings_105 ?_
  refine V.iload F dX10_rings_106 rfl ?_
  refine V.icmp_ne (tgt := 115) F dX10_rings_108 (by decide) (fun c2 => ?_) (fun c2 => ?_)
  · have h := f_out h c2
    refine V.iconst (v := 0) F dX10_rings_115 (by decide) ?_
    refine V.msk (L' := [some (rf φ 0 0), some (.int x1), some (.int y0), none, some (.int x4)]) [true, true, true, false, true] rfl ?_
    exact M_rings_116_ok F hd hk62 h
  · have h := t_out h c2
    refine V.iconst (v := 1) F dX10_rings_111 (by decide) ?_
    refine V.goto (tgt := 116) F dX10_rings_112 (by decide) ?_
    refine V.msk (L' := [some (rf φ 0 0), some (.int x1), some (.int y0), none, some (.int x4)]) [true, true, true, false, true] rfl ?_
    exact M_rings_116_ok F hd hk62 h
def M_rings_62 (k62 : Int32 → Int32 → Int32 → Int32 → Mem → Option Int32) (x1 : Int32) (x2 : Int32) (x3 : Int32) (x4 : Int32) (μ : Mem) : Option Int32 :=
  if x4 < (rd μ 0 0 12) then (
    bnd (M_ringOf x4 μ) fun r4 =>
    bnd (M_bitsOf r4) fun r6 =>
    if x2 < r6 then (
      bnd (M_ringOf x4 μ) fun r9 =>
      bnd (M_bitsOf r9) fun r11 =>
      M_rings_97 k62 x1 x3 x4 r11 μ)
    else (
      M_rings_97 k62 x1 x3 x4 x2 μ))
  else (
    if x1 = 1 then (
      some x2)
    else (
      some x3))
set_option maxHeartbeats 4000000 in
set_option maxRecDepth 100000 in
theorem M_rings_62_ok {φ : Fr} {d : Nat} (F : Fx φ ΩB cX10_rings RX10 5 (some .int)) (hd : 3 ≤ d) {k62 : Int32 → Int32 → Int32 → Int32 → Mem → Option Int32} (hk62 : ∀ (x1 : Int32) (x2 : Int32) (x3 : Int32) (x4 : Int32) (μ : Mem) (r : Int32), k62 x1 x2 x3 x4 μ = some r → V φ ΩB 5 d 62 [some (rf φ 0 0), some (.int x1), some (.int x2), some (.int x3), some (.int x4)] [] μ (some (.int r), μ)) {x1 : Int32} {x2 : Int32} {x3 : Int32} {x4 : Int32} {μ : Mem} {r : Int32} (h : M_rings_62 k62 x1 x2 x3 x4 μ = some r) : V φ ΩB 5 d 62 [some (rf φ 0 0), some (.int x1), some (.int x2), some (.int x3), some (.int x4)] [] μ (some (.int r), μ) := by
  unfold M_rings_62 at h
  refine V.iload F dX10_rings_62 rfl ?_
  refine V.rload_n F dX10_rings_64 rfl rfl ?_
  refine gf_RX10_76 F dX10_rings_65 ?_
  refine V.icmp_ge (tgt := 127) F dX10_rings_68 (by decide) (fun c1 => ?_) (fun c1 => ?_)
  · have h := f_out h c1
    refine V.iload_n F dX10_rings_127 rfl rfl ?_
    refine V.iconst (v := 1) F dX10_rings_128 (by decide) ?_
    refine V.icmp_ne (tgt := 136) F dX10_rings_129 (by decide) (fun c2 => ?_) (fun c2 => ?_)
    · have h := f_out h c2
      refine V.iload_n F dX10_rings_136 rfl rfl ?_
      obtain rfl := r1_out h
      exact V.iret F dX10_rings_137
    · have h := t_out h c2
      refine V.iload_n F dX10_rings_132 rfl rfl ?_
      refine V.goto (tgt := 137) F dX10_rings_133 (by decide) ?_
      obtain rfl := r1_out h
      exact V.iret F dX10_rings_137
  · have h := t_out h c1
    refine V.rload_n F dX10_rings_71 rfl rfl ?_
    refine V.iload F dX10_rings_72 rfl ?_
    obtain ⟨r4, e3, h⟩ := bnd_out h
    refine V.callVi (f := 0) (i := 0) (As := [.int x4]) F ck_RX10_272 (M_ringOf_ct e3) (by omega) (by decide) rfl mB0 rfl rfl rfl (Nat.le_of_ble_eq_true rfl) dX10_rings_74 ?_
    obtain ⟨r6, e5, h⟩ := bnd_out h
    refine V.callSi (As := [.int r4]) F ck_RX10_281 (M_bitsOf_ct e5) (by omega) (by decide) rfl rfl (Nat.le_of_ble_eq_true rfl) dX10_rings_77 ?_
    refine V.iload_n F dX10_rings_80 rfl rfl ?_
    refine V.icmp_le (tgt := 96) F dX10_rings_81 (by decide) (fun c7 => ?_) (fun c7 => ?_)
    · have h := f_out h c7
      refine V.iload_n F dX10_rings_96 rfl rfl ?_
      refine V.msk (L' := [some (rf φ 0 0), some (.int x1), none, some (.int x3), some (.int x4)]) [true, true, false, true, true] rfl ?_
      exact M_rings_97_ok F hd hk62 h
    · have h := t_out h c7
      refine V.rload_n F dX10_rings_84 rfl rfl ?_
      refine V.iload F dX10_rings_85 rfl ?_
      obtain ⟨r9, e8, h⟩ := bnd_out h
      refine V.callVi (f := 0) (i := 0) (As := [.int x4]) F ck_RX10_272 (M_ringOf_ct e8) (by omega) (by decide) rfl mB0 rfl rfl rfl (Nat.le_of_ble_eq_true rfl) dX10_rings_87 ?_
      obtain ⟨r11, e10, h⟩ := bnd_out h
      refine V.callSi (As := [.int r9]) F ck_RX10_281 (M_bitsOf_ct e10) (by omega) (by decide) rfl rfl (Nat.le_of_ble_eq_true rfl) dX10_rings_90 ?_
      refine V.goto (tgt := 97) F dX10_rings_93 (by decide) ?_
      refine V.msk (L' := [some (rf φ 0 0), some (.int x1), none, some (.int x3), some (.int x4)]) [true, true, false, true, true] rfl ?_
      exact M_rings_97_ok F hd hk62 h
def M_rings_62L : Nat → Int32 → Int32 → Int32 → Int32 → Mem → Option Int32
  | 0 => fun _ _ _ _ _ => none
  | n + 1 => M_rings_62 (M_rings_62L n)
set_option maxHeartbeats 4000000 in
set_option maxRecDepth 100000 in
theorem M_rings_62L_ok {φ : Fr} {d : Nat} (F : Fx φ ΩB cX10_rings RX10 5 (some .int)) (hd : 3 ≤ d) : ∀ (n : Nat) (x1 : Int32) (x2 : Int32) (x3 : Int32) (x4 : Int32) (μ : Mem) (r : Int32), M_rings_62L n x1 x2 x3 x4 μ = some r → V φ ΩB 5 d 62 [some (rf φ 0 0), some (.int x1), some (.int x2), some (.int x3), some (.int x4)] [] μ (some (.int r), μ) := by
  intro n
  induction n with
  | zero => intro x1 x2 x3 x4 μ r h; cases h
  | succ n ih => intro x1 x2 x3 x4 μ r h; exact M_rings_62_ok F hd ih h
def M_rings (x1 : Int32) (μ : Mem) : Option Int32 :=
  nm (M_in (Int32.toInt64 x1) 0 4) fun r2 =>
  if r2 = 0 then (
    some (-2))
  else (
    if x1 = 0 then (
      M_rings_24 x1 μ)
    else (
      if x1 = 2 then (
        M_rings_24 x1 μ)
      else (
        if x1 = 3 then (
          bnd (M_firstChange μ) fun r8 =>
          some r8)
        else (
          M_rings_62L 1000 x1 0 0 0 μ))))
set_option maxHeartbeats 4000000 in
set_option maxRecDepth 100000 in
theorem M_rings_ok {φ : Fr} {d : Nat} (F : Fx φ ΩB cX10_rings RX10 5 (some .int)) (hd : 3 ≤ d) {x1 : Int32} {μ : Mem} {r : Int32} (h : M_rings x1 μ = some r) : V φ ΩB 5 d 0 [some (rf φ 0 0), some (.int x1), none, none, none] [] μ (some (.int r), μ) := by
  unfold M_rings at h
  refine V.iload_n F dX10_rings_0 rfl rfl ?_
  refine V.i2l F dX10_rings_1 ?_
  refine V.lconst (v := 0) F dX10_rings_2 (by decide) ?_
  refine V.ldc2 F kl_RX10_83 dX10_rings_3 ?_
  obtain ⟨r2, e1, h⟩ := nm_out h
  refine V.callSi (As := [.long (Int32.toInt64 x1), .long 0, .long 4]) F ck_RX10_79 (M_in_ct e1) (by omega) (by decide) rfl rfl (Nat.le_of_ble_eq_true rfl) dX10_rings_6 ?_
  refine V.if_ne (tgt := 15) F dX10_rings_9 (by decide) (fun c3 => ?_) (fun c3 => ?_)
  · have h := f_out h c3
    refine V.iload_n F dX10_rings_15 rfl rfl ?_
    refine V.if_eq (tgt := 24) F dX10_rings_16 (by decide) (fun c4 => ?_) (fun c4 => ?_)
    · have h := t_out h c4
      exact M_rings_24_ok F hd h
    · have h := f_out h c4
      refine V.iload_n F dX10_rings_19 rfl rfl ?_
      refine V.iconst (v := 2) F dX10_rings_20 (by decide) ?_
      refine V.icmp_ne (tgt := 45) F dX10_rings_21 (by decide) (fun c5 => ?_) (fun c5 => ?_)
      · have h := f_out h c5
        refine V.iload_n F dX10_rings_45 rfl rfl ?_
        refine V.iconst (v := 3) F dX10_rings_46 (by decide) ?_
        refine V.icmp_ne (tgt := 55) F dX10_rings_47 (by decide) (fun c6 => ?_) (fun c6 => ?_)
        · have h := f_out h c6
          refine V.iconst (v := 0) F dX10_rings_55 (by decide) ?_
          refine V.istore_n (L' := [some (rf φ 0 0), some (.int x1), some (.int 0), none, none]) F dX10_rings_56 rfl (by decide) rfl rfl rfl ?_
          refine V.iconst (v := 0) F dX10_rings_57 (by decide) ?_
          refine V.istore_n (L' := [some (rf φ 0 0), some (.int x1), some (.int 0), some (.int 0), none]) F dX10_rings_58 rfl (by decide) rfl rfl rfl ?_
          refine V.iconst (v := 0) F dX10_rings_59 (by decide) ?_
          refine V.istore (L' := [some (rf φ 0 0), some (.int x1), some (.int 0), some (.int 0), some (.int 0)]) F dX10_rings_60 (by decide) rfl rfl rfl ?_
          exact M_rings_62L_ok F hd 1000 _ _ _ _ _ _ h
        · have h := t_out h c6
          refine V.rload_n F dX10_rings_50 rfl rfl ?_
          obtain ⟨r8, e7, h⟩ := bnd_out h
          refine V.callVi (f := 0) (i := 0) (As := []) F ck_RX10_278 (M_firstChange_ct e7) (by omega) (by decide) rfl mB0 rfl rfl rfl (Nat.le_of_ble_eq_true rfl) dX10_rings_51 ?_
          obtain rfl := r1_out h
          exact V.iret F dX10_rings_54
      · have h := t_out h c5
        exact M_rings_24_ok F hd h
  · have h := t_out h c3
    refine V.bipush (v := (-2)) F dX10_rings_12 (by decide) ?_
    obtain rfl := r1_out h
    exact V.iret F dX10_rings_14
set_option maxHeartbeats 4000000 in
set_option maxRecDepth 100000 in
theorem M_rings_ct {l : Launch} {G : Glo} {x1 : Int32} {μ : Mem} {r : Int32} (h : M_rings x1 μ = some r) : Ct l ΩB G 3 yX10_rings cX10_rings 5 (some .int) [.ref (G.1 0 0), .int x1] μ (some (.int r), μ) := by
  refine Ct.intro (by decide) (Nat.le_of_ble_eq_true rfl) ?_
  intro φ hl hG F
  subst hl; subst hG
  exact M_rings_ok F (Nat.le_refl _) h
def M_ring (x1 : Int32) (μ : Mem) : Option Int32 :=
  bnd (M_isOne x1 μ) fun r2 =>
  if r2 = 0 then (
    some (-2))
  else (
    bnd (M_ringOf x1 μ) fun r5 =>
    some r5)
set_option maxHeartbeats 4000000 in
set_option maxRecDepth 100000 in
theorem M_ring_ok {φ : Fr} {d : Nat} (F : Fx φ ΩB cX10_ring RX10 2 (some .int)) (hd : 3 ≤ d) {x1 : Int32} {μ : Mem} {r : Int32} (h : M_ring x1 μ = some r) : V φ ΩB 2 d 0 [some (rf φ 0 0), some (.int x1)] [] μ (some (.int r), μ) := by
  unfold M_ring at h
  refine V.rload_n F dX10_ring_0 rfl rfl ?_
  refine V.iload_n F dX10_ring_1 rfl rfl ?_
  obtain ⟨r2, e1, h⟩ := bnd_out h
  refine V.callVi (f := 0) (i := 0) (As := [.int x1]) F ck_RX10_85 (M_isOne_ct e1) (by omega) (by decide) rfl mB0 rfl rfl rfl (Nat.le_of_ble_eq_true rfl) dX10_ring_2 ?_
  refine V.if_eq (tgt := 16) F dX10_ring_5 (by decide) (fun c3 => ?_) (fun c3 => ?_)
  · have h := t_out h c3
    refine V.bipush (v := (-2)) F dX10_ring_16 (by decide) ?_
    obtain rfl := r1_out h
    exact V.iret F dX10_ring_18
  · have h := f_out h c3
    refine V.rload_n F dX10_ring_8 rfl rfl ?_
    refine V.iload_n F dX10_ring_9 rfl rfl ?_
    obtain ⟨r5, e4, h⟩ := bnd_out h
    refine V.callVi (f := 0) (i := 0) (As := [.int x1]) F ck_RX10_272 (M_ringOf_ct e4) (by omega) (by decide) rfl mB0 rfl rfl rfl (Nat.le_of_ble_eq_true rfl) dX10_ring_10 ?_
    refine V.goto (tgt := 18) F dX10_ring_13 (by decide) ?_
    obtain rfl := r1_out h
    exact V.iret F dX10_ring_18
set_option maxHeartbeats 4000000 in
set_option maxRecDepth 100000 in
theorem M_ring_ct {l : Launch} {G : Glo} {x1 : Int32} {μ : Mem} {r : Int32} (h : M_ring x1 μ = some r) : Ct l ΩB G 3 yX10_ring cX10_ring 2 (some .int) [.ref (G.1 0 0), .int x1] μ (some (.int r), μ) := by
  refine Ct.intro (by decide) (Nat.le_of_ble_eq_true rfl) ?_
  intro φ hl hG F
  subst hl; subst hG
  exact M_ring_ok F (Nat.le_refl _) h
def M_tables_12 (k2 : Int32 → Int32 → Mem → Option Mem) (k12 : Int32 → Int32 → Int32 → Mem → Option Mem) (x1 : Int32) (x2 : Int32) (x3 : Int32) (μ : Mem) : Option Mem :=
  if x3 < (rd μ 0 0 12) then (
    bnd (M_lives x2 x3 x1 μ) fun μ4 =>
    chk (inb ((6 * x2) + x3) 36) <|
    nm (up μ4 7 0 (ix ((6 * x2) + x3)) (rd μ4 0 0 28)) fun μ6 =>
    nm (x3 + 1) fun a7 =>
    k12 x1 x2 a7 μ6)
  else (
    nm (x2 + 1) fun a2 =>
    k2 x1 a2 μ)
set_option maxHeartbeats 4000000 in
set_option maxRecDepth 100000 in
theorem M_tables_12_ok {φ : Fr} {d : Nat} (F : Fx φ ΩB cX10_tables RX10 4 (none)) (hd : 111 ≤ d) {k2 : Int32 → Int32 → Mem → Option Mem} (hk2 : ∀ (x1 : Int32) (x2 : Int32) (μ : Mem)  (μ' : Mem), k2 x1 x2 μ = some μ' → V φ ΩB 4 d 2 [some (rf φ 0 0), some (.int x1), some (.int x2), none] [] μ (none, μ')) {k12 : Int32 → Int32 → Int32 → Mem → Option Mem} (hk12 : ∀ (x1 : Int32) (x2 : Int32) (x3 : Int32) (μ : Mem)  (μ' : Mem), k12 x1 x2 x3 μ = some μ' → V φ ΩB 4 d 12 [some (rf φ 0 0), some (.int x1), some (.int x2), some (.int x3)] [] μ (none, μ')) {x1 : Int32} {x2 : Int32} {x3 : Int32} {μ : Mem}  {μ' : Mem} (h : M_tables_12 k2 k12 x1 x2 x3 μ = some μ') : V φ ΩB 4 d 12 [some (rf φ 0 0), some (.int x1), some (.int x2), some (.int x3)] [] μ (none, μ') := by
  unfold M_tables_12 at h
  refine V.iload_n F dX10_tables_12 rfl rfl ?_
  refine V.rload_n F dX10_tables_13 rfl rfl ?_
  refine gf_RX10_76 F dX10_tables_14 ?_
  refine V.icmp_ge (tgt := 48) F dX10_tables_17 (by decide) (fun c1 => ?_) (fun c1 => ?_)
  · have h := f_out h c1
    obtain ⟨a2, ea2, h⟩ := nm_out h
    refine V.iinc (z := 1) (L' := [some (rf φ 0 0), some (.int x1), some (.int a2), some (.int x3)]) F dX10_tables_48 rfl (by decide) ea2 (by decide) rfl rfl ?_
    refine V.goto (tgt := 2) F dX10_tables_51 (by decide) ?_
    refine V.msk (L' := [some (rf φ 0 0), some (.int x1), some (.int a2), none]) [true, true, true, false] rfl ?_
    exact hk2 _ _ _ _ h
  · have h := t_out h c1
    refine V.rload_n F dX10_tables_20 rfl rfl ?_
    refine V.iload_n F dX10_tables_21 rfl rfl ?_
    refine V.iload_n F dX10_tables_22 rfl rfl ?_
    refine V.iload_n F dX10_tables_23 rfl rfl ?_
    obtain ⟨μ4, e3, h⟩ := bnd_out h
    refine V.callVv (f := 0) (i := 0) (As := [.int x2, .int x3, .int x1]) F ck_RX10_265 (M_lives_ct e3) (by omega) (by decide) rfl mB0 rfl rfl rfl (Nat.le_of_ble_eq_true rfl) dX10_tables_24 ?_
    refine V.rload_n F dX10_tables_27 rfl rfl ?_
    refine gf_RX10_35 F dX10_tables_28 ?_
    refine V.bipush (v := 6) F dX10_tables_31 (by decide) ?_
    refine V.iload_n F dX10_tables_33 rfl rfl ?_
    refine V.imul F dX10_tables_34 ?_
    refine V.iload_n F dX10_tables_35 rfl rfl ?_
    refine V.iadd F dX10_tables_36 ?_
    refine V.rload_n F dX10_tables_37 rfl rfl ?_
    refine gf_RX10_256 F dX10_tables_38 ?_
    obtain ⟨c5, h⟩ := chk_out h
    obtain ⟨μ6, eμ6, h⟩ := nm_out h
    refine V.iast (t0 := 0) (n := 36) F mB7 (fun _ => rfl) rfl c5 eμ6 dX10_tables_41 ?_
    obtain ⟨a7, ea7, h⟩ := nm_out h
    refine V.iinc (z := 1) (L' := [some (rf φ 0 0), some (.int x1), some (.int x2), some (.int a7)]) F dX10_tables_42 rfl (by decide) ea7 (by decide) rfl rfl ?_
    refine V.goto (tgt := 12) F dX10_tables_45 (by decide) ?_
    exact hk12 _ _ _ _ _ h
def M_tables_12L (k2 : Int32 → Int32 → Mem → Option Mem) : Nat → Int32 → Int32 → Int32 → Mem → Option Mem
  | 0 => fun _ _ _ _ => none
  | n + 1 => M_tables_12 k2 (M_tables_12L k2 n)
set_option maxHeartbeats 4000000 in
set_option maxRecDepth 100000 in
theorem M_tables_12L_ok {φ : Fr} {d : Nat} (F : Fx φ ΩB cX10_tables RX10 4 (none)) (hd : 111 ≤ d) {k2 : Int32 → Int32 → Mem → Option Mem} (hk2 : ∀ (x1 : Int32) (x2 : Int32) (μ : Mem)  (μ' : Mem), k2 x1 x2 μ = some μ' → V φ ΩB 4 d 2 [some (rf φ 0 0), some (.int x1), some (.int x2), none] [] μ (none, μ')) : ∀ (n : Nat) (x1 : Int32) (x2 : Int32) (x3 : Int32) (μ : Mem)  (μ' : Mem), M_tables_12L k2 n x1 x2 x3 μ = some μ' → V φ ΩB 4 d 12 [some (rf φ 0 0), some (.int x1), some (.int x2), some (.int x3)] [] μ (none, μ') := by
  intro n
  induction n with
  | zero => intro x1 x2 x3 μ μ' h; cases h
  | succ n ih => intro x1 x2 x3 μ μ' h; exact M_tables_12_ok F hd hk2 ih h
def M_tables_2 (k2 : Int32 → Int32 → Mem → Option Mem) (x1 : Int32) (x2 : Int32) (μ : Mem) : Option Mem :=
  if x2 < (rd μ 0 0 12) then (
    M_tables_12L k2 1000 x1 x2 0 μ)
  else (
    some μ)
set_option maxHeartbeats 4000000 in
set_option maxRecDepth 100000 in
theorem M_tables_2_ok {φ : Fr} {d : Nat} (F : Fx φ ΩB cX10_tables RX10 4 (none)) (hd : 111 ≤ d) {k2 : Int32 → Int32 → Mem → Option Mem} (hk2 : ∀ (x1 : Int32) (x2 : Int32) (μ : Mem)  (μ' : Mem), k2 x1 x2 μ = some μ' → V φ ΩB 4 d 2 [some (rf φ 0 0), some (.int x1), some (.int x2), none] [] μ (none, μ')) {x1 : Int32} {x2 : Int32} {μ : Mem}  {μ' : Mem} (h : M_tables_2 k2 x1 x2 μ = some μ') : V φ ΩB 4 d 2 [some (rf φ 0 0), some (.int x1), some (.int x2), none] [] μ (none, μ') := by
  unfold M_tables_2 at h
  refine V.iload_n F dX10_tables_2 rfl rfl ?_
  refine V.rload_n F dX10_tables_3 rfl rfl ?_
  refine gf_RX10_76 F dX10_tables_4 ?_
  refine V.icmp_ge (tgt := 54) F dX10_tables_7 (by decide) (fun c1 => ?_) (fun c1 => ?_)
  · have h := f_out h c1
    obtain rfl := r1_out h
    exact V.vret F dX10_tables_54
  · have h := t_out h c1
    refine V.iconst (v := 0) F dX10_tables_10 (by decide) ?_
    refine V.istore_n (L' := [some (rf φ 0 0), some (.int x1), some (.int x2), some (.int 0)]) F dX10_tables_11 rfl (by decide) rfl rfl rfl ?_
    exact M_tables_12L_ok F hd hk2 1000 _ _ _ _ _ h
def M_tables_2L : Nat → Int32 → Int32 → Mem → Option Mem
  | 0 => fun _ _ _ => none
  | n + 1 => M_tables_2 (M_tables_2L n)
set_option maxHeartbeats 4000000 in
set_option maxRecDepth 100000 in
theorem M_tables_2L_ok {φ : Fr} {d : Nat} (F : Fx φ ΩB cX10_tables RX10 4 (none)) (hd : 111 ≤ d) : ∀ (n : Nat) (x1 : Int32) (x2 : Int32) (μ : Mem)  (μ' : Mem), M_tables_2L n x1 x2 μ = some μ' → V φ ΩB 4 d 2 [some (rf φ 0 0), some (.int x1), some (.int x2), none] [] μ (none, μ') := by
  intro n
  induction n with
  | zero => intro x1 x2 μ μ' h; cases h
  | succ n ih => intro x1 x2 μ μ' h; exact M_tables_2_ok F hd ih h
def M_tables (x1 : Int32) (μ : Mem) : Option Mem :=
  M_tables_2L 1000 x1 0 μ
set_option maxHeartbeats 4000000 in
set_option maxRecDepth 100000 in
theorem M_tables_ok {φ : Fr} {d : Nat} (F : Fx φ ΩB cX10_tables RX10 4 (none)) (hd : 111 ≤ d) {x1 : Int32} {μ : Mem}  {μ' : Mem} (h : M_tables x1 μ = some μ') : V φ ΩB 4 d 0 [some (rf φ 0 0), some (.int x1), none, none] [] μ (none, μ') := by
  unfold M_tables at h
  refine V.iconst (v := 0) F dX10_tables_0 (by decide) ?_
  refine V.istore_n (L' := [some (rf φ 0 0), some (.int x1), some (.int 0), none]) F dX10_tables_1 rfl (by decide) rfl rfl rfl ?_
  exact M_tables_2L_ok F hd 1000 _ _ _ _ h
set_option maxHeartbeats 4000000 in
set_option maxRecDepth 100000 in
theorem M_tables_ct {l : Launch} {G : Glo} {x1 : Int32} {μ : Mem}  {μ' : Mem} (h : M_tables x1 μ = some μ') : Ct l ΩB G 111 yX10_tables cX10_tables 4 (none) [.ref (G.1 0 0), .int x1] μ (none, μ') := by
  refine Ct.intro (by decide) (Nat.le_of_ble_eq_true rfl) ?_
  intro φ hl hG F
  subst hl; subst hG
  exact M_tables_ok F (Nat.le_refl _) h
def M_warmNow_4 (k4 : Int32 → Int32 → Mem → Option Int32) (x1 : Int32) (x2 : Int32) (μ : Mem) : Option Int32 :=
  if x2 < (rd μ 0 0 12) then (
    chk (inb x2 6) <|
    chk (inb ((6 * x2) + (rd μ 6 0 (ix x2))) 36) <|
    nm (x1 + (rd μ 7 0 (ix ((6 * x2) + (rd μ 6 0 (ix x2)))))) fun a4 =>
    nm (x2 + 1) fun a5 =>
    k4 a4 a5 μ)
  else (
    some x1)
set_option maxHeartbeats 4000000 in
set_option maxRecDepth 100000 in
theorem M_warmNow_4_ok {φ : Fr} {d : Nat} (F : Fx φ ΩB cX10_warmNow RX10 3 (some .int)) (hd : 1 ≤ d) {k4 : Int32 → Int32 → Mem → Option Int32} (hk4 : ∀ (x1 : Int32) (x2 : Int32) (μ : Mem) (r : Int32), k4 x1 x2 μ = some r → V φ ΩB 3 d 4 [some (rf φ 0 0), some (.int x1), some (.int x2)] [] μ (some (.int r), μ)) {x1 : Int32} {x2 : Int32} {μ : Mem} {r : Int32} (h : M_warmNow_4 k4 x1 x2 μ = some r) : V φ ΩB 3 d 4 [some (rf φ 0 0), some (.int x1), some (.int x2)] [] μ (some (.int r), μ) := by
  unfold M_warmNow_4 at h
  refine V.iload_n F dX10_warmNow_4 rfl rfl ?_
  refine V.rload_n F dX10_warmNow_5 rfl rfl ?_
  refine gf_RX10_76 F dX10_warmNow_6 ?_
  refine V.icmp_ge (tgt := 37) F dX10_warmNow_9 (by decide) (fun c1 => ?_) (fun c1 => ?_)
  · have h := f_out h c1
    refine V.iload_n F dX10_warmNow_37 rfl rfl ?_
    obtain rfl := r1_out h
    exact V.iret F dX10_warmNow_38
  · have h := t_out h c1
    refine V.iload_n F dX10_warmNow_12 rfl rfl ?_
    refine V.rload_n F dX10_warmNow_13 rfl rfl ?_
    refine gf_RX10_35 F dX10_warmNow_14 ?_
    refine V.bipush (v := 6) F dX10_warmNow_17 (by decide) ?_
    refine V.iload_n F dX10_warmNow_19 rfl rfl ?_
    refine V.imul F dX10_warmNow_20 ?_
    refine V.rload_n F dX10_warmNow_21 rfl rfl ?_
    refine gf_RX10_32 F dX10_warmNow_22 ?_
    refine V.iload_n F dX10_warmNow_25 rfl rfl ?_
    obtain ⟨c2, h⟩ := chk_out h
    refine V.iald (t0 := 0) (n := 6) F mB6 rfl rfl c2 dX10_warmNow_26 ?_
    refine V.iadd F dX10_warmNow_27 ?_
    obtain ⟨c3, h⟩ := chk_out h
    refine V.iald (t0 := 0) (n := 36) F mB7 rfl rfl c3 dX10_warmNow_28 ?_
    refine V.iadd F dX10_warmNow_29 ?_
    obtain ⟨a4, ea4, h⟩ := nm_out h
    refine V.istore_n (L' := [some (rf φ 0 0), some (.int a4), some (.int x2)]) F dX10_warmNow_30 rfl (by decide) rfl ea4 rfl ?_
    obtain ⟨a5, ea5, h⟩ := nm_out h
    refine V.iinc (z := 1) (L' := [some (rf φ 0 0), some (.int a4), some (.int a5)]) F dX10_warmNow_31 rfl (by decide) ea5 (by decide) rfl rfl ?_
    refine V.goto (tgt := 4) F dX10_warmNow_34 (by decide) ?_
    exact hk4 _ _ _ _ h
def M_warmNow_4L : Nat → Int32 → Int32 → Mem → Option Int32
  | 0 => fun _ _ _ => none
  | n + 1 => M_warmNow_4 (M_warmNow_4L n)
set_option maxHeartbeats 4000000 in
set_option maxRecDepth 100000 in
theorem M_warmNow_4L_ok {φ : Fr} {d : Nat} (F : Fx φ ΩB cX10_warmNow RX10 3 (some .int)) (hd : 1 ≤ d) : ∀ (n : Nat) (x1 : Int32) (x2 : Int32) (μ : Mem) (r : Int32), M_warmNow_4L n x1 x2 μ = some r → V φ ΩB 3 d 4 [some (rf φ 0 0), some (.int x1), some (.int x2)] [] μ (some (.int r), μ) := by
  intro n
  induction n with
  | zero => intro x1 x2 μ r h; cases h
  | succ n ih => intro x1 x2 μ r h; exact M_warmNow_4_ok F hd ih h
def M_warmNow (μ : Mem) : Option Int32 :=
  M_warmNow_4L 1000 0 0 μ
set_option maxHeartbeats 4000000 in
set_option maxRecDepth 100000 in
theorem M_warmNow_ok {φ : Fr} {d : Nat} (F : Fx φ ΩB cX10_warmNow RX10 3 (some .int)) (hd : 1 ≤ d) {μ : Mem} {r : Int32} (h : M_warmNow μ = some r) : V φ ΩB 3 d 0 [some (rf φ 0 0), none, none] [] μ (some (.int r), μ) := by
  unfold M_warmNow at h
  refine V.iconst (v := 0) F dX10_warmNow_0 (by decide) ?_
  refine V.istore_n (L' := [some (rf φ 0 0), some (.int 0), none]) F dX10_warmNow_1 rfl (by decide) rfl rfl rfl ?_
  refine V.iconst (v := 0) F dX10_warmNow_2 (by decide) ?_
  refine V.istore_n (L' := [some (rf φ 0 0), some (.int 0), some (.int 0)]) F dX10_warmNow_3 rfl (by decide) rfl rfl rfl ?_
  exact M_warmNow_4L_ok F hd 1000 _ _ _ _ h
set_option maxHeartbeats 4000000 in
set_option maxRecDepth 100000 in
theorem M_warmNow_ct {l : Launch} {G : Glo} {μ : Mem} {r : Int32} (h : M_warmNow μ = some r) : Ct l ΩB G 1 yX10_warmNow cX10_warmNow 3 (some .int) [.ref (G.1 0 0)] μ (some (.int r), μ) := by
  refine Ct.intro (by decide) (Nat.le_of_ble_eq_true rfl) ?_
  intro φ hl hG F
  subst hl; subst hG
  exact M_warmNow_ok F (Nat.le_refl _) h
def M_better_107 (k41 : Int32 → Int32 → Int32 → Int32 → Mem → Option (Int32 × Mem)) (k56 : Int32 → Int32 → Int32 → Int32 → Int32 → Mem → Option (Int32 × Mem)) (x2 : Int32) (x3 : Int32) (x4 : Int32) (x5 : Int32) (x6 : Int32) (μ : Mem) : Option (Int32 × Mem) :=
  nm (x6 + 1) fun a1 =>
  k56 x2 x3 x4 x5 a1 μ
set_option maxHeartbeats 4000000 in
set_option maxRecDepth 100000 in
theorem M_better_107_ok {φ : Fr} {d : Nat} (F : Fx φ ΩB cX10_better RX10 8 (some .int)) (hd : 112 ≤ d) {k41 : Int32 → Int32 → Int32 → Int32 → Mem → Option (Int32 × Mem)} (hk41 : ∀ (x2 : Int32) (x3 : Int32) (x4 : Int32) (x5 : Int32) (μ : Mem) (r : Int32) (μ' : Mem), k41 x2 x3 x4 x5 μ = some (r, μ') → V φ ΩB 8 d 41 [some (rf φ 0 0), none, some (.int x2), some (.int x3), some (.int x4), some (.int x5), none, none] [] μ (some (.int r), μ')) {k56 : Int32 → Int32 → Int32 → Int32 → Int32 → Mem → Option (Int32 × Mem)} (hk56 : ∀ (x2 : Int32) (x3 : Int32) (x4 : Int32) (x5 : Int32) (x6 : Int32) (μ : Mem) (r : Int32) (μ' : Mem), k56 x2 x3 x4 x5 x6 μ = some (r, μ') → V φ ΩB 8 d 56 [some (rf φ 0 0), none, some (.int x2), some (.int x3), some (.int x4), some (.int x5), some (.int x6), none] [] μ (some (.int r), μ')) {x2 : Int32} {x3 : Int32} {x4 : Int32} {x5 : Int32} {x6 : Int32} {μ : Mem} {r : Int32} {μ' : Mem} (h : M_better_107 k41 k56 x2 x3 x4 x5 x6 μ = some (r, μ')) : V φ ΩB 8 d 107 [some (rf φ 0 0), none, some (.int x2), some (.int x3), some (.int x4), some (.int x5), some (.int x6), none] [] μ (some (.int r), μ') := by
  unfold M_better_107 at h
  obtain ⟨a1, ea1, h⟩ := nm_out h
  refine V.iinc (z := 1) (L' := [some (rf φ 0 0), none, some (.int x2), some (.int x3), some (.int x4), some (.int x5), some (.int a1), none]) F dX10_better_107 rfl (by decide) ea1 (by decide) rfl rfl ?_
  refine V.goto (tgt := 56) F dX10_better_110 (by decide) ?_
  exact hk56 _ _ _ _ _ _ _ _ h
def M_better_56 (k41 : Int32 → Int32 → Int32 → Int32 → Mem → Option (Int32 × Mem)) (k56 : Int32 → Int32 → Int32 → Int32 → Int32 → Mem → Option (Int32 × Mem)) (x2 : Int32) (x3 : Int32) (x4 : Int32) (x5 : Int32) (x6 : Int32) (μ : Mem) : Option (Int32 × Mem) :=
  if x6 < (rd μ 0 0 12) then (
    bnd (M_swaps x5 x6 μ) fun μ4 =>
    bnd (M_warmNow μ4) fun r6 =>
    bnd (M_swaps x5 x6 μ4) fun μ8 =>
    if r6 < x4 then (
      nm ((10 * x5) + x6) fun a10 =>
      M_better_107 k41 k56 x2 a10 r6 x5 x6 μ8)
    else (
      M_better_107 k41 k56 x2 x3 x4 x5 x6 μ8))
  else (
    nm (x5 + 1) fun a2 =>
    k41 x2 x3 x4 a2 μ)
set_option maxHeartbeats 4000000 in
set_option maxRecDepth 100000 in
theorem M_better_56_ok {φ : Fr} {d : Nat} (F : Fx φ ΩB cX10_better RX10 8 (some .int)) (hd : 112 ≤ d) {k41 : Int32 → Int32 → Int32 → Int32 → Mem → Option (Int32 × Mem)} (hk41 : ∀ (x2 : Int32) (x3 : Int32) (x4 : Int32) (x5 : Int32) (μ : Mem) (r : Int32) (μ' : Mem), k41 x2 x3 x4 x5 μ = some (r, μ') → V φ ΩB 8 d 41 [some (rf φ 0 0), none, some (.int x2), some (.int x3), some (.int x4), some (.int x5), none, none] [] μ (some (.int r), μ')) {k56 : Int32 → Int32 → Int32 → Int32 → Int32 → Mem → Option (Int32 × Mem)} (hk56 : ∀ (x2 : Int32) (x3 : Int32) (x4 : Int32) (x5 : Int32) (x6 : Int32) (μ : Mem) (r : Int32) (μ' : Mem), k56 x2 x3 x4 x5 x6 μ = some (r, μ') → V φ ΩB 8 d 56 [some (rf φ 0 0), none, some (.int x2), some (.int x3), some (.int x4), some (.int x5), some (.int x6), none] [] μ (some (.int r), μ')) {x2 : Int32} {x3 : Int32} {x4 : Int32} {x5 : Int32} {x6 : Int32} {μ : Mem} {r : Int32} {μ' : Mem} (h : M_better_56 k41 k56 x2 x3 x4 x5 x6 μ = some (r, μ')) : V φ ΩB 8 d 56 [some (rf φ 0 0), none, some (.int x2), some (.int x3), some (.int x4), some (.int x5), some (.int x6), none] [] μ (some (.int r), μ') := by
  unfold M_better_56 at h
  refine V.iload F dX10_better_56 rfl ?_
  refine V.rload_n F dX10_better_58 rfl rfl ?_
  refine gf_RX10_76 F dX10_better_59 ?_
  refine V.icmp_ge (tgt := 113) F dX10_better_62 (by decide) (fun c1 => ?_) (fun c1 => ?_)
  · have h := f_out h c1
    obtain ⟨a2, ea2, h⟩ := nm_out h
    refine V.iinc (z := 1) (L' := [some (rf φ 0 0), none, some (.int x2), some (.int x3), some (.int x4), some (.int a2), some (.int x6), none]) F dX10_better_113 rfl (by decide) ea2 (by decide) rfl rfl ?_
    refine V.goto (tgt := 41) F dX10_better_116 (by decide) ?_
    refine V.msk (L' := [some (rf φ 0 0), none, some (.int x2), some (.int x3), some (.int x4), some (.int a2), none, none]) [true, false, true, true, true, true, false, false] rfl ?_
    exact hk41 _ _ _ _ _ _ _ h
  · have h := t_out h c1
    refine V.rload_n F dX10_better_65 rfl rfl ?_
    refine V.iload F dX10_better_66 rfl ?_
    refine V.iload F dX10_better_68 rfl ?_
    obtain ⟨μ4, e3, h⟩ := bnd_out h
    refine V.callVv (f := 0) (i := 0) (As := [.int x5, .int x6]) F ck_RX10_113 (M_swaps_ct e3) (by omega) (by decide) rfl mB0 rfl rfl rfl (Nat.le_of_ble_eq_true rfl) dX10_better_70 ?_
    refine V.rload_n F dX10_better_73 rfl rfl ?_
    obtain ⟨r6, e5, h⟩ := bnd_out h
    refine V.callVi (f := 0) (i := 0) (As := []) F ck_RX10_288 (M_warmNow_ct e5) (by omega) (by decide) rfl mB0 rfl rfl rfl (Nat.le_of_ble_eq_true rfl) dX10_better_74 ?_
    refine V.istore (L' := [some (rf φ 0 0), none, some (.int x2), some (.int x3), some (.int x4), some (.int x5), some (.int x6), some (.int r6)]) F dX10_better_77 (by decide) rfl rfl rfl ?_
    refine V.rload_n F dX10_better_79 rfl rfl ?_
    refine V.iload F dX10_better_80 rfl ?_
    refine V.iload F dX10_better_82 rfl ?_
    obtain ⟨μ8, e7, h⟩ := bnd_out h
    refine V.callVv (f := 0) (i := 0) (As := [.int x5, .int x6]) F ck_RX10_113 (M_swaps_ct e7) (by omega) (by decide) rfl mB0 rfl rfl rfl (Nat.le_of_ble_eq_true rfl) dX10_better_84 ?_
    refine V.iload F dX10_better_87 rfl ?_
    refine V.iload F dX10_better_89 rfl ?_
    refine V.icmp_ge (tgt := 107) F dX10_better_91 (by decide) (fun c9 => ?_) (fun c9 => ?_)
    · have h := f_out h c9
      refine V.msk (L' := [some (rf φ 0 0), none, some (.int x2), some (.int x3), some (.int x4), some (.int x5), some (.int x6), none]) [true, false, true, true, true, true, true, false] rfl ?_
      exact M_better_107_ok F hd hk41 hk56 h
    · have h := t_out h c9
      refine V.bipush (v := 10) F dX10_better_94 (by decide) ?_
      refine V.iload F dX10_better_96 rfl ?_
      refine V.imul F dX10_better_98 ?_
      refine V.iload F dX10_better_99 rfl ?_
      refine V.iadd F dX10_better_101 ?_
      obtain ⟨a10, ea10, h⟩ := nm_out h
      refine V.istore_n (L' := [some (rf φ 0 0), none, some (.int x2), some (.int a10), some (.int x4), some (.int x5), some (.int x6), some (.int r6)]) F dX10_better_102 rfl (by decide) rfl ea10 rfl ?_
      refine V.iload F dX10_better_103 rfl ?_
      refine V.istore (L' := [some (rf φ 0 0), none, some (.int x2), some (.int a10), some (.int r6), some (.int x5), some (.int x6), some (.int r6)]) F dX10_better_105 (by decide) rfl rfl rfl ?_
      refine V.msk (L' := [some (rf φ 0 0), none, some (.int x2), some (.int a10), some (.int r6), some (.int x5), some (.int x6), none]) [true, false, true, true, true, true, true, false] rfl ?_
      exact M_better_107_ok F hd hk41 hk56 h
def M_better_56L (k41 : Int32 → Int32 → Int32 → Int32 → Mem → Option (Int32 × Mem)) : Nat → Int32 → Int32 → Int32 → Int32 → Int32 → Mem → Option (Int32 × Mem)
  | 0 => fun _ _ _ _ _ _ => none
  | n + 1 => M_better_56 k41 (M_better_56L k41 n)
set_option maxHeartbeats 4000000 in
set_option maxRecDepth 100000 in
theorem M_better_56L_ok {φ : Fr} {d : Nat} (F : Fx φ ΩB cX10_better RX10 8 (some .int)) (hd : 112 ≤ d) {k41 : Int32 → Int32 → Int32 → Int32 → Mem → Option (Int32 × Mem)} (hk41 : ∀ (x2 : Int32) (x3 : Int32) (x4 : Int32) (x5 : Int32) (μ : Mem) (r : Int32) (μ' : Mem), k41 x2 x3 x4 x5 μ = some (r, μ') → V φ ΩB 8 d 41 [some (rf φ 0 0), none, some (.int x2), some (.int x3), some (.int x4), some (.int x5), none, none] [] μ (some (.int r), μ')) : ∀ (n : Nat) (x2 : Int32) (x3 : Int32) (x4 : Int32) (x5 : Int32) (x6 : Int32) (μ : Mem) (r : Int32) (μ' : Mem), M_better_56L k41 n x2 x3 x4 x5 x6 μ = some (r, μ') → V φ ΩB 8 d 56 [some (rf φ 0 0), none, some (.int x2), some (.int x3), some (.int x4), some (.int x5), some (.int x6), none] [] μ (some (.int r), μ') := by
  intro n
  induction n with
  | zero => intro x2 x3 x4 x5 x6 μ r μ' h; cases h
  | succ n ih => intro x2 x3 x4 x5 x6 μ r μ' h; exact M_better_56_ok F hd hk41 ih h
def M_better_41 (k41 : Int32 → Int32 → Int32 → Int32 → Mem → Option (Int32 × Mem)) (x2 : Int32) (x3 : Int32) (x4 : Int32) (x5 : Int32) (μ : Mem) : Option (Int32 × Mem) :=
  if x5 < (rd μ 0 0 12) then (
    nm (x5 + 1) fun a3 =>
    M_better_56L k41 1000 x2 x3 x4 x5 a3 μ)
  else (
    if x2 = 0 then (
      some (x3, μ))
    else (
      some (x4, μ)))
set_option maxHeartbeats 4000000 in
set_option maxRecDepth 100000 in
theorem M_better_41_ok {φ : Fr} {d : Nat} (F : Fx φ ΩB cX10_better RX10 8 (some .int)) (hd : 112 ≤ d) {k41 : Int32 → Int32 → Int32 → Int32 → Mem → Option (Int32 × Mem)} (hk41 : ∀ (x2 : Int32) (x3 : Int32) (x4 : Int32) (x5 : Int32) (μ : Mem) (r : Int32) (μ' : Mem), k41 x2 x3 x4 x5 μ = some (r, μ') → V φ ΩB 8 d 41 [some (rf φ 0 0), none, some (.int x2), some (.int x3), some (.int x4), some (.int x5), none, none] [] μ (some (.int r), μ')) {x2 : Int32} {x3 : Int32} {x4 : Int32} {x5 : Int32} {μ : Mem} {r : Int32} {μ' : Mem} (h : M_better_41 k41 x2 x3 x4 x5 μ = some (r, μ')) : V φ ΩB 8 d 41 [some (rf φ 0 0), none, some (.int x2), some (.int x3), some (.int x4), some (.int x5), none, none] [] μ (some (.int r), μ') := by
  unfold M_better_41 at h
  refine V.iload F dX10_better_41 rfl ?_
  refine V.rload_n F dX10_better_43 rfl rfl ?_
  refine gf_RX10_76 F dX10_better_44 ?_
  refine V.icmp_ge (tgt := 119) F dX10_better_47 (by decide) (fun c1 => ?_) (fun c1 => ?_)
  · have h := f_out h c1
    refine V.iload_n F dX10_better_119 rfl rfl ?_
    refine V.if_ne (tgt := 127) F dX10_better_120 (by decide) (fun c2 => ?_) (fun c2 => ?_)
    · have h := f_out h c2
      refine V.iload F dX10_better_127 rfl ?_
      obtain ⟨rfl, rfl⟩ := r2_out h
      exact V.iret F dX10_better_129
    · have h := t_out h c2
      refine V.iload_n F dX10_better_123 rfl rfl ?_
      refine V.goto (tgt := 129) F dX10_better_124 (by decide) ?_
      obtain ⟨rfl, rfl⟩ := r2_out h
      exact V.iret F dX10_better_129
  · have h := t_out h c1
    refine V.iload F dX10_better_50 rfl ?_
    refine V.iconst (v := 1) F dX10_better_52 (by decide) ?_
    refine V.iadd F dX10_better_53 ?_
    obtain ⟨a3, ea3, h⟩ := nm_out h
    refine V.istore (L' := [some (rf φ 0 0), none, some (.int x2), some (.int x3), some (.int x4), some (.int x5), some (.int a3), none]) F dX10_better_54 (by decide) rfl ea3 rfl ?_
    exact M_better_56L_ok F hd hk41 1000 _ _ _ _ _ _ _ _ h
def M_better_41L : Nat → Int32 → Int32 → Int32 → Int32 → Mem → Option (Int32 × Mem)
  | 0 => fun _ _ _ _ _ => none
  | n + 1 => M_better_41 (M_better_41L n)
set_option maxHeartbeats 4000000 in
set_option maxRecDepth 100000 in
theorem M_better_41L_ok {φ : Fr} {d : Nat} (F : Fx φ ΩB cX10_better RX10 8 (some .int)) (hd : 112 ≤ d) : ∀ (n : Nat) (x2 : Int32) (x3 : Int32) (x4 : Int32) (x5 : Int32) (μ : Mem) (r : Int32) (μ' : Mem), M_better_41L n x2 x3 x4 x5 μ = some (r, μ') → V φ ΩB 8 d 41 [some (rf φ 0 0), none, some (.int x2), some (.int x3), some (.int x4), some (.int x5), none, none] [] μ (some (.int r), μ') := by
  intro n
  induction n with
  | zero => intro x2 x3 x4 x5 μ r μ' h; cases h
  | succ n ih => intro x2 x3 x4 x5 μ r μ' h; exact M_better_41_ok F hd ih h
def M_better (x1 : Int32) (x2 : Int32) (μ : Mem) : Option (Int32 × Mem) :=
  nm (M_in (Int32.toInt64 x1) 0 40) fun r2 =>
  if r2 = 0 then (
    some ((-2), μ))
  else (
    nm (M_in (Int32.toInt64 x2) 0 1) fun r5 =>
    if r5 = 0 then (
      some ((-2), μ))
    else (
      bnd (M_tables x1 μ) fun μ8 =>
      bnd (M_warmNow μ8) fun r10 =>
      M_better_41L 1000 x2 (-1) r10 0 μ8))
set_option maxHeartbeats 4000000 in
set_option maxRecDepth 100000 in
theorem M_better_ok {φ : Fr} {d : Nat} (F : Fx φ ΩB cX10_better RX10 8 (some .int)) (hd : 112 ≤ d) {x1 : Int32} {x2 : Int32} {μ : Mem} {r : Int32} {μ' : Mem} (h : M_better x1 x2 μ = some (r, μ')) : V φ ΩB 8 d 0 [some (rf φ 0 0), some (.int x1), some (.int x2), none, none, none, none, none] [] μ (some (.int r), μ') := by
  unfold M_better at h
  refine V.iload_n F dX10_better_0 rfl rfl ?_
  refine V.i2l F dX10_better_1 ?_
  refine V.lconst (v := 0) F dX10_better_2 (by decide) ?_
  refine V.ldc2 F kl_RX10_270 dX10_better_3 ?_
  obtain ⟨r2, e1, h⟩ := nm_out h
  refine V.callSi (As := [.long (Int32.toInt64 x1), .long 0, .long 40]) F ck_RX10_79 (M_in_ct e1) (by omega) (by decide) rfl rfl (Nat.le_of_ble_eq_true rfl) dX10_better_6 ?_
  refine V.if_eq (tgt := 22) F dX10_better_9 (by decide) (fun c3 => ?_) (fun c3 => ?_)
  · have h := t_out h c3
    refine V.bipush (v := (-2)) F dX10_better_22 (by decide) ?_
    obtain ⟨rfl, rfl⟩ := r2_out h
    exact V.iret F dX10_better_24
  · have h := f_out h c3
    refine V.iload_n F dX10_better_12 rfl rfl ?_
    refine V.i2l F dX10_better_13 ?_
    refine V.lconst (v := 0) F dX10_better_14 (by decide) ?_
    refine V.lconst (v := 1) F dX10_better_15 (by decide) ?_
    obtain ⟨r5, e4, h⟩ := nm_out h
    refine V.callSi (As := [.long (Int32.toInt64 x2), .long 0, .long 1]) F ck_RX10_79 (M_in_ct e4) (by omega) (by decide) rfl rfl (Nat.le_of_ble_eq_true rfl) dX10_better_16 ?_
    refine V.if_ne (tgt := 25) F dX10_better_19 (by decide) (fun c6 => ?_) (fun c6 => ?_)
    · have h := f_out h c6
      refine V.rload_n F dX10_better_25 rfl rfl ?_
      refine V.iload_n F dX10_better_26 rfl rfl ?_
      obtain ⟨μ8, e7, h⟩ := bnd_out h
      refine V.callVv (f := 0) (i := 0) (As := [.int x1]) F ck_RX10_284 (M_tables_ct e7) (by omega) (by decide) rfl mB0 rfl rfl rfl (Nat.le_of_ble_eq_true rfl) dX10_better_27 ?_
      refine V.iconst (v := (-1)) F dX10_better_30 (by decide) ?_
      refine V.istore_n (L' := [some (rf φ 0 0), some (.int x1), some (.int x2), some (.int (-1)), none, none, none, none]) F dX10_better_31 rfl (by decide) rfl rfl rfl ?_
      refine V.rload_n F dX10_better_32 rfl rfl ?_
      obtain ⟨r10, e9, h⟩ := bnd_out h
      refine V.callVi (f := 0) (i := 0) (As := []) F ck_RX10_288 (M_warmNow_ct e9) (by omega) (by decide) rfl mB0 rfl rfl rfl (Nat.le_of_ble_eq_true rfl) dX10_better_33 ?_
      refine V.istore (L' := [some (rf φ 0 0), some (.int x1), some (.int x2), some (.int (-1)), some (.int r10), none, none, none]) F dX10_better_36 (by decide) rfl rfl rfl ?_
      refine V.iconst (v := 0) F dX10_better_38 (by decide) ?_
      refine V.istore (L' := [some (rf φ 0 0), some (.int x1), some (.int x2), some (.int (-1)), some (.int r10), some (.int 0), none, none]) F dX10_better_39 (by decide) rfl rfl rfl ?_
      refine V.msk (L' := [some (rf φ 0 0), none, some (.int x2), some (.int (-1)), some (.int r10), some (.int 0), none, none]) [true, false, true, true, true, true, false, false] rfl ?_
      exact M_better_41L_ok F hd 1000 _ _ _ _ _ _ _ h
    · have h := t_out h c6
      refine V.bipush (v := (-2)) F dX10_better_22 (by decide) ?_
      obtain ⟨rfl, rfl⟩ := r2_out h
      exact V.iret F dX10_better_24
set_option maxHeartbeats 4000000 in
set_option maxRecDepth 100000 in
theorem M_better_ct {l : Launch} {G : Glo} {x1 : Int32} {x2 : Int32} {μ : Mem} {r : Int32} {μ' : Mem} (h : M_better x1 x2 μ = some (r, μ')) : Ct l ΩB G 112 yX10_better cX10_better 8 (some .int) [.ref (G.1 0 0), .int x1, .int x2] μ (some (.int r), μ') := by
  refine Ct.intro (by decide) (Nat.le_of_ble_eq_true rfl) ?_
  intro φ hl hG F
  subst hl; subst hG
  exact M_better_ok F (Nat.le_refl _) h
def M_seeksRG (l : Launch) (G : Glo) (d w : Nat) (a0 : Int32) (a1 : Int32) (a2 : Int32) (a3 : Int32) (μ : Mem) (ρ : Option Value × Mem) : Prop := match w with
  | 0 => Ct l ΩB G d yX10_seeks cX10_seeks 6 (none) [.ref (G.1 0 0), .int a0, .int a1, .int a2, .int a3] μ ρ
  | _ => False
def M_seeks_98 (rc : Nat → Int32 → Int32 → Int32 → Int32 → Mem → Option Mem) (k43 : Int32 → Int32 → Int32 → Int32 → Int32 → Mem → Option Mem) (x1 : Int32) (x2 : Int32) (x3 : Int32) (x4 : Int32) (x5 : Int32) (μ : Mem) : Option Mem :=
  nm (x5 + 1) fun a1 =>
  k43 x1 x2 x3 x4 a1 μ
set_option maxHeartbeats 4000000 in
set_option maxRecDepth 100000 in
theorem M_seeks_98_ok {φ : Fr} {d : Nat} (F : Fx φ ΩB cX10_seeks RX10 6 (none)) (hd : 0 ≤ d) {rc : Nat → Int32 → Int32 → Int32 → Int32 → Mem → Option Mem} (hrc : ∀ (w : Nat) (a0 : Int32) (a1 : Int32) (a2 : Int32) (a3 : Int32) (μ : Mem)  (μ' : Mem), rc w a0 a1 a2 a3 μ = some μ' → M_seeksRG φ.1.2.1 (gl φ) d w a0 a1 a2 a3 μ (none, μ')) {k43 : Int32 → Int32 → Int32 → Int32 → Int32 → Mem → Option Mem} (hk43 : ∀ (x1 : Int32) (x2 : Int32) (x3 : Int32) (x4 : Int32) (x5 : Int32) (μ : Mem)  (μ' : Mem), k43 x1 x2 x3 x4 x5 μ = some μ' → V φ ΩB 6 (d + 1) 43 [some (rf φ 0 0), some (.int x1), some (.int x2), some (.int x3), some (.int x4), some (.int x5)] [] μ (none, μ')) {x1 : Int32} {x2 : Int32} {x3 : Int32} {x4 : Int32} {x5 : Int32} {μ : Mem}  {μ' : Mem} (h : M_seeks_98 rc k43 x1 x2 x3 x4 x5 μ = some μ') : V φ ΩB 6 (d + 1) 98 [some (rf φ 0 0), some (.int x1), some (.int x2), some (.int x3), some (.int x4), some (.int x5)] [] μ (none, μ') := by
  unfold M_seeks_98 at h
  obtain ⟨a1, ea1, h⟩ := nm_out h
  refine V.iinc (z := 1) (L' := [some (rf φ 0 0), some (.int x1), some (.int x2), some (.int x3), some (.int x4), some (.int a1)]) F dX10_seeks_98 rfl (by decide) ea1 (by decide) rfl rfl ?_
  refine V.goto (tgt := 43) F dX10_seeks_101 (by decide) ?_
  exact hk43 _ _ _ _ _ _ _ h
def M_seeks_43 (rc : Nat → Int32 → Int32 → Int32 → Int32 → Mem → Option Mem) (k43 : Int32 → Int32 → Int32 → Int32 → Int32 → Mem → Option Mem) (x1 : Int32) (x2 : Int32) (x3 : Int32) (x4 : Int32) (x5 : Int32) (μ : Mem) : Option Mem :=
  if x5 < (rd μ 0 0 12) then (
    if ((shr x2 x5) &&& 1) = 0 then (
      chk (inb ((6 * x1) + x5) 36) <|
      bnd (rc 0 (x1 + 1) (x2 ||| (shl 1 x5)) (x3 + (rd μ 7 0 (ix ((6 * x1) + x5)))) (((10 * x4) + x5) + 1) μ) fun μ5 =>
      M_seeks_98 rc k43 x1 x2 x3 x4 x5 μ5)
    else (
      M_seeks_98 rc k43 x1 x2 x3 x4 x5 μ))
  else (
    some μ)
set_option maxHeartbeats 4000000 in
set_option maxRecDepth 100000 in
theorem M_seeks_43_ok {φ : Fr} {d : Nat} (F : Fx φ ΩB cX10_seeks RX10 6 (none)) (hd : 0 ≤ d) {rc : Nat → Int32 → Int32 → Int32 → Int32 → Mem → Option Mem} (hrc : ∀ (w : Nat) (a0 : Int32) (a1 : Int32) (a2 : Int32) (a3 : Int32) (μ : Mem)  (μ' : Mem), rc w a0 a1 a2 a3 μ = some μ' → M_seeksRG φ.1.2.1 (gl φ) d w a0 a1 a2 a3 μ (none, μ')) {k43 : Int32 → Int32 → Int32 → Int32 → Int32 → Mem → Option Mem} (hk43 : ∀ (x1 : Int32) (x2 : Int32) (x3 : Int32) (x4 : Int32) (x5 : Int32) (μ : Mem)  (μ' : Mem), k43 x1 x2 x3 x4 x5 μ = some μ' → V φ ΩB 6 (d + 1) 43 [some (rf φ 0 0), some (.int x1), some (.int x2), some (.int x3), some (.int x4), some (.int x5)] [] μ (none, μ')) {x1 : Int32} {x2 : Int32} {x3 : Int32} {x4 : Int32} {x5 : Int32} {μ : Mem}  {μ' : Mem} (h : M_seeks_43 rc k43 x1 x2 x3 x4 x5 μ = some μ') : V φ ΩB 6 (d + 1) 43 [some (rf φ 0 0), some (.int x1), some (.int x2), some (.int x3), some (.int x4), some (.int x5)] [] μ (none, μ') := by
  unfold M_seeks_43 at h
  refine V.iload F dX10_seeks_43 rfl ?_
  refine V.rload_n F dX10_seeks_45 rfl rfl ?_
  refine gf_RX10_76 F dX10_seeks_46 ?_
  refine V.icmp_ge (tgt := 104) F dX10_seeks_49 (by decide) (fun c1 => ?_) (fun c1 => ?_)
  · have h := f_out h c1
    obtain rfl := r1_out h
    exact V.vret F dX10_seeks_104
  · have h := t_out h c1
    refine V.iload_n F dX10_seeks_52 rfl rfl ?_
    refine V.iload F dX10_seeks_53 rfl ?_
    refine V.ishr F dX10_seeks_55 ?_
    refine V.iconst (v := 1) F dX10_seeks_56 (by decide) ?_
    refine V.iand F dX10_seeks_57 ?_
    refine V.if_ne (tgt := 98) F dX10_seeks_58 (by decide) (fun c2 => ?_) (fun c2 => ?_)
    · have h := f_out h c2
      exact M_seeks_98_ok F hd hrc hk43 h
    · have h := t_out h c2
      refine V.rload_n F dX10_seeks_61 rfl rfl ?_
      refine V.iload_n F dX10_seeks_62 rfl rfl ?_
      refine V.iconst (v := 1) F dX10_seeks_63 (by decide) ?_
      refine V.iadd F dX10_seeks_64 ?_
      refine V.iload_n F dX10_seeks_65 rfl rfl ?_
      refine V.iconst (v := 1) F dX10_seeks_66 (by decide) ?_
      refine V.iload F dX10_seeks_67 rfl ?_
      refine V.ishl F dX10_seeks_69 ?_
      refine V.ior F dX10_seeks_70 ?_
      refine V.iload_n F dX10_seeks_71 rfl rfl ?_
      refine V.rload_n F dX10_seeks_72 rfl rfl ?_
      refine gf_RX10_35 F dX10_seeks_73 ?_
      refine V.bipush (v := 6) F dX10_seeks_76 (by decide) ?_
      refine V.iload_n F dX10_seeks_78 rfl rfl ?_
      refine V.imul F dX10_seeks_79 ?_
      refine V.iload F dX10_seeks_80 rfl ?_
      refine V.iadd F dX10_seeks_82 ?_
      obtain ⟨c3, h⟩ := chk_out h
      refine V.iald (t0 := 0) (n := 36) F mB7 rfl rfl c3 dX10_seeks_83 ?_
      refine V.iadd F dX10_seeks_84 ?_
      refine V.bipush (v := 10) F dX10_seeks_85 (by decide) ?_
      refine V.iload F dX10_seeks_87 rfl ?_
      refine V.imul F dX10_seeks_89 ?_
      refine V.iload F dX10_seeks_90 rfl ?_
      refine V.iadd F dX10_seeks_92 ?_
      refine V.iconst (v := 1) F dX10_seeks_93 (by decide) ?_
      refine V.iadd F dX10_seeks_94 ?_
      obtain ⟨μ5, e4, h⟩ := bnd_out h
      refine V.callVv (f := 0) (i := 0) (As := [.int (x1 + 1), .int (x2 ||| (shl 1 x5)), .int (x3 + (rd μ 7 0 (ix ((6 * x1) + x5)))), .int (((10 * x4) + x5) + 1)]) F ck_RX10_300 (hrc 0 _ _ _ _ _ _ e4) (by omega) (by decide) rfl mB0 rfl rfl rfl (Nat.le_of_ble_eq_true rfl) dX10_seeks_95 ?_
      exact M_seeks_98_ok F hd hrc hk43 h
def M_seeks_43L (rc : Nat → Int32 → Int32 → Int32 → Int32 → Mem → Option Mem) : Nat → Int32 → Int32 → Int32 → Int32 → Int32 → Mem → Option Mem
  | 0 => fun _ _ _ _ _ _ => none
  | n + 1 => M_seeks_43 rc (M_seeks_43L rc n)
set_option maxHeartbeats 4000000 in
set_option maxRecDepth 100000 in
theorem M_seeks_43L_ok {φ : Fr} {d : Nat} (F : Fx φ ΩB cX10_seeks RX10 6 (none)) (hd : 0 ≤ d) {rc : Nat → Int32 → Int32 → Int32 → Int32 → Mem → Option Mem} (hrc : ∀ (w : Nat) (a0 : Int32) (a1 : Int32) (a2 : Int32) (a3 : Int32) (μ : Mem)  (μ' : Mem), rc w a0 a1 a2 a3 μ = some μ' → M_seeksRG φ.1.2.1 (gl φ) d w a0 a1 a2 a3 μ (none, μ')) : ∀ (n : Nat) (x1 : Int32) (x2 : Int32) (x3 : Int32) (x4 : Int32) (x5 : Int32) (μ : Mem)  (μ' : Mem), M_seeks_43L rc n x1 x2 x3 x4 x5 μ = some μ' → V φ ΩB 6 (d + 1) 43 [some (rf φ 0 0), some (.int x1), some (.int x2), some (.int x3), some (.int x4), some (.int x5)] [] μ (none, μ') := by
  intro n
  induction n with
  | zero => intro x1 x2 x3 x4 x5 μ μ' h; cases h
  | succ n ih => intro x1 x2 x3 x4 x5 μ μ' h; exact M_seeks_43_ok F hd hrc ih h
def M_seeks_23 (rc : Nat → Int32 → Int32 → Int32 → Int32 → Mem → Option Mem) (x3 : Int32) (x4 : Int32) (μ : Mem) : Option Mem :=
  nm (up μ 0 0 32 1) fun μ1 =>
  nm (up μ1 0 0 33 x4) fun μ2 =>
  nm (up μ2 0 0 34 x3) fun μ3 =>
  some μ3
set_option maxHeartbeats 4000000 in
set_option maxRecDepth 100000 in
theorem M_seeks_23_ok {φ : Fr} {d : Nat} (F : Fx φ ΩB cX10_seeks RX10 6 (none)) (hd : 0 ≤ d) {rc : Nat → Int32 → Int32 → Int32 → Int32 → Mem → Option Mem} (hrc : ∀ (w : Nat) (a0 : Int32) (a1 : Int32) (a2 : Int32) (a3 : Int32) (μ : Mem)  (μ' : Mem), rc w a0 a1 a2 a3 μ = some μ' → M_seeksRG φ.1.2.1 (gl φ) d w a0 a1 a2 a3 μ (none, μ')) {x3 : Int32} {x4 : Int32} {μ : Mem}  {μ' : Mem} (h : M_seeks_23 rc x3 x4 μ = some μ') : V φ ΩB 6 (d + 1) 23 [some (rf φ 0 0), none, none, some (.int x3), some (.int x4), none] [] μ (none, μ') := by
  unfold M_seeks_23 at h
  refine V.rload_n F dX10_seeks_23 rfl rfl ?_
  refine V.iconst (v := 1) F dX10_seeks_24 (by decide) ?_
  obtain ⟨μ1, eμ1, h⟩ := nm_out h
  refine pf_RX10_291 (by decide) F eμ1 dX10_seeks_25 ?_
  refine V.rload_n F dX10_seeks_28 rfl rfl ?_
  refine V.iload F dX10_seeks_29 rfl ?_
  obtain ⟨μ2, eμ2, h⟩ := nm_out h
  refine pf_RX10_297 F eμ2 dX10_seeks_31 ?_
  refine V.rload_n F dX10_seeks_34 rfl rfl ?_
  refine V.iload_n F dX10_seeks_35 rfl rfl ?_
  obtain ⟨μ3, eμ3, h⟩ := nm_out h
  refine pf_RX10_294 F eμ3 dX10_seeks_36 ?_
  obtain rfl := r1_out h
  exact V.vret F dX10_seeks_39
def M_seeks (rc : Nat → Int32 → Int32 → Int32 → Int32 → Mem → Option Mem) (x1 : Int32) (x2 : Int32) (x3 : Int32) (x4 : Int32) (μ : Mem) : Option Mem :=
  if x1 = (rd μ 0 0 12) then (
    if (rd μ 0 0 32) = 0 then (
      M_seeks_23 rc x3 x4 μ)
    else (
      if x3 < (rd μ 0 0 34) then (
        M_seeks_23 rc x3 x4 μ)
      else (
        some μ)))
  else (
    M_seeks_43L rc 1000 x1 x2 x3 x4 0 μ)
set_option maxHeartbeats 4000000 in
set_option maxRecDepth 100000 in
theorem M_seeks_ok {φ : Fr} {d : Nat} (F : Fx φ ΩB cX10_seeks RX10 6 (none)) (hd : 0 ≤ d) {rc : Nat → Int32 → Int32 → Int32 → Int32 → Mem → Option Mem} (hrc : ∀ (w : Nat) (a0 : Int32) (a1 : Int32) (a2 : Int32) (a3 : Int32) (μ : Mem)  (μ' : Mem), rc w a0 a1 a2 a3 μ = some μ' → M_seeksRG φ.1.2.1 (gl φ) d w a0 a1 a2 a3 μ (none, μ')) {x1 : Int32} {x2 : Int32} {x3 : Int32} {x4 : Int32} {μ : Mem}  {μ' : Mem} (h : M_seeks rc x1 x2 x3 x4 μ = some μ') : V φ ΩB 6 (d + 1) 0 [some (rf φ 0 0), some (.int x1), some (.int x2), some (.int x3), some (.int x4), none] [] μ (none, μ') := by
  unfold M_seeks at h
  refine V.iload_n F dX10_seeks_0 rfl rfl ?_
  refine V.rload_n F dX10_seeks_1 rfl rfl ?_
  refine gf_RX10_76 F dX10_seeks_2 ?_
  refine V.icmp_ne (tgt := 40) F dX10_seeks_5 (by decide) (fun c1 => ?_) (fun c1 => ?_)
  · have h := f_out h c1
    refine V.iconst (v := 0) F dX10_seeks_40 (by decide) ?_
    refine V.istore (L' := [some (rf φ 0 0), some (.int x1), some (.int x2), some (.int x3), some (.int x4), some (.int 0)]) F dX10_seeks_41 (by decide) rfl rfl rfl ?_
    exact M_seeks_43L_ok F hd hrc 1000 _ _ _ _ _ _ _ h
  · have h := t_out h c1
    refine V.rload_n F dX10_seeks_8 rfl rfl ?_
    refine gf_RX10_291 F dX10_seeks_9 ?_
    refine V.if_eq (tgt := 23) F dX10_seeks_12 (by decide) (fun c2 => ?_) (fun c2 => ?_)
    · have h := t_out h c2
      refine V.msk (L' := [some (rf φ 0 0), none, none, some (.int x3), some (.int x4), none]) [true, false, false, true, true, false] rfl ?_
      exact M_seeks_23_ok F hd hrc h
    · have h := f_out h c2
      refine V.iload_n F dX10_seeks_15 rfl rfl ?_
      refine V.rload_n F dX10_seeks_16 rfl rfl ?_
      refine gf_RX10_294 F dX10_seeks_17 ?_
      refine V.icmp_ge (tgt := 39) F dX10_seeks_20 (by decide) (fun c3 => ?_) (fun c3 => ?_)
      · have h := f_out h c3
        obtain rfl := r1_out h
        exact V.vret F dX10_seeks_39
      · have h := t_out h c3
        refine V.msk (L' := [some (rf φ 0 0), none, none, some (.int x3), some (.int x4), none]) [true, false, false, true, true, false] rfl ?_
        exact M_seeks_23_ok F hd hrc h
def M_seeksR : Nat → Nat → Int32 → Int32 → Int32 → Int32 → Mem → Option Mem
  | 0 => fun _ _ _ _ _ _ => none
  | n + 1 => fun w a0 a1 a2 a3 μ => match w with
    | 0 => M_seeks (M_seeksR n) a0 a1 a2 a3 μ
    | _ => none
set_option maxHeartbeats 4000000 in
set_option maxRecDepth 100000 in
theorem M_seeksR_ct {l : Launch} {G : Glo} : ∀ (n w : Nat) (a0 : Int32) (a1 : Int32) (a2 : Int32) (a3 : Int32) (μ : Mem)  (μ' : Mem), M_seeksR n w a0 a1 a2 a3 μ = some μ' → M_seeksRG l G (0 + n) w a0 a1 a2 a3 μ (none, μ') := by
  intro n
  induction n with
  | zero => intro w a0 a1 a2 a3 μ μ' h; cases h
  | succ n ih =>
    intro w a0 a1 a2 a3 μ μ' h
    match w, h with
    | 0, h =>
      refine Ct.intro (y := yX10_seeks) (by decide) (Nat.le_of_ble_eq_true rfl) ?_
      intro φ hl hG F
      subst hl; subst hG
      exact M_seeks_ok F (Nat.le_add_right _ _) ih h
    | _ + 1, h => cases h
