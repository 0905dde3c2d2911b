def S_tells_52 (x1 : Int32) (x2 : Int32) (x3 : Int32) (μ : Mem) : Option (Int32 × Mem) :=
  chk (inb x1 4) <|
  nm (Sh_isMissing (ix x1) μ) fun r3 =>
  if r3 = 0 then (
    if (rd μ 16 (ix x1) 1) = (rd μ 1 0 3) then (
      if x3 = 0 then (
        if x2 = 0 then (
          bnd (S_rule μ) fun r9 =>
          chk (r9 < 6) <|
          bnd2 (S_otherwise (ix x1) r9 μ) fun r12 μ13 =>
          some (r12, μ13))
        else (
        if x2 = 4 then (
          bnd2 (S_textsBy (ix x1) μ) fun r16 μ17 =>
          some (r16, μ17))
        else (
        bnd2 (S_waysBy (ix x1) x2 μ) fun r19 μ20 =>
        some (r19, μ20))))
      else (
        bnd2 (S_wouldBeSo (ix x1) (x2 / 10) (irm x2 10) μ) fun r22 μ23 =>
        some (r22, μ23)))
    else (
      some ((-2), μ)))
  else (
    some ((-11), μ))
set_option maxHeartbeats 4000000 in
set_option maxRecDepth 100000 in
theorem S_tells_52_ok {φ : Fr} {d : Nat} (F : Fx φ ΩA cX9_tells RX9 5 (some .int)) (hd : 6 ≤ d) {x1 : Int32} {x2 : Int32} {x3 : Int32} {μ : Mem} {r : Int32} {μ' : Mem} (h : S_tells_52 x1 x2 x3 μ = some (r, μ')) : V φ ΩA 5 d 52 [some (rf φ 0 0), some (.int x1), some (.int x2), some (.int x3), none] [] μ (some (.int r), μ') := by
  unfold S_tells_52 at h
  refine V.rload_n F dX9_tells_52 rfl rfl ?_
  refine gf_RX9_42 F dX9_tells_53 ?_
  refine V.iload_n F dX9_tells_56 rfl rfl ?_
  obtain ⟨c1, h⟩ := chk_out h
  refine V.aald (t0 := 4) (n := 4) 16 (ix x1) F mA15 rfl rfl c1 rfl dX9_tells_57 ?_
  refine V.rstore (L' := [some (rf φ 0 0), some (.int x1), some (.int x2), some (.int x3), some (rf φ 16 (ix x1))]) F dX9_tells_58 (by decide) rfl rfl ?_
  refine V.rload F dX9_tells_60 rfl ?_
  obtain ⟨r3, e2, h⟩ := nm_out h
  refine V.callVi (f := 16) (i := ix x1) (As := []) F ck_RX9_279 (Sh_isMissing_ct (inb_lt c1) e2) (by omega) (by decide) rfl (mA16 (inb_lt c1)) rfl rfl rfl (Nat.le_of_ble_eq_true rfl) dX9_tells_62 ?_
  refine V.if_eq (tgt := 71) F dX9_tells_65 (by decide) (fun c4 => ?_) (fun c4 => ?_)
  · have h := t_out h c4
    refine V.rload F dX9_tells_71 rfl ?_
    refine gf_RX9_283 (inb_lt c1) F dX9_tells_73 ?_
    refine V.rload_n F dX9_tells_76 rfl rfl ?_
    refine gf_RX9_10 F dX9_tells_77 ?_
    refine gf_RX9_131 (by decide) F dX9_tells_80 ?_
    refine V.icmp_eq (tgt := 89) F dX9_tells_83 (by decide) (fun c5 => ?_) (fun c5 => ?_)
    · have h := t_out h c5
      refine V.iload_n F dX9_tells_89 rfl rfl ?_
      refine V.if_eq (tgt := 108) F dX9_tells_90 (by decide) (fun c6 => ?_) (fun c6 => ?_)
      · have h := t_out h c6
        refine V.iload_n F dX9_tells_108 rfl rfl ?_
        by_cases c7 : x2 = 0
        · have h := t_out h c7
          refine V.lookup (tgt := 136) (off := 27) F dX9_tells_109 (by decide) (by rw [c7]; try rfl) (by decide) ?_
          refine V.rload_n F dX9_tells_136 rfl rfl ?_
          refine V.rload F dX9_tells_137 rfl ?_
          refine V.rload_n F dX9_tells_139 rfl rfl ?_
          obtain ⟨r9, e8, h⟩ := bnd_out h
          refine V.callVr (f := 0) (i := 0) (As := []) 5 r9 F ck_RX9_154 (S_rule_ct e8) (by omega) (by decide) rfl mA0 rfl rfl rfl (Nat.le_of_ble_eq_true rfl) dX9_tells_140 ?_
          obtain ⟨c10, h⟩ := chk_out h
          obtain ⟨r12, μ13, e11, h⟩ := bnd2_out h
          refine V.callVi (f := 0) (i := 0) (As := [rf φ 16 (ix x1), rf φ 5 r9]) F ck_RX9_288 (S_otherwise_ct (inb_lt c1) c10 e11) (by omega) (by decide) rfl mA0 rfl rfl rfl (Nat.le_of_ble_eq_true rfl) dX9_tells_143 ?_
          obtain ⟨rfl, rfl⟩ := r2_out h
          exact V.iret F dX9_tells_146
        have h := f_out h c7
        by_cases c14 : x2 = 4
        · have h := t_out h c14
          refine V.lookup (tgt := 147) (off := 38) F dX9_tells_109 (by decide) (by rw [c14]; try rfl) (by decide) ?_
          refine V.rload_n F dX9_tells_147 rfl rfl ?_
          refine V.rload F dX9_tells_148 rfl ?_
          obtain ⟨r16, μ17, e15, h⟩ := bnd2_out h
          refine V.callVi (f := 0) (i := 0) (As := [rf φ 16 (ix x1)]) F ck_RX9_292 (S_textsBy_ct (inb_lt c1) e15) (by omega) (by decide) rfl mA0 rfl rfl rfl (Nat.le_of_ble_eq_true rfl) dX9_tells_150 ?_
          obtain ⟨rfl, rfl⟩ := r2_out h
          exact V.iret F dX9_tells_153
        have h := f_out h c14
        refine V.lookup (tgt := 154) (off := 45) F dX9_tells_109 (by decide) (by show Op.lookupswitch.offset [(0, 27), (4, 38)] _ _ = _; rw [lv_osw c7 (by decide), lv_osw c14 (by decide)]; try rfl) (by decide) ?_
        refine V.rload_n F dX9_tells_154 rfl rfl ?_
        refine V.rload F dX9_tells_155 rfl ?_
        refine V.iload_n F dX9_tells_157 rfl rfl ?_
        obtain ⟨r19, μ20, e18, h⟩ := bnd2_out h
        refine V.callVi (f := 0) (i := 0) (As := [rf φ 16 (ix x1), .int x2]) F ck_RX9_296 (S_waysBy_ct (inb_lt c1) e18) (by omega) (by decide) rfl mA0 rfl rfl rfl (Nat.le_of_ble_eq_true rfl) dX9_tells_158 ?_
        obtain ⟨rfl, rfl⟩ := r2_out h
        exact V.iret F dX9_tells_161
      · have h := f_out h c6
        refine V.rload_n F dX9_tells_93 rfl rfl ?_
        refine V.rload F dX9_tells_94 rfl ?_
        refine V.iload_n F dX9_tells_96 rfl rfl ?_
        refine V.bipush (v := 10) F dX9_tells_97 (by decide) ?_
        refine V.idiv F dX9_tells_99 (by decide) ?_
        refine V.iload_n F dX9_tells_100 rfl rfl ?_
        refine V.bipush (v := 10) F dX9_tells_101 (by decide) ?_
        refine V.irem F dX9_tells_103 (by decide) ?_
        obtain ⟨r22, μ23, e21, h⟩ := bnd2_out h
        refine V.callVi (f := 0) (i := 0) (As := [rf φ 16 (ix x1), .int (x2 / 10), .int (irm x2 10)]) F ck_RX9_284 (S_wouldBeSo_ct (inb_lt c1) e21) (by omega) (by decide) rfl mA0 rfl rfl rfl (Nat.le_of_ble_eq_true rfl) dX9_tells_104 ?_
        obtain ⟨rfl, rfl⟩ := r2_out h
        exact V.iret F dX9_tells_107
    · have h := f_out h c5
      refine V.bipush (v := (-2)) F dX9_tells_86 (by decide) ?_
      obtain ⟨rfl, rfl⟩ := r2_out h
      exact V.iret F dX9_tells_88
  · have h := f_out h c4
    refine V.bipush (v := (-11)) F dX9_tells_68 (by decide) ?_
    obtain ⟨rfl, rfl⟩ := r2_out h
    exact V.iret F dX9_tells_70
def S_tells_45 (x1 : Int32) (x2 : Int32) (x3 : Int32) (μ : Mem) : Option (Int32 × Mem) :=
  if x3 = 0 then (
    some ((-2), μ))
  else (
    S_tells_52 x1 x2 x3 μ)
set_option maxHeartbeats 4000000 in
set_option maxRecDepth 100000 in
theorem S_tells_45_ok {φ : Fr} {d : Nat} (F : Fx φ ΩA cX9_tells RX9 5 (some .int)) (hd : 6 ≤ d) {x1 : Int32} {x2 : Int32} {x3 : Int32} {μ : Mem} {r : Int32} {μ' : Mem} (h : S_tells_45 x1 x2 x3 μ = some (r, μ')) : V φ ΩA 5 d 45 [some (rf φ 0 0), some (.int x1), some (.int x2), some (.int x3), none] [] μ (some (.int r), μ') := by
  unfold S_tells_45 at h
  refine V.iload_n F dX9_tells_45 rfl rfl ?_
  refine V.if_ne (tgt := 52) F dX9_tells_46 (by decide) (fun c1 => ?_) (fun c1 => ?_)
  · have h := f_out h c1
    exact S_tells_52_ok F hd h
  · have h := t_out h c1
    refine V.bipush (v := (-2)) F dX9_tells_49 (by decide) ?_
    obtain ⟨rfl, rfl⟩ := r2_out h
    exact V.iret F dX9_tells_51
def S_tells_28 (x1 : Int32) (x2 : Int32) (y0 : Int32) (μ : Mem) : Option (Int32 × Mem) :=
  nm (S_isSheet x1) fun r2 =>
  if r2 = 0 then (
    some ((-2), μ))
  else (
    if x2 < 0 then (
      S_tells_45 x1 x2 y0 μ)
    else (
      if 4 < x2 then (
        S_tells_45 x1 x2 y0 μ)
      else (
        S_tells_52 x1 x2 y0 μ)))
set_option maxHeartbeats 4000000 in
set_option maxRecDepth 100000 in
theorem S_tells_28_ok {φ : Fr} {d : Nat} (F : Fx φ ΩA cX9_tells RX9 5 (some .int)) (hd : 6 ≤ d) {x1 : Int32} {x2 : Int32} {y0 : Int32} {μ : Mem} {r : Int32} {μ' : Mem} (h : S_tells_28 x1 x2 y0 μ = some (r, μ')) : V φ ΩA 5 d 28 [some (rf φ 0 0), some (.int x1), some (.int x2), none, none] [.int y0] μ (some (.int r), μ') := by
  unfold S_tells_28 at h
  refine V.istore_n (L' := [some (rf φ 0 0), some (.int x1), some (.int x2), some (.int y0), none]) F dX9_tells_28 rfl (by decide) rfl rfl rfl ?_
  refine V.iload_n F dX9_tells_29 rfl rfl ?_
  obtain ⟨r2, e1, h⟩ := nm_out h
  refine V.callSi (As := [.int x1]) F ck_RX9_276 (S_isSheet_ct e1) (by omega) (by decide) rfl rfl (Nat.le_of_ble_eq_true rfl) dX9_tells_30 ?_
  refine V.if_eq (tgt := 49) F dX9_tells_33 (by decide) (fun c3 => ?_) (fun c3 => ?_)
  · have h := t_out h c3
    refine V.bipush (v := (-2)) F dX9_tells_49 (by decide) ?_
    obtain ⟨rfl, rfl⟩ := r2_out h
    exact V.iret F dX9_tells_51
  · have h := f_out h c3
    refine V.iload_n F dX9_tells_36 rfl rfl ?_
    refine V.if_lt (tgt := 45) F dX9_tells_37 (by decide) (fun c4 => ?_) (fun c4 => ?_)
    · have h := t_out h c4
      exact S_tells_45_ok F hd h
    · have h := f_out h c4
      refine V.iload_n F dX9_tells_40 rfl rfl ?_
      refine V.iconst (v := 4) F dX9_tells_41 (by decide) ?_
      refine V.icmp_le (tgt := 52) F dX9_tells_42 (by decide) (fun c5 => ?_) (fun c5 => ?_)
      · have h := f_out h c5
        exact S_tells_52_ok F hd h
      · have h := t_out h c5
        exact S_tells_45_ok F hd h
def S_tells (x1 : Int32) (x2 : Int32) (μ : Mem) : Option (Int32 × Mem) :=
  if x2 < 10 then (
    S_tells_28 x1 x2 0 μ)
  else (
    if x2 < 40 then (
      nm (S_isGroom (irm x2 10) μ) fun r4 =>
      if r4 = 0 then (
        S_tells_28 x1 x2 0 μ)
      else (
        S_tells_28 x1 x2 1 μ))
    else (
      S_tells_28 x1 x2 0 μ))
set_option maxHeartbeats 4000000 in
set_option maxRecDepth 100000 in
theorem S_tells_ok {φ : Fr} {d : Nat} (F : Fx φ ΩA cX9_tells RX9 5 (some .int)) (hd : 6 ≤ d) {x1 : Int32} {x2 : Int32} {μ : Mem} {r : Int32} {μ' : Mem} (h : S_tells x1 x2 μ = some (r, μ')) : V φ ΩA 5 d 0 [some (rf φ 0 0), some (.int x1), some (.int x2), none, none] [] μ (some (.int r), μ') := by
  unfold S_tells at h
  refine V.iload_n F dX9_tells_0 rfl rfl ?_
  refine V.bipush (v := 10) F dX9_tells_1 (by decide) ?_
  refine V.icmp_lt (tgt := 27) F dX9_tells_3 (by decide) (fun c1 => ?_) (fun c1 => ?_)
  · have h := t_out h c1
    refine V.iconst (v := 0) F dX9_tells_27 (by decide) ?_
    exact S_tells_28_ok F hd h
  · have h := f_out h c1
    refine V.iload_n F dX9_tells_6 rfl rfl ?_
    refine V.bipush (v := 40) F dX9_tells_7 (by decide) ?_
    refine V.icmp_ge (tgt := 27) F dX9_tells_9 (by decide) (fun c2 => ?_) (fun c2 => ?_)
    · have h := f_out h c2
      refine V.iconst (v := 0) F dX9_tells_27 (by decide) ?_
      exact S_tells_28_ok F hd h
    · have h := t_out h c2
      refine V.rload_n F dX9_tells_12 rfl rfl ?_
      refine V.iload_n F dX9_tells_13 rfl rfl ?_
      refine V.bipush (v := 10) F dX9_tells_14 (by decide) ?_
      refine V.irem F dX9_tells_16 (by decide) ?_
      obtain ⟨r4, e3, h⟩ := nm_out h
      refine V.callVi (f := 0) (i := 0) (As := [.int (irm x2 10)]) F ck_RX9_140 (S_isGroom_ct e3) (by omega) (by decide) rfl mA0 rfl rfl rfl (Nat.le_of_ble_eq_true rfl) dX9_tells_17 ?_
      refine V.if_eq (tgt := 27) F dX9_tells_20 (by decide) (fun c5 => ?_) (fun c5 => ?_)
      · have h := t_out h c5
        refine V.iconst (v := 0) F dX9_tells_27 (by decide) ?_
        exact S_tells_28_ok F hd h
      · have h := f_out h c5
        refine V.iconst (v := 1) F dX9_tells_23 (by decide) ?_
        refine V.goto (tgt := 28) F dX9_tells_24 (by decide) ?_
        exact S_tells_28_ok F hd h
set_option maxHeartbeats 4000000 in
set_option maxRecDepth 100000 in
theorem S_tells_ct {l : Launch} {G : Glo} {x1 : Int32} {x2 : Int32} {μ : Mem} {r : Int32} {μ' : Mem} (h : S_tells x1 x2 μ = some (r, μ')) : Ct l ΩA G 6 yX9_tells cX9_tells 5 (some .int) [.ref (G.1 0 0), .int x1, .int x2] μ (some (.int r), μ') := by
  refine Ct.intro (by decide) (Nat.le_of_ble_eq_true rfl) ?_
  intro φ hl hG F
  subst hl; subst hG
  exact S_tells_ok F (Nat.le_refl _) h
def S_film_31 (k31 : Nat → Int32 → Mem → Option (Int32 × Mem)) (t2 : Nat) (x3 : Int32) (μ : Mem) : Option (Int32 × Mem) :=
  if x3 < (rd μ 1 0 3) then (
    bnd (S_seeAsIs x3 μ) fun μ3 =>
    bnd (S_rule μ3) fun r5 =>
    chk (r5 < 6) <|
    bnd2 (Ma_feels r5 μ3) fun r8 μ9 =>
    bnd (Sh_put t2 x3 r8 μ9) fun μ11 =>
    nm (x3 + 1) fun a12 =>
    k31 t2 a12 μ11)
  else (
    some (rd μ 1 0 3, μ))
set_option maxHeartbeats 4000000 in
set_option maxRecDepth 100000 in
theorem S_film_31_ok {φ : Fr} {d : Nat} (F : Fx φ ΩA cX9_film RX9 4 (some .int)) (hd : 4 ≤ d) {k31 : Nat → Int32 → Mem → Option (Int32 × Mem)} (hk31 : ∀ (t2 : Nat) (x3 : Int32) (ht2 : t2 < 4) (μ : Mem) (r : Int32) (μ' : Mem), k31 t2 x3 μ = some (r, μ') → V φ ΩA 4 d 31 [some (rf φ 0 0), none, some (rf φ 16 t2), some (.int x3)] [] μ (some (.int r), μ')) {t2 : Nat} {x3 : Int32} (ht2 : t2 < 4) {μ : Mem} {r : Int32} {μ' : Mem} (h : S_film_31 k31 t2 x3 μ = some (r, μ')) : V φ ΩA 4 d 31 [some (rf φ 0 0), none, some (rf φ 16 t2), some (.int x3)] [] μ (some (.int r), μ') := by
  unfold S_film_31 at h
  refine V.iload_n F dX9_film_31 rfl rfl ?_
  refine V.rload_n F dX9_film_32 rfl rfl ?_
  refine gf_RX9_10 F dX9_film_33 ?_
  refine gf_RX9_131 (by decide) F dX9_film_36 ?_
  refine V.icmp_ge (tgt := 69) F dX9_film_39 (by decide) (fun c1 => ?_) (fun c1 => ?_)
  · have h := f_out h c1
    refine V.rload_n F dX9_film_69 rfl rfl ?_
    refine gf_RX9_10 F dX9_film_70 ?_
    refine gf_RX9_131 (by decide) F dX9_film_73 ?_
    obtain ⟨rfl, rfl⟩ := r2_out h
    exact V.iret F dX9_film_76
  · have h := t_out h c1
    refine V.rload_n F dX9_film_42 rfl rfl ?_
    refine V.iload_n F dX9_film_43 rfl rfl ?_
    obtain ⟨μ3, e2, h⟩ := bnd_out h
    refine V.callVv (f := 0) (i := 0) (As := [.int x3]) F ck_RX9_143 (S_seeAsIs_ct e2) (by omega) (by decide) rfl mA0 rfl rfl rfl (Nat.le_of_ble_eq_true rfl) dX9_film_44 ?_
    refine V.rload_n F dX9_film_47 rfl rfl ?_
    refine V.iload_n F dX9_film_48 rfl rfl ?_
    refine V.rload_n F dX9_film_49 rfl rfl ?_
    refine gf_RX9_49 F dX9_film_50 ?_
    refine V.rload_n F dX9_film_53 rfl rfl ?_
    obtain ⟨r5, e4, h⟩ := bnd_out h
    refine V.callVr (f := 0) (i := 0) (As := []) 5 r5 F ck_RX9_154 (S_rule_ct e4) (by omega) (by decide) rfl mA0 rfl rfl rfl (Nat.le_of_ble_eq_true rfl) dX9_film_54 ?_
    obtain ⟨c6, h⟩ := chk_out h
    obtain ⟨r8, μ9, e7, h⟩ := bnd2_out h
    refine V.callVi (f := 18) (i := 0) (As := [rf φ 5 r5]) F ck_RX9_164 (Ma_feels_ct c6 e7) (by omega) (by decide) rfl mA18 rfl rfl rfl (Nat.le_of_ble_eq_true rfl) dX9_film_57 ?_
    obtain ⟨μ11, e10, h⟩ := bnd_out h
    refine V.callVv (f := 16) (i := t2) (As := [.int x3, .int r8]) F ck_RX9_323 (Sh_put_ct ht2 e10) (by omega) (by decide) rfl (mA16 ht2) rfl rfl rfl (Nat.le_of_ble_eq_true rfl) dX9_film_60 ?_
    obtain ⟨a12, ea12, h⟩ := nm_out h
    refine V.iinc (z := 1) (L' := [some (rf φ 0 0), none, some (rf φ 16 t2), some (.int a12)]) F dX9_film_63 rfl (by decide) ea12 (by decide) rfl rfl ?_
    refine V.goto (tgt := 31) F dX9_film_66 (by decide) ?_
    exact hk31 _ _ ht2 _ _ _ h
def S_film_31L : Nat → Nat → Int32 → Mem → Option (Int32 × Mem)
  | 0 => fun _ _ _ => none
  | n + 1 => S_film_31 (S_film_31L n)
set_option maxHeartbeats 4000000 in
set_option maxRecDepth 100000 in
theorem S_film_31L_ok {φ : Fr} {d : Nat} (F : Fx φ ΩA cX9_film RX9 4 (some .int)) (hd : 4 ≤ d) : ∀ (n : Nat) (t2 : Nat) (x3 : Int32) (ht2 : t2 < 4) (μ : Mem) (r : Int32) (μ' : Mem), S_film_31L n t2 x3 μ = some (r, μ') → V φ ΩA 4 d 31 [some (rf φ 0 0), none, some (rf φ 16 t2), some (.int x3)] [] μ (some (.int r), μ') := by
  intro n
  induction n with
  | zero => intro t2 x3 ht2 μ r μ' h; cases h
  | succ n ih => intro t2 x3 ht2 μ r μ' h; exact S_film_31_ok F hd ih ht2 h
def S_film (x1 : Int32) (μ : Mem) : Option (Int32 × Mem) :=
  nm (S_isSheet x1) fun r2 =>
  if r2 = 0 then (
    some ((-2), μ))
  else (
    chk (inb x1 4) <|
    bnd (Sh_become (ix x1) 0 (rd μ 1 0 3) μ) fun μ6 =>
    S_film_31L 1000 (ix x1) 0 μ6)
set_option maxHeartbeats 4000000 in
set_option maxRecDepth 100000 in
theorem S_film_ok {φ : Fr} {d : Nat} (F : Fx φ ΩA cX9_film RX9 4 (some .int)) (hd : 4 ≤ d) {x1 : Int32} {μ : Mem} {r : Int32} {μ' : Mem} (h : S_film x1 μ = some (r, μ')) : V φ ΩA 4 d 0 [some (rf φ 0 0), some (.int x1), none, none] [] μ (some (.int r), μ') := by
  unfold S_film at h
  refine V.iload_n F dX9_film_0 rfl rfl ?_
  obtain ⟨r2, e1, h⟩ := nm_out h
  refine V.callSi (As := [.int x1]) F ck_RX9_276 (S_isSheet_ct e1) (by omega) (by decide) rfl rfl (Nat.le_of_ble_eq_true rfl) dX9_film_1 ?_
  refine V.if_ne (tgt := 10) F dX9_film_4 (by decide) (fun c3 => ?_) (fun c3 => ?_)
  · have h := f_out h c3
    refine V.rload_n F dX9_film_10 rfl rfl ?_
    refine gf_RX9_42 F dX9_film_11 ?_
    refine V.iload_n F dX9_film_14 rfl rfl ?_
    obtain ⟨c4, h⟩ := chk_out h
    refine V.aald (t0 := 4) (n := 4) 16 (ix x1) F mA15 rfl rfl c4 rfl dX9_film_15 ?_
    refine V.rstore_n (L' := [some (rf φ 0 0), some (.int x1), some (rf φ 16 (ix x1)), none]) F dX9_film_16 rfl (by decide) rfl rfl ?_
    refine V.rload_n F dX9_film_17 rfl rfl ?_
    refine V.iconst (v := 0) F dX9_film_18 (by decide) ?_
    refine V.rload_n F dX9_film_19 rfl rfl ?_
    refine gf_RX9_10 F dX9_film_20 ?_
    refine gf_RX9_131 (by decide) F dX9_film_23 ?_
    obtain ⟨μ6, e5, h⟩ := bnd_out h
    refine V.callVv (f := 16) (i := ix x1) (As := [.int 0, .int (rd μ 1 0 3)]) F ck_RX9_320 (Sh_become_ct (inb_lt c4) e5) (by omega) (by decide) rfl (mA16 (inb_lt c4)) rfl rfl rfl (Nat.le_of_ble_eq_true rfl) dX9_film_26 ?_
    refine V.iconst (v := 0) F dX9_film_29 (by decide) ?_
    refine V.istore_n (L' := [some (rf φ 0 0), some (.int x1), some (rf φ 16 (ix x1)), some (.int 0)]) F dX9_film_30 rfl (by decide) rfl rfl rfl ?_
    refine V.msk (L' := [some (rf φ 0 0), none, some (rf φ 16 (ix x1)), some (.int 0)]) [true, false, true, true] rfl ?_
    exact S_film_31L_ok F hd 1000 _ _ (inb_lt c4) _ _ _ h
  · have h := t_out h c3
    refine V.bipush (v := (-2)) F dX9_film_7 (by decide) ?_
    obtain ⟨rfl, rfl⟩ := r2_out h
    exact V.iret F dX9_film_9
set_option maxHeartbeats 4000000 in
set_option maxRecDepth 100000 in
theorem S_film_ct {l : Launch} {G : Glo} {x1 : Int32} {μ : Mem} {r : Int32} {μ' : Mem} (h : S_film x1 μ = some (r, μ')) : Ct l ΩA G 4 yX9_film cX9_film 4 (some .int) [.ref (G.1 0 0), .int x1] μ (some (.int r), μ') := by
  refine Ct.intro (by decide) (Nat.le_of_ble_eq_true rfl) ?_
  intro φ hl hG F
  subst hl; subst hG
  exact S_film_ok F (Nat.le_refl _) h
def S_drawn_29 (k29 : Int32 → Int32 → Int32 → Mem → Option (Int32 × Mem)) (x2 : Int32) (x3 : Int32) (x4 : Int32) (μ : Mem) : Option (Int32 × Mem) :=
  if x4 < (rd μ 1 0 3) then (
    chk (inb x4 6) <|
    nm (rd μ 2 (ix x4) 4) fun a3 =>
    chk (inb a3 6) <|
    bnd (S_see x4 a3 (rd μ 25 0 (ix a3)) μ) fun μ6 =>
    bnd (S_rule μ6) fun r8 =>
    chk (r8 < 6) <|
    bnd (Ma_lives r8 (rd μ6 1 0 1) x2 μ6) fun μ11 =>
    nm (x3 + (rd μ11 18 0 3)) fun a12 =>
    nm (x4 + 1) fun a13 =>
    k29 x2 a12 a13 μ11)
  else (
    some (x3, μ))
set_option maxHeartbeats 4000000 in
set_option maxRecDepth 100000 in
theorem S_drawn_29_ok {φ : Fr} {d : Nat} (F : Fx φ ΩA cX9_drawn RX9 6 (some .int)) (hd : 6 ≤ d) {k29 : Int32 → Int32 → Int32 → Mem → Option (Int32 × Mem)} (hk29 : ∀ (x2 : Int32) (x3 : Int32) (x4 : Int32) (μ : Mem) (r : Int32) (μ' : Mem), k29 x2 x3 x4 μ = some (r, μ') → V φ ΩA 6 d 29 [some (rf φ 0 0), none, some (.int x2), some (.int x3), some (.int x4), none] [] μ (some (.int r), μ')) {x2 : Int32} {x3 : Int32} {x4 : Int32} {μ : Mem} {r : Int32} {μ' : Mem} (h : S_drawn_29 k29 x2 x3 x4 μ = some (r, μ')) : V φ ΩA 6 d 29 [some (rf φ 0 0), none, some (.int x2), some (.int x3), some (.int x4), none] [] μ (some (.int r), μ') := by
  unfold S_drawn_29 at h
  refine V.iload F dX9_drawn_29 rfl ?_
  refine V.rload_n F dX9_drawn_31 rfl rfl ?_
  refine gf_RX9_10 F dX9_drawn_32 ?_
  refine gf_RX9_131 (by decide) F dX9_drawn_35 ?_
  refine V.icmp_ge (tgt := 109) F dX9_drawn_38 (by decide) (fun c1 => ?_) (fun c1 => ?_)
  · have h := f_out h c1
    refine V.iload_n F dX9_drawn_109 rfl rfl ?_
    obtain ⟨rfl, rfl⟩ := r2_out h
    exact V.iret F dX9_drawn_110
  · have h := t_out h c1
    refine V.rload_n F dX9_drawn_41 rfl rfl ?_
    refine gf_RX9_10 F dX9_drawn_42 ?_
    refine gf_RX9_112 (by decide) F dX9_drawn_45 ?_
    refine V.iload F dX9_drawn_48 rfl ?_
    obtain ⟨c2, h⟩ := chk_out h
    refine V.aald (t0 := 2) (n := 6) 2 (ix x4) F (mA3 (by decide)) rfl rfl c2 rfl dX9_drawn_50 ?_
    refine gf_RX9_137 (Nat.lt_of_lt_of_le (inb_lt c2) (by decide)) F dX9_drawn_51 ?_
    obtain ⟨a3, ea3, h⟩ := nm_out h
    refine V.istore (L' := [some (rf φ 0 0), none, some (.int x2), some (.int x3), some (.int x4), some (.int a3)]) F dX9_drawn_54 (by decide) rfl ea3 rfl ?_
    refine V.rload_n F dX9_drawn_56 rfl rfl ?_
    refine V.iload F dX9_drawn_57 rfl ?_
    refine V.iload F dX9_drawn_59 rfl ?_
    refine V.rload_n F dX9_drawn_61 rfl rfl ?_
    refine gf_RX9_63 F dX9_drawn_62 ?_
    refine gf_RX9_273 F dX9_drawn_65 ?_
    refine V.iload F dX9_drawn_68 rfl ?_
    obtain ⟨c4, h⟩ := chk_out h
    refine V.iald (t0 := 0) (n := 6) F mA25 rfl rfl c4 dX9_drawn_70 ?_
    obtain ⟨μ6, e5, h⟩ := bnd_out h
    refine V.callVv (f := 0) (i := 0) (As := [.int x4, .int a3, .int (rd μ 25 0 (ix a3))]) F ck_RX9_175 (S_see_ct e5) (by omega) (by decide) rfl mA0 rfl rfl rfl (Nat.le_of_ble_eq_true rfl) dX9_drawn_71 ?_
    refine V.rload_n F dX9_drawn_74 rfl rfl ?_
    refine gf_RX9_49 F dX9_drawn_75 ?_
    refine V.rload_n F dX9_drawn_78 rfl rfl ?_
    obtain ⟨r8, e7, h⟩ := bnd_out h
    refine V.callVr (f := 0) (i := 0) (As := []) 5 r8 F ck_RX9_154 (S_rule_ct e7) (by omega) (by decide) rfl mA0 rfl rfl rfl (Nat.le_of_ble_eq_true rfl) dX9_drawn_79 ?_
    obtain ⟨c9, h⟩ := chk_out h
    refine V.rload_n F dX9_drawn_82 rfl rfl ?_
    refine gf_RX9_10 F dX9_drawn_83 ?_
    refine gf_RX9_109 (by decide) F dX9_drawn_86 ?_
    refine V.iload_n F dX9_drawn_89 rfl rfl ?_
    obtain ⟨μ11, e10, h⟩ := bnd_out h
    refine V.callVv (f := 18) (i := 0) (As := [rf φ 5 r8, .int (rd μ6 1 0 1), .int x2]) F ck_RX9_194 (Ma_lives_ct c9 e10) (by omega) (by decide) rfl mA18 rfl rfl rfl (Nat.le_of_ble_eq_true rfl) dX9_drawn_90 ?_
    refine V.iload_n F dX9_drawn_93 rfl rfl ?_
    refine V.rload_n F dX9_drawn_94 rfl rfl ?_
    refine gf_RX9_49 F dX9_drawn_95 ?_
    refine gf_RX9_170 F dX9_drawn_98 ?_
    refine V.iadd F dX9_drawn_101 ?_
    obtain ⟨a12, ea12, h⟩ := nm_out h
    refine V.istore_n (L' := [some (rf φ 0 0), none, some (.int x2), some (.int a12), some (.int x4), some (.int a3)]) F dX9_drawn_102 rfl (by decide) rfl ea12 rfl ?_
    obtain ⟨a13, ea13, h⟩ := nm_out h
    refine V.iinc (z := 1) (L' := [some (rf φ 0 0), none, some (.int x2), some (.int a12), some (.int a13), some (.int a3)]) F dX9_drawn_103 rfl (by decide) ea13 (by decide) rfl rfl ?_
    refine V.goto (tgt := 29) F dX9_drawn_106 (by decide) ?_
    refine V.msk (L' := [some (rf φ 0 0), none, some (.int x2), some (.int a12), some (.int a13), none]) [true, false, true, true, true, false] rfl ?_
    exact hk29 _ _ _ _ _ _ h
def S_drawn_29L : Nat → Int32 → Int32 → Int32 → Mem → Option (Int32 × Mem)
  | 0 => fun _ _ _ _ => none
  | n + 1 => S_drawn_29 (S_drawn_29L n)
set_option maxHeartbeats 4000000 in
set_option maxRecDepth 100000 in
theorem S_drawn_29L_ok {φ : Fr} {d : Nat} (F : Fx φ ΩA cX9_drawn RX9 6 (some .int)) (hd : 6 ≤ d) : ∀ (n : Nat) (x2 : Int32) (x3 : Int32) (x4 : Int32) (μ : Mem) (r : Int32) (μ' : Mem), S_drawn_29L n x2 x3 x4 μ = some (r, μ') → V φ ΩA 6 d 29 [some (rf φ 0 0), none, some (.int x2), some (.int x3), some (.int x4), none] [] μ (some (.int r), μ') := by
  intro n
  induction n with
  | zero => intro x2 x3 x4 μ r μ' h; cases h
  | succ n ih => intro x2 x3 x4 μ r μ' h; exact S_drawn_29_ok F hd ih h
def S_drawn (x1 : Int32) (x2 : Int32) (μ : Mem) : Option (Int32 × Mem) :=
  nm (S_isDays x2 40) fun r2 =>
  if r2 = 0 then (
    some ((-2), μ))
  else (
    bnd (S_fillPockets μ) fun μ5 =>
    bnd (Po_draw x1 μ5) fun μ7 =>
    S_drawn_29L 1000 x2 0 0 μ7)
set_option maxHeartbeats 4000000 in
set_option maxRecDepth 100000 in
theorem S_drawn_ok {φ : Fr} {d : Nat} (F : Fx φ ΩA cX9_drawn RX9 6 (some .int)) (hd : 6 ≤ d) {x1 : Int32} {x2 : Int32} {μ : Mem} {r : Int32} {μ' : Mem} (h : S_drawn x1 x2 μ = some (r, μ')) : V φ ΩA 6 d 0 [some (rf φ 0 0), some (.int x1), some (.int x2), none, none, none] [] μ (some (.int r), μ') := by
  unfold S_drawn at h
  refine V.iload_n F dX9_drawn_0 rfl rfl ?_
  refine V.bipush (v := 40) F dX9_drawn_1 (by decide) ?_
  obtain ⟨r2, e1, h⟩ := nm_out h
  refine V.callSi (As := [.int x2, .int 40]) F ck_RX9_191 (S_isDays_ct e1) (by omega) (by decide) rfl rfl (Nat.le_of_ble_eq_true rfl) dX9_drawn_3 ?_
  refine V.if_ne (tgt := 12) F dX9_drawn_6 (by decide) (fun c3 => ?_) (fun c3 => ?_)
  · have h := f_out h c3
    refine V.rload_n F dX9_drawn_12 rfl rfl ?_
    obtain ⟨μ5, e4, h⟩ := bnd_out h
    refine V.callVv (f := 0) (i := 0) (As := []) F ck_RX9_251 (S_fillPockets_ct e4) (by omega) (by decide) rfl mA0 rfl rfl rfl (Nat.le_of_ble_eq_true rfl) dX9_drawn_13 ?_
    refine V.rload_n F dX9_drawn_16 rfl rfl ?_
    refine gf_RX9_63 F dX9_drawn_17 ?_
    refine V.iload_n F dX9_drawn_20 rfl rfl ?_
    obtain ⟨μ7, e6, h⟩ := bnd_out h
    refine V.callVv (f := 23) (i := 0) (As := [.int x1]) F ck_RX9_326 (Po_draw_ct e6) (by omega) (by decide) rfl mA23 rfl rfl rfl (Nat.le_of_ble_eq_true rfl) dX9_drawn_21 ?_
    refine V.iconst (v := 0) F dX9_drawn_24 (by decide) ?_
    refine V.istore_n (L' := [some (rf φ 0 0), some (.int x1), some (.int x2), some (.int 0), none, none]) F dX9_drawn_25 rfl (by decide) rfl rfl rfl ?_
    refine V.iconst (v := 0) F dX9_drawn_26 (by decide) ?_
    refine V.istore (L' := [some (rf φ 0 0), some (.int x1), some (.int x2), some (.int 0), some (.int 0), none]) F dX9_drawn_27 (by decide) rfl rfl rfl ?_
    refine V.msk (L' := [some (rf φ 0 0), none, some (.int x2), some (.int 0), some (.int 0), none]) [true, false, true, true, true, false] rfl ?_
    exact S_drawn_29L_ok F hd 1000 _ _ _ _ _ _ h
  · have h := t_out h c3
    refine V.bipush (v := (-2)) F dX9_drawn_9 (by decide) ?_
    obtain ⟨rfl, rfl⟩ := r2_out h
    exact V.iret F dX9_drawn_11
set_option maxHeartbeats 4000000 in
set_option maxRecDepth 100000 in
theorem S_drawn_ct {l : Launch} {G : Glo} {x1 : Int32} {x2 : Int32} {μ : Mem} {r : Int32} {μ' : Mem} (h : S_drawn x1 x2 μ = some (r, μ')) : Ct l ΩA G 6 yX9_drawn cX9_drawn 6 (some .int) [.ref (G.1 0 0), .int x1, .int x2] μ (some (.int r), μ') := by
  refine Ct.intro (by decide) (Nat.le_of_ble_eq_true rfl) ?_
  intro φ hl hG F
  subst hl; subst hG
  exact S_drawn_ok F (Nat.le_refl _) h
def S_commonOf_21 (k2 : Int32 → Int32 → Int32 → Option Int32) (x0 : Int32) (x1 : Int32) (x2 : Int32) : Option Int32 :=
  nm (x2 + (-1)) fun a1 =>
  k2 x0 x1 a1
set_option maxHeartbeats 4000000 in
set_option maxRecDepth 100000 in
theorem S_commonOf_21_ok {φ : Fr} {d : Nat} (F : Fx φ ΩA cX9_commonOf RX9 3 (some .int)) (hd : 1 ≤ d) {k2 : Int32 → Int32 → Int32 → Option Int32} (hk2 : ∀ (x0 : Int32) (x1 : Int32) (x2 : Int32) (μ : Mem) (r : Int32), k2 x0 x1 x2 = some r → V φ ΩA 3 d 2 [some (.int x0), some (.int x1), some (.int x2)] [] μ (some (.int r), μ)) {x0 : Int32} {x1 : Int32} {x2 : Int32} {μ : Mem} {r : Int32} (h : S_commonOf_21 k2 x0 x1 x2 = some r) : V φ ΩA 3 d 21 [some (.int x0), some (.int x1), some (.int x2)] [] μ (some (.int r), μ) := by
  unfold S_commonOf_21 at h
  obtain ⟨a1, ea1, h⟩ := nm_out h
  refine V.iinc (z := (-1)) (L' := [some (.int x0), some (.int x1), some (.int a1)]) F dX9_commonOf_21 rfl (by decide) ea1 (by decide) rfl rfl ?_
  refine V.goto (tgt := 2) F dX9_commonOf_24 (by decide) ?_
  exact hk2 _ _ _ _ _ h
def S_commonOf_2 (k2 : Int32 → Int32 → Int32 → Option Int32) (x0 : Int32) (x1 : Int32) (x2 : Int32) : Option Int32 :=
  if 1 < x2 then (
    chk (¬ x2 = 0) <|
    if (irm x0 x2) = 0 then (
      chk (¬ x2 = 0) <|
      if (irm x1 x2) = 0 then (
        some x2)
      else (
        S_commonOf_21 k2 x0 x1 x2))
    else (
      S_commonOf_21 k2 x0 x1 x2))
  else (
    some 1)
set_option maxHeartbeats 4000000 in
set_option maxRecDepth 100000 in
theorem S_commonOf_2_ok {φ : Fr} {d : Nat} (F : Fx φ ΩA cX9_commonOf RX9 3 (some .int)) (hd : 1 ≤ d) {k2 : Int32 → Int32 → Int32 → Option Int32} (hk2 : ∀ (x0 : Int32) (x1 : Int32) (x2 : Int32) (μ : Mem) (r : Int32), k2 x0 x1 x2 = some r → V φ ΩA 3 d 2 [some (.int x0), some (.int x1), some (.int x2)] [] μ (some (.int r), μ)) {x0 : Int32} {x1 : Int32} {x2 : Int32} {μ : Mem} {r : Int32} (h : S_commonOf_2 k2 x0 x1 x2 = some r) : V φ ΩA 3 d 2 [some (.int x0), some (.int x1), some (.int x2)] [] μ (some (.int r), μ) := by
  unfold S_commonOf_2 at h
  refine V.iload_n F dX9_commonOf_2 rfl rfl ?_
  refine V.iconst (v := 1) F dX9_commonOf_3 (by decide) ?_
  refine V.icmp_le (tgt := 27) F dX9_commonOf_4 (by decide) (fun c1 => ?_) (fun c1 => ?_)
  · have h := f_out h c1
    refine V.iconst (v := 1) F dX9_commonOf_27 (by decide) ?_
    obtain rfl := r1_out h
    exact V.iret F dX9_commonOf_28
  · have h := t_out h c1
    refine V.iload_n F dX9_commonOf_7 rfl rfl ?_
    refine V.iload_n F dX9_commonOf_8 rfl rfl ?_
    obtain ⟨c2, h⟩ := chk_out h
    refine V.irem F dX9_commonOf_9 c2 ?_
    refine V.if_ne (tgt := 21) F dX9_commonOf_10 (by decide) (fun c3 => ?_) (fun c3 => ?_)
    · have h := f_out h c3
      exact S_commonOf_21_ok F hd hk2 h
    · have h := t_out h c3
      refine V.iload_n F dX9_commonOf_13 rfl rfl ?_
      refine V.iload_n F dX9_commonOf_14 rfl rfl ?_
      obtain ⟨c4, h⟩ := chk_out h
      refine V.irem F dX9_commonOf_15 c4 ?_
      refine V.if_ne (tgt := 21) F dX9_commonOf_16 (by decide) (fun c5 => ?_) (fun c5 => ?_)
      · have h := f_out h c5
        exact S_commonOf_21_ok F hd hk2 h
      · have h := t_out h c5
        refine V.iload_n F dX9_commonOf_19 rfl rfl ?_
        obtain rfl := r1_out h
        exact V.iret F dX9_commonOf_20
def S_commonOf_2L : Nat → Int32 → Int32 → Int32 → Option Int32
  | 0 => fun _ _ _ => none
  | n + 1 => S_commonOf_2 (S_commonOf_2L n)
set_option maxHeartbeats 4000000 in
set_option maxRecDepth 100000 in
theorem S_commonOf_2L_ok {φ : Fr} {d : Nat} (F : Fx φ ΩA cX9_commonOf RX9 3 (some .int)) (hd : 1 ≤ d) : ∀ (n : Nat) (x0 : Int32) (x1 : Int32) (x2 : Int32) (μ : Mem) (r : Int32), S_commonOf_2L n x0 x1 x2 = some r → V φ ΩA 3 d 2 [some (.int x0), some (.int x1), some (.int x2)] [] μ (some (.int r), μ) := by
  intro n
  induction n with
  | zero => intro x0 x1 x2 μ r h; cases h
  | succ n ih => intro x0 x1 x2 μ r h; exact S_commonOf_2_ok F hd ih h
def S_commonOf (x0 : Int32) (x1 : Int32) : Option Int32 :=
  S_commonOf_2L 1000 x0 x1 x1
set_option maxHeartbeats 4000000 in
set_option maxRecDepth 100000 in
theorem S_commonOf_ok {φ : Fr} {d : Nat} (F : Fx φ ΩA cX9_commonOf RX9 3 (some .int)) (hd : 1 ≤ d) {x0 : Int32} {x1 : Int32} {μ : Mem} {r : Int32} (h : S_commonOf x0 x1 = some r) : V φ ΩA 3 d 0 [some (.int x0), some (.int x1), none] [] μ (some (.int r), μ) := by
  unfold S_commonOf at h
  refine V.iload_n F dX9_commonOf_0 rfl rfl ?_
  refine V.istore_n (L' := [some (.int x0), some (.int x1), some (.int x1)]) F dX9_commonOf_1 rfl (by decide) rfl rfl rfl ?_
  exact S_commonOf_2L_ok F hd 1000 _ _ _ _ _ h
set_option maxHeartbeats 4000000 in
set_option maxRecDepth 100000 in
theorem S_commonOf_ct {l : Launch} {G : Glo} {x0 : Int32} {x1 : Int32} {μ : Mem} {r : Int32} (h : S_commonOf x0 x1 = some r) : Ct l ΩA G 1 yX9_commonOf cX9_commonOf 3 (some .int) [.int x0, .int x1] μ (some (.int r), μ) := by
  refine Ct.intro (by decide) (Nat.le_of_ble_eq_true rfl) ?_
  intro φ hl hG F
  subst hl; subst hG
  exact S_commonOf_ok F (Nat.le_refl _) h
def S_chance_71 (k34 : Int32 → Int32 → Int32 → Int32 → Int32 → Mem → Option (Int64 × Mem)) (x1 : Int32) (x2 : Int32) (x3 : Int32) (x4 : Int32) (x5 : Int32) (μ : Mem) : Option (Int64 × Mem) :=
  nm (x5 + 1) fun a1 =>
  k34 x1 x2 x3 x4 a1 μ
set_option maxHeartbeats 4000000 in
set_option maxRecDepth 100000 in
theorem S_chance_71_ok {φ : Fr} {d : Nat} (F : Fx φ ΩA cX9_chance RX9 6 (some .long)) (hd : 4 ≤ d) {k34 : Int32 → Int32 → Int32 → Int32 → Int32 → Mem → Option (Int64 × Mem)} (hk34 : ∀ (x1 : Int32) (x2 : Int32) (x3 : Int32) (x4 : Int32) (x5 : Int32) (μ : Mem) (r : Int64) (μ' : Mem), k34 x1 x2 x3 x4 x5 μ = some (r, μ') → V φ ΩA 6 d 34 [some (rf φ 0 0), some (.int x1), some (.int x2), some (.int x3), some (.int x4), some (.int x5)] [] μ (some (.long r), μ')) {x1 : Int32} {x2 : Int32} {x3 : Int32} {x4 : Int32} {x5 : Int32} {μ : Mem} {r : Int64} {μ' : Mem} (h : S_chance_71 k34 x1 x2 x3 x4 x5 μ = some (r, μ')) : V φ ΩA 6 d 71 [some (rf φ 0 0), some (.int x1), some (.int x2), some (.int x3), some (.int x4), some (.int x5)] [] μ (some (.long r), μ') := by
  unfold S_chance_71 at h
  obtain ⟨a1, ea1, h⟩ := nm_out h
  refine V.iinc (z := 1) (L' := [some (rf φ 0 0), some (.int x1), some (.int x2), some (.int x3), some (.int x4), some (.int a1)]) F dX9_chance_71 rfl (by decide) ea1 (by decide) rfl rfl ?_
  refine V.goto (tgt := 34) F dX9_chance_74 (by decide) ?_
  exact hk34 _ _ _ _ _ _ _ _ h
def S_chance_34 (k34 : Int32 → Int32 → Int32 → Int32 → Int32 → Mem → Option (Int64 × Mem)) (x1 : Int32) (x2 : Int32) (x3 : Int32) (x4 : Int32) (x5 : Int32) (μ : Mem) : Option (Int64 × Mem) :=
  if x5 < x2 then (
    bnd (Po_draw (x1 + x5) μ) fun μ8 =>
    bnd (Po_open μ8) fun μ10 =>
    bnd (Po_areAllFromOne μ10) fun r12 =>
    if r12 = 0 then (
      S_chance_71 k34 x1 x2 x3 x4 x5 μ10)
    else (
      nm (x4 + 1) fun a14 =>
      S_chance_71 k34 x1 x2 x3 a14 x5 μ10))
  else (
    bnd (S_commonOf x4 x2) fun r3 =>
    if x3 = 0 then (
      chk (¬ r3 = 0) <|
      some (Int32.toInt64 (x4 / r3), μ))
    else (
      chk (¬ r3 = 0) <|
      some (Int32.toInt64 (x2 / r3), μ)))
set_option maxHeartbeats 4000000 in
set_option maxRecDepth 100000 in
theorem S_chance_34_ok {φ : Fr} {d : Nat} (F : Fx φ ΩA cX9_chance RX9 6 (some .long)) (hd : 4 ≤ d) {k34 : Int32 → Int32 → Int32 → Int32 → Int32 → Mem → Option (Int64 × Mem)} (hk34 : ∀ (x1 : Int32) (x2 : Int32) (x3 : Int32) (x4 : Int32) (x5 : Int32) (μ : Mem) (r : Int64) (μ' : Mem), k34 x1 x2 x3 x4 x5 μ = some (r, μ') → V φ ΩA 6 d 34 [some (rf φ 0 0), some (.int x1), some (.int x2), some (.int x3), some (.int x4), some (.int x5)] [] μ (some (.long r), μ')) {x1 : Int32} {x2 : Int32} {x3 : Int32} {x4 : Int32} {x5 : Int32} {μ : Mem} {r : Int64} {μ' : Mem} (h : S_chance_34 k34 x1 x2 x3 x4 x5 μ = some (r, μ')) : V φ ΩA 6 d 34 [some (rf φ 0 0), some (.int x1), some (.int x2), some (.int x3), some (.int x4), some (.int x5)] [] μ (some (.long r), μ') := by
  unfold S_chance_34 at h
  refine V.iload F dX9_chance_34 rfl ?_
  refine V.iload_n F dX9_chance_36 rfl rfl ?_
  refine V.icmp_ge (tgt := 77) F dX9_chance_37 (by decide) (fun c1 => ?_) (fun c1 => ?_)
  · have h := f_out h c1
    refine V.iload F dX9_chance_77 rfl ?_
    refine V.iload_n F dX9_chance_79 rfl rfl ?_
    obtain ⟨r3, e2, h⟩ := bnd_out h
    refine V.callSi (As := [.int x4, .int x2]) F ck_RX9_334 (S_commonOf_ct e2) (by omega) (by decide) rfl rfl (Nat.le_of_ble_eq_true rfl) dX9_chance_80 ?_
    refine V.istore (L' := [some (rf φ 0 0), some (.int x1), some (.int x2), some (.int x3), some (.int x4), some (.int r3)]) F dX9_chance_83 (by decide) rfl rfl rfl ?_
    refine V.iload_n F dX9_chance_85 rfl rfl ?_
    refine V.if_ne (tgt := 98) F dX9_chance_86 (by decide) (fun c4 => ?_) (fun c4 => ?_)
    · have h := f_out h c4
      refine V.iload_n F dX9_chance_98 rfl rfl ?_
      refine V.iload F dX9_chance_99 rfl ?_
      obtain ⟨c5, h⟩ := chk_out h
      refine V.idiv F dX9_chance_101 c5 ?_
      refine V.i2l F dX9_chance_102 ?_
      obtain ⟨rfl, rfl⟩ := r2_out h
      exact V.lret F dX9_chance_103
    · have h := t_out h c4
      refine V.iload F dX9_chance_89 rfl ?_
      refine V.iload F dX9_chance_91 rfl ?_
      obtain ⟨c6, h⟩ := chk_out h
      refine V.idiv F dX9_chance_93 c6 ?_
      refine V.i2l F dX9_chance_94 ?_
      refine V.goto (tgt := 103) F dX9_chance_95 (by decide) ?_
      obtain ⟨rfl, rfl⟩ := r2_out h
      exact V.lret F dX9_chance_103
  · have h := t_out h c1
    refine V.rload_n F dX9_chance_40 rfl rfl ?_
    refine gf_RX9_63 F dX9_chance_41 ?_
    refine V.iload_n F dX9_chance_44 rfl rfl ?_
    refine V.iload F dX9_chance_45 rfl ?_
    refine V.iadd F dX9_chance_47 ?_
    obtain ⟨μ8, e7, h⟩ := bnd_out h
    refine V.callVv (f := 23) (i := 0) (As := [.int (x1 + x5)]) F ck_RX9_326 (Po_draw_ct e7) (by omega) (by decide) rfl mA23 rfl rfl rfl (Nat.le_of_ble_eq_true rfl) dX9_chance_48 ?_
    refine V.rload_n F dX9_chance_51 rfl rfl ?_
    refine gf_RX9_63 F dX9_chance_52 ?_
    obtain ⟨μ10, e9, h⟩ := bnd_out h
    refine V.callVv (f := 23) (i := 0) (As := []) F ck_RX9_254 (Po_open_ct e9) (by omega) (by decide) rfl mA23 rfl rfl rfl (Nat.le_of_ble_eq_true rfl) dX9_chance_55 ?_
    refine V.rload_n F dX9_chance_58 rfl rfl ?_
    refine gf_RX9_63 F dX9_chance_59 ?_
    obtain ⟨r12, e11, h⟩ := bnd_out h
    refine V.callVi (f := 23) (i := 0) (As := []) F ck_RX9_331 (Po_areAllFromOne_ct e11) (by omega) (by decide) rfl mA23 rfl rfl rfl (Nat.le_of_ble_eq_true rfl) dX9_chance_62 ?_
    refine V.if_eq (tgt := 71) F dX9_chance_65 (by decide) (fun c13 => ?_) (fun c13 => ?_)
    · have h := t_out h c13
      exact S_chance_71_ok F hd hk34 h
    · have h := f_out h c13
      obtain ⟨a14, ea14, h⟩ := nm_out h
      refine V.iinc (z := 1) (L' := [some (rf φ 0 0), some (.int x1), some (.int x2), some (.int x3), some (.int a14), some (.int x5)]) F dX9_chance_68 rfl (by decide) ea14 (by decide) rfl rfl ?_
      exact S_chance_71_ok F hd hk34 h
def S_chance_34L : Nat → Int32 → Int32 → Int32 → Int32 → Int32 → Mem → Option (Int64 × Mem)
  | 0 => fun _ _ _ _ _ _ => none
  | n + 1 => S_chance_34 (S_chance_34L n)
set_option maxHeartbeats 4000000 in
set_option maxRecDepth 100000 in
theorem S_chance_34L_ok {φ : Fr} {d : Nat} (F : Fx φ ΩA cX9_chance RX9 6 (some .long)) (hd : 4 ≤ d) : ∀ (n : Nat) (x1 : Int32) (x2 : Int32) (x3 : Int32) (x4 : Int32) (x5 : Int32) (μ : Mem) (r : Int64) (μ' : Mem), S_chance_34L n x1 x2 x3 x4 x5 μ = some (r, μ') → V φ ΩA 6 d 34 [some (rf φ 0 0), some (.int x1), some (.int x2), some (.int x3), some (.int x4), some (.int x5)] [] μ (some (.long r), μ') := by
  intro n
  induction n with
  | zero => intro x1 x2 x3 x4 x5 μ r μ' h; cases h
  | succ n ih => intro x1 x2 x3 x4 x5 μ r μ' h; exact S_chance_34_ok F hd ih h
def S_chance_24 (x1 : Int32) (x2 : Int32) (x3 : Int32) (μ : Mem) : Option (Int64 × Mem) :=
  bnd (S_fillPockets μ) fun μ2 =>
  S_chance_34L 1000 x1 x2 x3 0 0 μ2
set_option maxHeartbeats 4000000 in
set_option maxRecDepth 100000 in
theorem S_chance_24_ok {φ : Fr} {d : Nat} (F : Fx φ ΩA cX9_chance RX9 6 (some .long)) (hd : 4 ≤ d) {x1 : Int32} {x2 : Int32} {x3 : Int32} {μ : Mem} {r : Int64} {μ' : Mem} (h : S_chance_24 x1 x2 x3 μ = some (r, μ')) : V φ ΩA 6 d 24 [some (rf φ 0 0), some (.int x1), some (.int x2), some (.int x3), none, none] [] μ (some (.long r), μ') := by
  unfold S_chance_24 at h
  refine V.rload_n F dX9_chance_24 rfl rfl ?_
  obtain ⟨μ2, e1, h⟩ := bnd_out h
  refine V.callVv (f := 0) (i := 0) (As := []) F ck_RX9_251 (S_fillPockets_ct e1) (by omega) (by decide) rfl mA0 rfl rfl rfl (Nat.le_of_ble_eq_true rfl) dX9_chance_25 ?_
  refine V.iconst (v := 0) F dX9_chance_28 (by decide) ?_
  refine V.istore (L' := [some (rf φ 0 0), some (.int x1), some (.int x2), some (.int x3), some (.int 0), none]) F dX9_chance_29 (by decide) rfl rfl rfl ?_
  refine V.iconst (v := 0) F dX9_chance_31 (by decide) ?_
  refine V.istore (L' := [some (rf φ 0 0), some (.int x1), some (.int x2), some (.int x3), some (.int 0), some (.int 0)]) F dX9_chance_32 (by decide) rfl rfl rfl ?_
  exact S_chance_34L_ok F hd 1000 _ _ _ _ _ _ _ _ h
def S_chance (x1 : Int32) (x2 : Int32) (x3 : Int32) (μ : Mem) : Option (Int64 × Mem) :=
  if x2 < 1 then (
    some ((-4611686018427387904), μ))
  else (
    if 20 < x2 then (
      some ((-4611686018427387904), μ))
    else (
      if x3 = 0 then (
        S_chance_24 x1 x2 x3 μ)
      else (
        if x3 = 1 then (
          S_chance_24 x1 x2 x3 μ)
        else (
          some ((-4611686018427387904), μ)))))
set_option maxHeartbeats 4000000 in
set_option maxRecDepth 100000 in
theorem S_chance_ok {φ : Fr} {d : Nat} (F : Fx φ ΩA cX9_chance RX9 6 (some .long)) (hd : 4 ≤ d) {x1 : Int32} {x2 : Int32} {x3 : Int32} {μ : Mem} {r : Int64} {μ' : Mem} (h : S_chance x1 x2 x3 μ = some (r, μ')) : V φ ΩA 6 d 0 [some (rf φ 0 0), some (.int x1), some (.int x2), some (.int x3), none, none] [] μ (some (.long r), μ') := by
  unfold S_chance at h
  refine V.iload_n F dX9_chance_0 rfl rfl ?_
  refine V.iconst (v := 1) F dX9_chance_1 (by decide) ?_
  refine V.icmp_lt (tgt := 20) F dX9_chance_2 (by decide) (fun c1 => ?_) (fun c1 => ?_)
  · have h := t_out h c1
    refine V.ldc2 F kl_RX9_329 dX9_chance_20 ?_
    obtain ⟨rfl, rfl⟩ := r2_out h
    exact V.lret F dX9_chance_23
  · have h := f_out h c1
    refine V.iload_n F dX9_chance_5 rfl rfl ?_
    refine V.bipush (v := 20) F dX9_chance_6 (by decide) ?_
    refine V.icmp_gt (tgt := 20) F dX9_chance_8 (by decide) (fun c2 => ?_) (fun c2 => ?_)
    · have h := t_out h c2
      refine V.ldc2 F kl_RX9_329 dX9_chance_20 ?_
      obtain ⟨rfl, rfl⟩ := r2_out h
      exact V.lret F dX9_chance_23
    · have h := f_out h c2
      refine V.iload_n F dX9_chance_11 rfl rfl ?_
      refine V.if_eq (tgt := 24) F dX9_chance_12 (by decide) (fun c3 => ?_) (fun c3 => ?_)
      · have h := t_out h c3
        exact S_chance_24_ok F hd h
      · have h := f_out h c3
        refine V.iload_n F dX9_chance_15 rfl rfl ?_
        refine V.iconst (v := 1) F dX9_chance_16 (by decide) ?_
        refine V.icmp_eq (tgt := 24) F dX9_chance_17 (by decide) (fun c4 => ?_) (fun c4 => ?_)
        · have h := t_out h c4
          exact S_chance_24_ok F hd h
        · have h := f_out h c4
          refine V.ldc2 F kl_RX9_329 dX9_chance_20 ?_
          obtain ⟨rfl, rfl⟩ := r2_out h
          exact V.lret F dX9_chance_23
set_option maxHeartbeats 4000000 in
set_option maxRecDepth 100000 in
theorem S_chance_ct {l : Launch} {G : Glo} {x1 : Int32} {x2 : Int32} {x3 : Int32} {μ : Mem} {r : Int64} {μ' : Mem} (h : S_chance x1 x2 x3 μ = some (r, μ')) : Ct l ΩA G 4 yX9_chance cX9_chance 6 (some .long) [.ref (G.1 0 0), .int x1, .int x2, .int x3] μ (some (.long r), μ') := by
  refine Ct.intro (by decide) (Nat.le_of_ble_eq_true rfl) ?_
  intro φ hl hG F
  subst hl; subst hG
  exact S_chance_ok F (Nat.le_refl _) h
def S_image (μ : Mem) : Option (Int32 × Mem) :=
  bnd (Ho_become 1 0 μ) fun μ2 =>
  nm (up μ2 0 0 2 1) fun μ3 =>
  some (rd μ3 1 0 3, μ3)
set_option maxHeartbeats 4000000 in
set_option maxRecDepth 100000 in
theorem S_image_ok {φ : Fr} {d : Nat} (F : Fx φ ΩA cX9_image RX9 1 (some .int)) (hd : 3 ≤ d) {μ : Mem} {r : Int32} {μ' : Mem} (h : S_image μ = some (r, μ')) : V φ ΩA 1 d 0 [some (rf φ 0 0)] [] μ (some (.int r), μ') := by
  unfold S_image at h
  refine V.rload_n F dX9_image_0 rfl rfl ?_
  refine gf_RX9_16 F dX9_image_1 ?_
  refine V.rload_n F dX9_image_4 rfl rfl ?_
  refine gf_RX9_10 F dX9_image_5 ?_
  obtain ⟨μ2, e1, h⟩ := bnd_out h
  refine V.callVv (f := 1) (i := 1) (As := [rf φ 1 0]) F ck_RX9_337 (Ho_become_ct (by decide) (by decide) e1) (by omega) (by decide) rfl (mA1 (by decide)) rfl rfl rfl (Nat.le_of_ble_eq_true rfl) dX9_image_8 ?_
  refine V.rload_n F dX9_image_11 rfl rfl ?_
  refine V.iconst (v := 1) F dX9_image_12 (by decide) ?_
  obtain ⟨μ3, eμ3, h⟩ := nm_out h
  refine pf_RX9_19 (by decide) F eμ3 dX9_image_13 ?_
  refine V.rload_n F dX9_image_16 rfl rfl ?_
  refine gf_RX9_10 F dX9_image_17 ?_
  refine gf_RX9_131 (by decide) F dX9_image_20 ?_
  obtain ⟨rfl, rfl⟩ := r2_out h
  exact V.iret F dX9_image_23
set_option maxHeartbeats 4000000 in
set_option maxRecDepth 100000 in
theorem S_image_ct {l : Launch} {G : Glo} {μ : Mem} {r : Int32} {μ' : Mem} (h : S_image μ = some (r, μ')) : Ct l ΩA G 3 yX9_image cX9_image 1 (some .int) [.ref (G.1 0 0)] μ (some (.int r), μ') := by
  refine Ct.intro (by decide) (Nat.le_of_ble_eq_true rfl) ?_
  intro φ hl hG F
  subst hl; subst hG
  exact S_image_ok F (Nat.le_refl _) h
def S_back (μ : Mem) : Option (Int32 × Mem) :=
  if (rd μ 0 0 2) = 0 then (
    some ((-3), μ))
  else (
    bnd (Ho_become 0 1 μ) fun μ3 =>
    some (rd μ3 1 0 3, μ3))
set_option maxHeartbeats 4000000 in
set_option maxRecDepth 100000 in
theorem S_back_ok {φ : Fr} {d : Nat} (F : Fx φ ΩA cX9_back RX9 1 (some .int)) (hd : 3 ≤ d) {μ : Mem} {r : Int32} {μ' : Mem} (h : S_back μ = some (r, μ')) : V φ ΩA 1 d 0 [some (rf φ 0 0)] [] μ (some (.int r), μ') := by
  unfold S_back at h
  refine V.rload_n F dX9_back_0 rfl rfl ?_
  refine gf_RX9_19 F dX9_back_1 ?_
  refine V.if_ne (tgt := 10) F dX9_back_4 (by decide) (fun c1 => ?_) (fun c1 => ?_)
  · have h := f_out h c1
    refine V.rload_n F dX9_back_10 rfl rfl ?_
    refine gf_RX9_10 F dX9_back_11 ?_
    refine V.rload_n F dX9_back_14 rfl rfl ?_
    refine gf_RX9_16 F dX9_back_15 ?_
    obtain ⟨μ3, e2, h⟩ := bnd_out h
    refine V.callVv (f := 1) (i := 0) (As := [rf φ 1 1]) F ck_RX9_337 (Ho_become_ct (by decide) (by decide) e2) (by omega) (by decide) rfl (mA1 (by decide)) rfl rfl rfl (Nat.le_of_ble_eq_true rfl) dX9_back_18 ?_
    refine V.rload_n F dX9_back_21 rfl rfl ?_
    refine gf_RX9_10 F dX9_back_22 ?_
    refine gf_RX9_131 (by decide) F dX9_back_25 ?_
    obtain ⟨rfl, rfl⟩ := r2_out h
    exact V.iret F dX9_back_28
  · have h := t_out h c1
    refine V.bipush (v := (-3)) F dX9_back_7 (by decide) ?_
    obtain ⟨rfl, rfl⟩ := r2_out h
    exact V.iret F dX9_back_9
set_option maxHeartbeats 4000000 in
set_option maxRecDepth 100000 in
theorem S_back_ct {l : Launch} {G : Glo} {μ : Mem} {r : Int32} {μ' : Mem} (h : S_back μ = some (r, μ')) : Ct l ΩA G 3 yX9_back cX9_back 1 (some .int) [.ref (G.1 0 0)] μ (some (.int r), μ') := by
  refine Ct.intro (by decide) (Nat.le_of_ble_eq_true rfl) ?_
  intro φ hl hG F
  subst hl; subst hG
  exact S_back_ok F (Nat.le_refl _) h
def S_count (x1 : Int32) (μ : Mem) : Option Int32 :=
  if x1 = 0 then (
    some (rd μ 1 0 3))
  else (
  if x1 = 1 then (
    bnd (Ho_warm 0 μ) fun r4 =>
    some r4)
  else (
  if x1 = 2 then (
    bnd (Ho_boiling 0 μ) fun r7 =>
    some r7)
  else (
  if x1 = 3 then (
    some (rd μ 0 0 4))
  else (
  if x1 = 4 then (
    some (rd μ 10 0 1))
  else (
  if x1 = 5 then (
    some (rd μ 1 0 2))
  else (
    some (-2)))))))
set_option maxHeartbeats 4000000 in
set_option maxRecDepth 100000 in
theorem S_count_ok {φ : Fr} {d : Nat} (F : Fx φ ΩA cX9_count RX9 2 (some .int)) (hd : 2 ≤ d) {x1 : Int32} {μ : Mem} {r : Int32} (h : S_count x1 μ = some r) : V φ ΩA 2 d 0 [some (rf φ 0 0), some (.int x1)] [] μ (some (.int r), μ) := by
  unfold S_count at h
  refine V.iload_n F dX9_count_0 rfl rfl ?_
  by_cases c1 : x1 = 0
  · have h := t_out h c1
    refine V.tabK (tgt := 40) (v := 0) F dX9_count_1 (by rw [c1]; decide) (by decide) (by decide) rfl (by decide) ?_
    refine V.rload_n F dX9_count_40 rfl rfl ?_
    refine gf_RX9_10 F dX9_count_41 ?_
    refine gf_RX9_131 (by decide) F dX9_count_44 ?_
    obtain rfl := r1_out h
    exact V.iret F dX9_count_47
  have h := f_out h c1
  by_cases c2 : x1 = 1
  · have h := t_out h c2
    refine V.tabK (tgt := 48) (v := 1) F dX9_count_1 (by rw [c2]; decide) (by decide) (by decide) rfl (by decide) ?_
    refine V.rload_n F dX9_count_48 rfl rfl ?_
    refine gf_RX9_10 F dX9_count_49 ?_
    obtain ⟨r4, e3, h⟩ := bnd_out h
    refine V.callVi (f := 1) (i := 0) (As := []) F ck_RX9_340 (Ho_warm_ct (by decide) e3) (by omega) (by decide) rfl (mA1 (by decide)) rfl rfl rfl (Nat.le_of_ble_eq_true rfl) dX9_count_52 ?_
    obtain rfl := r1_out h
    exact V.iret F dX9_count_55
  have h := f_out h c2
  by_cases c5 : x1 = 2
  · have h := t_out h c5
    refine V.tabK (tgt := 56) (v := 2) F dX9_count_1 (by rw [c5]; decide) (by decide) (by decide) rfl (by decide) ?_
    refine V.rload_n F dX9_count_56 rfl rfl ?_
    refine gf_RX9_10 F dX9_count_57 ?_
    obtain ⟨r7, e6, h⟩ := bnd_out h
    refine V.callVi (f := 1) (i := 0) (As := []) F ck_RX9_343 (Ho_boiling_ct (by decide) e6) (by omega) (by decide) rfl (mA1 (by decide)) rfl rfl rfl (Nat.le_of_ble_eq_true rfl) dX9_count_60 ?_
    obtain rfl := r1_out h
    exact V.iret F dX9_count_63
  have h := f_out h c5
  by_cases c8 : x1 = 3
  · have h := t_out h c8
    refine V.tabK (tgt := 64) (v := 3) F dX9_count_1 (by rw [c8]; decide) (by decide) (by decide) rfl (by decide) ?_
    refine V.rload_n F dX9_count_64 rfl rfl ?_
    refine gf_RX9_29 F dX9_count_65 ?_
    obtain rfl := r1_out h
    exact V.iret F dX9_count_68
  have h := f_out h c8
  by_cases c9 : x1 = 4
  · have h := t_out h c9
    refine V.tabK (tgt := 69) (v := 4) F dX9_count_1 (by rw [c9]; decide) (by decide) (by decide) rfl (by decide) ?_
    refine V.rload_n F dX9_count_69 rfl rfl ?_
    refine gf_RX9_36 F dX9_count_70 ?_
    refine gf_RX9_78 F dX9_count_73 ?_
    refine gf_RX9_183 F dX9_count_76 ?_
    obtain rfl := r1_out h
    exact V.iret F dX9_count_79
  have h := f_out h c9
  by_cases c10 : x1 = 5
  · have h := t_out h c10
    refine V.tabK (tgt := 80) (v := 5) F dX9_count_1 (by rw [c10]; decide) (by decide) (by decide) rfl (by decide) ?_
    refine V.rload_n F dX9_count_80 rfl rfl ?_
    refine gf_RX9_10 F dX9_count_81 ?_
    refine gf_RX9_167 (by decide) F dX9_count_84 ?_
    obtain rfl := r1_out h
    exact V.iret F dX9_count_87
  have h := f_out h c10
  have K11 : V φ ΩA 2 d 88 [some (rf φ 0 0), some (.int x1)] [] μ (some (.int r), μ) := by
    refine V.bipush (v := (-2)) F dX9_count_88 (by decide) ?_
    obtain rfl := r1_out h
    exact V.iret F dX9_count_90
  exact V.tabOut (tgt := 88) F dX9_count_1 (by have := lv_neT c1 (a := 0) (by decide); have := lv_neT c2 (a := 1) (by decide); have := lv_neT c5 (a := 2) (by decide); have := lv_neT c8 (a := 3) (by decide); have := lv_neT c9 (a := 4) (by decide); have := lv_neT c10 (a := 5) (by decide); omega) (by decide) K11
set_option maxHeartbeats 4000000 in
set_option maxRecDepth 100000 in
theorem S_count_ct {l : Launch} {G : Glo} {x1 : Int32} {μ : Mem} {r : Int32} (h : S_count x1 μ = some r) : Ct l ΩA G 2 yX9_count cX9_count 2 (some .int) [.ref (G.1 0 0), .int x1] μ (some (.int r), μ) := by
  refine Ct.intro (by decide) (Nat.le_of_ble_eq_true rfl) ?_
  intro φ hl hG F
  subst hl; subst hG
  exact S_count_ok F (Nat.le_refl _) h
def S_isSort (x0 : Int32) : Int32 :=
  if x0 < 0 then (
    0)
  else (
    if 2 < x0 then (
      0)
    else (
      1))
set_option maxHeartbeats 4000000 in
set_option maxRecDepth 100000 in
theorem S_isSort_ok {φ : Fr} {d : Nat} (F : Fx φ ΩA cX9_isSort RX9 1 (some .boolean)) (hd : 1 ≤ d) {x0 : Int32} {μ : Mem} {r : Int32} (h : S_isSort x0 = r) : V φ ΩA 1 d 0 [some (.int x0)] [] μ (some (.int r), μ) := by
  unfold S_isSort at h
  refine V.iload_n F dX9_isSort_0 rfl rfl ?_
  refine V.if_lt (tgt := 13) F dX9_isSort_1 (by decide) (fun c1 => ?_) (fun c1 => ?_)
  · have h := t_out h c1
    refine V.iconst (v := 0) F dX9_isSort_13 (by decide) ?_
    obtain rfl := h
    exact V.zret F (by decide) dX9_isSort_14
  · have h := f_out h c1
    refine V.iload_n F dX9_isSort_4 rfl rfl ?_
    refine V.iconst (v := 2) F dX9_isSort_5 (by decide) ?_
    refine V.icmp_gt (tgt := 13) F dX9_isSort_6 (by decide) (fun c2 => ?_) (fun c2 => ?_)
    · have h := t_out h c2
      refine V.iconst (v := 0) F dX9_isSort_13 (by decide) ?_
      obtain rfl := h
      exact V.zret F (by decide) dX9_isSort_14
    · have h := f_out h c2
      refine V.iconst (v := 1) F dX9_isSort_9 (by decide) ?_
      refine V.goto (tgt := 14) F dX9_isSort_10 (by decide) ?_
      obtain rfl := h
      exact V.zret F (by decide) dX9_isSort_14
set_option maxHeartbeats 4000000 in
set_option maxRecDepth 100000 in
theorem S_isSort_ct {l : Launch} {G : Glo} {x0 : Int32} {μ : Mem} {r : Int32} (h : S_isSort x0 = r) : Ct l ΩA G 1 yX9_isSort cX9_isSort 1 (some .boolean) [.int x0] μ (some (.int r), μ) := by
  refine Ct.intro (by decide) (Nat.le_of_ble_eq_true rfl) ?_
  intro φ hl hG F
  subst hl; subst hG
  exact S_isSort_ok F (Nat.le_refl _) h
def S_sheet_22 (x1 : Int32) (x2 : Int32) (x3 : Int32) (μ : Mem) : Option (Int32 × Mem) :=
  if x2 = (-1) then (
    chk (inb x1 4) <|
    bnd (Sh_become (ix x1) (-1) 0 μ) fun μ9 =>
    some (1, μ9))
  else (
    if 40 < x3 then (
      some ((-2), μ))
    else (
      if x3 < 0 then (
        some ((-14), μ))
      else (
        chk (inb x1 4) <|
        bnd (Sh_become (ix x1) x2 x3 μ) fun μ6 =>
        some (1, μ6))))
set_option maxHeartbeats 4000000 in
set_option maxRecDepth 100000 in
theorem S_sheet_22_ok {φ : Fr} {d : Nat} (F : Fx φ ΩA cX9_sheet RX9 4 (some .int)) (hd : 2 ≤ d) {x1 : Int32} {x2 : Int32} {x3 : Int32} {μ : Mem} {r : Int32} {μ' : Mem} (h : S_sheet_22 x1 x2 x3 μ = some (r, μ')) : V φ ΩA 4 d 22 [some (rf φ 0 0), some (.int x1), some (.int x2), some (.int x3)] [] μ (some (.int r), μ') := by
  unfold S_sheet_22 at h
  refine V.iload_n F dX9_sheet_22 rfl rfl ?_
  refine V.iconst (v := (-1)) F dX9_sheet_23 (by decide) ?_
  refine V.icmp_ne (tgt := 40) F dX9_sheet_24 (by decide) (fun c1 => ?_) (fun c1 => ?_)
  · have h := f_out h c1
    refine V.iload_n F dX9_sheet_40 rfl rfl ?_
    refine V.bipush (v := 40) F dX9_sheet_41 (by decide) ?_
    refine V.icmp_le (tgt := 49) F dX9_sheet_43 (by decide) (fun c2 => ?_) (fun c2 => ?_)
    · have h := f_out h c2
      refine V.iload_n F dX9_sheet_49 rfl rfl ?_
      refine V.if_ge (tgt := 56) F dX9_sheet_50 (by decide) (fun c3 => ?_) (fun c3 => ?_)
      · have h := f_out h c3
        refine V.rload_n F dX9_sheet_56 rfl rfl ?_
        refine gf_RX9_42 F dX9_sheet_57 ?_
        refine V.iload_n F dX9_sheet_60 rfl rfl ?_
        obtain ⟨c4, h⟩ := chk_out h
        refine V.aald (t0 := 4) (n := 4) 16 (ix x1) F mA15 rfl rfl c4 rfl dX9_sheet_61 ?_
        refine V.iload_n F dX9_sheet_62 rfl rfl ?_
        refine V.iload_n F dX9_sheet_63 rfl rfl ?_
        obtain ⟨μ6, e5, h⟩ := bnd_out h
        refine V.callVv (f := 16) (i := ix x1) (As := [.int x2, .int x3]) F ck_RX9_320 (Sh_become_ct (inb_lt c4) e5) (by omega) (by decide) rfl (mA16 (inb_lt c4)) rfl rfl rfl (Nat.le_of_ble_eq_true rfl) dX9_sheet_64 ?_
        refine V.iconst (v := 1) F dX9_sheet_67 (by decide) ?_
        obtain ⟨rfl, rfl⟩ := r2_out h
        exact V.iret F dX9_sheet_68
      · have h := t_out h c3
        refine V.bipush (v := (-14)) F dX9_sheet_53 (by decide) ?_
        obtain ⟨rfl, rfl⟩ := r2_out h
        exact V.iret F dX9_sheet_55
    · have h := t_out h c2
      refine V.bipush (v := (-2)) F dX9_sheet_46 (by decide) ?_
      obtain ⟨rfl, rfl⟩ := r2_out h
      exact V.iret F dX9_sheet_48
  · have h := t_out h c1
    refine V.rload_n F dX9_sheet_27 rfl rfl ?_
    refine gf_RX9_42 F dX9_sheet_28 ?_
    refine V.iload_n F dX9_sheet_31 rfl rfl ?_
    obtain ⟨c7, h⟩ := chk_out h
    refine V.aald (t0 := 4) (n := 4) 16 (ix x1) F mA15 rfl rfl c7 rfl dX9_sheet_32 ?_
    refine V.iconst (v := (-1)) F dX9_sheet_33 (by decide) ?_
    refine V.iconst (v := 0) F dX9_sheet_34 (by decide) ?_
    obtain ⟨μ9, e8, h⟩ := bnd_out h
    refine V.callVv (f := 16) (i := ix x1) (As := [.int (-1), .int 0]) F ck_RX9_320 (Sh_become_ct (inb_lt c7) e8) (by omega) (by decide) rfl (mA16 (inb_lt c7)) rfl rfl rfl (Nat.le_of_ble_eq_true rfl) dX9_sheet_35 ?_
    refine V.iconst (v := 1) F dX9_sheet_38 (by decide) ?_
    obtain ⟨rfl, rfl⟩ := r2_out h
    exact V.iret F dX9_sheet_39
def S_sheet (x1 : Int32) (x2 : Int32) (x3 : Int32) (μ : Mem) : Option (Int32 × Mem) :=
  nm (S_isSheet x1) fun r2 =>
  if r2 = 0 then (
    some ((-2), μ))
  else (
    if x2 = (-1) then (
      S_sheet_22 x1 x2 x3 μ)
    else (
      nm (S_isSort x2) fun r6 =>
      if r6 = 0 then (
        some ((-2), μ))
      else (
        S_sheet_22 x1 x2 x3 μ)))
set_option maxHeartbeats 4000000 in
set_option maxRecDepth 100000 in
theorem S_sheet_ok {φ : Fr} {d : Nat} (F : Fx φ ΩA cX9_sheet RX9 4 (some .int)) (hd : 2 ≤ d) {x1 : Int32} {x2 : Int32} {x3 : Int32} {μ : Mem} {r : Int32} {μ' : Mem} (h : S_sheet x1 x2 x3 μ = some (r, μ')) : V φ ΩA 4 d 0 [some (rf φ 0 0), some (.int x1), some (.int x2), some (.int x3)] [] μ (some (.int r), μ') := by
  unfold S_sheet at h
  refine V.iload_n F dX9_sheet_0 rfl rfl ?_
  obtain ⟨r2, e1, h⟩ := nm_out h
  refine V.callSi (As := [.int x1]) F ck_RX9_276 (S_isSheet_ct e1) (by omega) (by decide) rfl rfl (Nat.le_of_ble_eq_true rfl) dX9_sheet_1 ?_
  refine V.if_eq (tgt := 19) F dX9_sheet_4 (by decide) (fun c3 => ?_) (fun c3 => ?_)
  · have h := t_out h c3
    refine V.bipush (v := (-2)) F dX9_sheet_19 (by decide) ?_
    obtain ⟨rfl, rfl⟩ := r2_out h
    exact V.iret F dX9_sheet_21
  · have h := f_out h c3
    refine V.iload_n F dX9_sheet_7 rfl rfl ?_
    refine V.iconst (v := (-1)) F dX9_sheet_8 (by decide) ?_
    refine V.icmp_eq (tgt := 22) F dX9_sheet_9 (by decide) (fun c4 => ?_) (fun c4 => ?_)
    · have h := t_out h c4
      exact S_sheet_22_ok F hd h
    · have h := f_out h c4
      refine V.iload_n F dX9_sheet_12 rfl rfl ?_
      obtain ⟨r6, e5, h⟩ := nm_out h
      refine V.callSi (As := [.int x2]) F ck_RX9_346 (S_isSort_ct e5) (by omega) (by decide) rfl rfl (Nat.le_of_ble_eq_true rfl) dX9_sheet_13 ?_
      refine V.if_ne (tgt := 22) F dX9_sheet_16 (by decide) (fun c7 => ?_) (fun c7 => ?_)
      · have h := f_out h c7
        exact S_sheet_22_ok F hd h
      · have h := t_out h c7
        refine V.bipush (v := (-2)) F dX9_sheet_19 (by decide) ?_
        obtain ⟨rfl, rfl⟩ := r2_out h
        exact V.iret F dX9_sheet_21
set_option maxHeartbeats 4000000 in
set_option maxRecDepth 100000 in
theorem S_sheet_ct {l : Launch} {G : Glo} {x1 : Int32} {x2 : Int32} {x3 : Int32} {μ : Mem} {r : Int32} {μ' : Mem} (h : S_sheet x1 x2 x3 μ = some (r, μ')) : Ct l ΩA G 2 yX9_sheet cX9_sheet 4 (some .int) [.ref (G.1 0 0), .int x1, .int x2, .int x3] μ (some (.int r), μ') := by
  refine Ct.intro (by decide) (Nat.le_of_ble_eq_true rfl) ?_
  intro φ hl hG F
  subst hl; subst hG
  exact S_sheet_ok F (Nat.le_refl _) h
def S_cell (x1 : Int32) (x2 : Int32) (x3 : Int32) (μ : Mem) : Option (Int32 × Mem) :=
  nm (S_isSheet x1) fun r2 =>
  if r2 = 0 then (
    some ((-2), μ))
  else (
    chk (inb x1 4) <|
    nm (Sh_isMissing (ix x1) μ) fun r6 =>
    if r6 = 0 then (
      if x2 < 0 then (
        some ((-12), μ))
      else (
        if x2 < (rd μ 16 (ix x1) 1) then (
          bnd (Sh_put (ix x1) x2 x3 μ) fun μ11 =>
          some (1, μ11))
        else (
          some ((-12), μ))))
    else (
      some ((-11), μ)))
set_option maxHeartbeats 4000000 in
set_option maxRecDepth 100000 in
theorem S_cell_ok {φ : Fr} {d : Nat} (F : Fx φ ΩA cX9_cell RX9 5 (some .int)) (hd : 2 ≤ d) {x1 : Int32} {x2 : Int32} {x3 : Int32} {μ : Mem} {r : Int32} {μ' : Mem} (h : S_cell x1 x2 x3 μ = some (r, μ')) : V φ ΩA 5 d 0 [some (rf φ 0 0), some (.int x1), some (.int x2), some (.int x3), none] [] μ (some (.int r), μ') := by
  unfold S_cell at h
  refine V.iload_n F dX9_cell_0 rfl rfl ?_
  obtain ⟨r2, e1, h⟩ := nm_out h
  refine V.callSi (As := [.int x1]) F ck_RX9_276 (S_isSheet_ct e1) (by omega) (by decide) rfl rfl (Nat.le_of_ble_eq_true rfl) dX9_cell_1 ?_
  refine V.if_ne (tgt := 10) F dX9_cell_4 (by decide) (fun c3 => ?_) (fun c3 => ?_)
  · have h := f_out h c3
    refine V.rload_n F dX9_cell_10 rfl rfl ?_
    refine gf_RX9_42 F dX9_cell_11 ?_
    refine V.iload_n F dX9_cell_14 rfl rfl ?_
    obtain ⟨c4, h⟩ := chk_out h
    refine V.aald (t0 := 4) (n := 4) 16 (ix x1) F mA15 rfl rfl c4 rfl dX9_cell_15 ?_
    refine V.rstore (L' := [some (rf φ 0 0), some (.int x1), some (.int x2), some (.int x3), some (rf φ 16 (ix x1))]) F dX9_cell_16 (by decide) rfl rfl ?_
    refine V.rload F dX9_cell_18 rfl ?_
    obtain ⟨r6, e5, h⟩ := nm_out h
    refine V.callVi (f := 16) (i := ix x1) (As := []) F ck_RX9_279 (Sh_isMissing_ct (inb_lt c4) e5) (by omega) (by decide) rfl (mA16 (inb_lt c4)) rfl rfl rfl (Nat.le_of_ble_eq_true rfl) dX9_cell_20 ?_
    refine V.if_eq (tgt := 29) F dX9_cell_23 (by decide) (fun c7 => ?_) (fun c7 => ?_)
    · have h := t_out h c7
      refine V.iload_n F dX9_cell_29 rfl rfl ?_
      refine V.if_lt (tgt := 42) F dX9_cell_30 (by decide) (fun c8 => ?_) (fun c8 => ?_)
      · have h := t_out h c8
        refine V.bipush (v := (-12)) F dX9_cell_42 (by decide) ?_
        obtain ⟨rfl, rfl⟩ := r2_out h
        exact V.iret F dX9_cell_44
      · have h := f_out h c8
        refine V.iload_n F dX9_cell_33 rfl rfl ?_
        refine V.rload F dX9_cell_34 rfl ?_
        refine gf_RX9_283 (inb_lt c4) F dX9_cell_36 ?_
        refine V.icmp_lt (tgt := 45) F dX9_cell_39 (by decide) (fun c9 => ?_) (fun c9 => ?_)
        · have h := t_out h c9
          refine V.rload F dX9_cell_45 rfl ?_
          refine V.iload_n F dX9_cell_47 rfl rfl ?_
          refine V.iload_n F dX9_cell_48 rfl rfl ?_
          obtain ⟨μ11, e10, h⟩ := bnd_out h
          refine V.callVv (f := 16) (i := ix x1) (As := [.int x2, .int x3]) F ck_RX9_323 (Sh_put_ct (inb_lt c4) e10) (by omega) (by decide) rfl (mA16 (inb_lt c4)) rfl rfl rfl (Nat.le_of_ble_eq_true rfl) dX9_cell_49 ?_
          refine V.iconst (v := 1) F dX9_cell_52 (by decide) ?_
          obtain ⟨rfl, rfl⟩ := r2_out h
          exact V.iret F dX9_cell_53
        · have h := f_out h c9
          refine V.bipush (v := (-12)) F dX9_cell_42 (by decide) ?_
          obtain ⟨rfl, rfl⟩ := r2_out h
          exact V.iret F dX9_cell_44
    · have h := f_out h c7
      refine V.bipush (v := (-11)) F dX9_cell_26 (by decide) ?_
      obtain ⟨rfl, rfl⟩ := r2_out h
      exact V.iret F dX9_cell_28
  · have h := t_out h c3
    refine V.bipush (v := (-2)) F dX9_cell_7 (by decide) ?_
    obtain ⟨rfl, rfl⟩ := r2_out h
    exact V.iret F dX9_cell_9
set_option maxHeartbeats 4000000 in
set_option maxRecDepth 100000 in
theorem S_cell_ct {l : Launch} {G : Glo} {x1 : Int32} {x2 : Int32} {x3 : Int32} {μ : Mem} {r : Int32} {μ' : Mem} (h : S_cell x1 x2 x3 μ = some (r, μ')) : Ct l ΩA G 2 yX9_cell cX9_cell 5 (some .int) [.ref (G.1 0 0), .int x1, .int x2, .int x3] μ (some (.int r), μ') := by
  refine Ct.intro (by decide) (Nat.le_of_ble_eq_true rfl) ?_
  intro φ hl hG F
  subst hl; subst hG
  exact S_cell_ok F (Nat.le_refl _) h
def S_copy (x1 : Int32) (x2 : Int32) (x3 : Int32) (x4 : Int32) (x5 : Int32) (μ : Mem) : Option (Int32 × Mem) :=
  nm (S_isSheet x1) fun r2 =>
  if r2 = 0 then (
    some ((-2), μ))
  else (
    nm (S_isSheet x3) fun r5 =>
    if r5 = 0 then (
      some ((-2), μ))
    else (
      chk (inb x1 4) <|
      chk (inb x3 4) <|
      nm (Sh_isMissing (ix x1) μ) fun r10 =>
      if r10 = 0 then (
        nm (Sh_isMissing (ix x3) μ) fun r13 =>
        if r13 = 0 then (
          if (rd μ 16 (ix x1) 0) = (rd μ 16 (ix x3) 0) then (
            nm (Sh_has (ix x1) x2 x5 μ) fun r17 =>
            if r17 = 0 then (
              some ((-12), μ))
            else (
              nm (Sh_has (ix x3) x4 x5 μ) fun r20 =>
              if r20 = 0 then (
                some ((-12), μ))
              else (
                chk (¬ x2 < 0 ∧ ¬ x4 < 0 ∧ ¬ x5 < 0 ∧ ix x2 + ix x5 ≤ 40 ∧ ix x4 + ix x5 ≤ 40) <|
                nm (cpyM μ 17 (ix x1) (ix x2) (ix x3) (ix x4) (ix x5)) fun μ23 =>
                some (x5, μ23))))
          else (
            some ((-13), μ)))
        else (
          some ((-11), μ)))
      else (
        some ((-11), μ))))
set_option maxHeartbeats 4000000 in
set_option maxRecDepth 100000 in
theorem S_copy_ok {φ : Fr} {d : Nat} (F : Fx φ ΩA cX9_copy RX9 8 (some .int)) (hd : 2 ≤ d) {x1 : Int32} {x2 : Int32} {x3 : Int32} {x4 : Int32} {x5 : Int32} {μ : Mem} {r : Int32} {μ' : Mem} (h : S_copy x1 x2 x3 x4 x5 μ = some (r, μ')) : V φ ΩA 8 d 0 [some (rf φ 0 0), some (.int x1), some (.int x2), some (.int x3), some (.int x4), some (.int x5), none, none] [] μ (some (.int r), μ') := by
  unfold S_copy at h
  refine V.iload_n F dX9_copy_0 rfl rfl ?_
  obtain ⟨r2, e1, h⟩ := nm_out h
  refine V.callSi (As := [.int x1]) F ck_RX9_276 (S_isSheet_ct e1) (by omega) (by decide) rfl rfl (Nat.le_of_ble_eq_true rfl) dX9_copy_1 ?_
  refine V.if_eq (tgt := 14) F dX9_copy_4 (by decide) (fun c3 => ?_) (fun c3 => ?_)
  · have h := t_out h c3
    refine V.bipush (v := (-2)) F dX9_copy_14 (by decide) ?_
    obtain ⟨rfl, rfl⟩ := r2_out h
    exact V.iret F dX9_copy_16
  · have h := f_out h c3
    refine V.iload_n F dX9_copy_7 rfl rfl ?_
    obtain ⟨r5, e4, h⟩ := nm_out h
    refine V.callSi (As := [.int x3]) F ck_RX9_276 (S_isSheet_ct e4) (by omega) (by decide) rfl rfl (Nat.le_of_ble_eq_true rfl) dX9_copy_8 ?_
    refine V.if_ne (tgt := 17) F dX9_copy_11 (by decide) (fun c6 => ?_) (fun c6 => ?_)
    · have h := f_out h c6
      refine V.rload_n F dX9_copy_17 rfl rfl ?_
      refine gf_RX9_42 F dX9_copy_18 ?_
      refine V.iload_n F dX9_copy_21 rfl rfl ?_
      obtain ⟨c7, h⟩ := chk_out h
      refine V.aald (t0 := 4) (n := 4) 16 (ix x1) F mA15 rfl rfl c7 rfl dX9_copy_22 ?_
      refine V.rstore (L' := [some (rf φ 0 0), some (.int x1), some (.int x2), some (.int x3), some (.int x4), some (.int x5), some (rf φ 16 (ix x1)), none]) F dX9_copy_23 (by decide) rfl rfl ?_
      refine V.rload_n F dX9_copy_25 rfl rfl ?_
      refine gf_RX9_42 F dX9_copy_26 ?_
      refine V.iload_n F dX9_copy_29 rfl rfl ?_
      obtain ⟨c8, h⟩ := chk_out h
      refine V.aald (t0 := 4) (n := 4) 16 (ix x3) F mA15 rfl rfl c8 rfl dX9_copy_30 ?_
      refine V.rstore (L' := [some (rf φ 0 0), some (.int x1), some (.int x2), some (.int x3), some (.int x4), some (.int x5), some (rf φ 16 (ix x1)), some (rf φ 16 (ix x3))]) F dX9_copy_31 (by decide) rfl rfl ?_
      refine V.rload F dX9_copy_33 rfl ?_
      obtain ⟨r10, e9, h⟩ := nm_out h
      refine V.callVi (f := 16) (i := ix x1) (As := []) F ck_RX9_279 (Sh_isMissing_ct (inb_lt c7) e9) (by omega) (by decide) rfl (mA16 (inb_lt c7)) rfl rfl rfl (Nat.le_of_ble_eq_true rfl) dX9_copy_35 ?_
      refine V.if_ne (tgt := 49) F dX9_copy_38 (by decide) (fun c11 => ?_) (fun c11 => ?_)
      · have h := f_out h c11
        refine V.bipush (v := (-11)) F dX9_copy_49 (by decide) ?_
        obtain ⟨rfl, rfl⟩ := r2_out h
        exact V.iret F dX9_copy_51
      · have h := t_out h c11
        refine V.rload F dX9_copy_41 rfl ?_
        obtain ⟨r13, e12, h⟩ := nm_out h
        refine V.callVi (f := 16) (i := ix x3) (As := []) F ck_RX9_279 (Sh_isMissing_ct (inb_lt c8) e12) (by omega) (by decide) rfl (mA16 (inb_lt c8)) rfl rfl rfl (Nat.le_of_ble_eq_true rfl) dX9_copy_43 ?_
        refine V.if_eq (tgt := 52) F dX9_copy_46 (by decide) (fun c14 => ?_) (fun c14 => ?_)
        · have h := t_out h c14
          refine V.rload F dX9_copy_52 rfl ?_
          refine gf_RX9_349 (inb_lt c7) F dX9_copy_54 ?_
          refine V.rload F dX9_copy_57 rfl ?_
          refine gf_RX9_349 (inb_lt c8) F dX9_copy_59 ?_
          refine V.icmp_eq (tgt := 68) F dX9_copy_62 (by decide) (fun c15 => ?_) (fun c15 => ?_)
          · have h := t_out h c15
            refine V.rload F dX9_copy_68 rfl ?_
            refine V.iload_n F dX9_copy_70 rfl rfl ?_
            refine V.iload F dX9_copy_71 rfl ?_
            obtain ⟨r17, e16, h⟩ := nm_out h
            refine V.callVi (f := 16) (i := ix x1) (As := [.int x2, .int x5]) F ck_RX9_352 (Sh_has_ct (inb_lt c7) e16) (by omega) (by decide) rfl (mA16 (inb_lt c7)) rfl rfl rfl (Nat.le_of_ble_eq_true rfl) dX9_copy_73 ?_
            refine V.if_eq (tgt := 91) F dX9_copy_76 (by decide) (fun c18 => ?_) (fun c18 => ?_)
            · have h := t_out h c18
              refine V.bipush (v := (-12)) F dX9_copy_91 (by decide) ?_
              obtain ⟨rfl, rfl⟩ := r2_out h
              exact V.iret F dX9_copy_93
            · have h := f_out h c18
              refine V.rload F dX9_copy_79 rfl ?_
              refine V.iload F dX9_copy_81 rfl ?_
              refine V.iload F dX9_copy_83 rfl ?_
              obtain ⟨r20, e19, h⟩ := nm_out h
              refine V.callVi (f := 16) (i := ix x3) (As := [.int x4, .int x5]) F ck_RX9_352 (Sh_has_ct (inb_lt c8) e19) (by omega) (by decide) rfl (mA16 (inb_lt c8)) rfl rfl rfl (Nat.le_of_ble_eq_true rfl) dX9_copy_85 ?_
              refine V.if_ne (tgt := 94) F dX9_copy_88 (by decide) (fun c21 => ?_) (fun c21 => ?_)
              · have h := f_out h c21
                refine V.rload F dX9_copy_94 rfl ?_
                refine gf_RX9_300 (inb_lt c7) F dX9_copy_96 ?_
                refine V.iload_n F dX9_copy_99 rfl rfl ?_
                refine V.rload F dX9_copy_100 rfl ?_
                refine gf_RX9_300 (inb_lt c8) F dX9_copy_102 ?_
                refine V.iload F dX9_copy_105 rfl ?_
                refine V.iload F dX9_copy_107 rfl ?_
                obtain ⟨c22, h⟩ := chk_out h
                obtain ⟨μ23, eμ23, h⟩ := nm_out h
                refine V.copy (t0 := 0) (N := 40) F ml_RX9_354 nw_acp sw_acp iw_Sys (mA17 (inb_lt c7)) (mA17 (inb_lt c8)) (fun _ _ => rfl) rfl c22 (Nat.le_of_ble_eq_true rfl) eμ23 dX9_copy_109 ?_
                refine V.iload F dX9_copy_112 rfl ?_
                obtain ⟨rfl, rfl⟩ := r2_out h
                exact V.iret F dX9_copy_114
              · have h := t_out h c21
                refine V.bipush (v := (-12)) F dX9_copy_91 (by decide) ?_
                obtain ⟨rfl, rfl⟩ := r2_out h
                exact V.iret F dX9_copy_93
          · have h := f_out h c15
            refine V.bipush (v := (-13)) F dX9_copy_65 (by decide) ?_
            obtain ⟨rfl, rfl⟩ := r2_out h
            exact V.iret F dX9_copy_67
        · have h := f_out h c14
          refine V.bipush (v := (-11)) F dX9_copy_49 (by decide) ?_
          obtain ⟨rfl, rfl⟩ := r2_out h
          exact V.iret F dX9_copy_51
    · have h := t_out h c6
      refine V.bipush (v := (-2)) F dX9_copy_14 (by decide) ?_
      obtain ⟨rfl, rfl⟩ := r2_out h
      exact V.iret F dX9_copy_16
set_option maxHeartbeats 4000000 in
set_option maxRecDepth 100000 in
theorem S_copy_ct {l : Launch} {G : Glo} {x1 : Int32} {x2 : Int32} {x3 : Int32} {x4 : Int32} {x5 : Int32} {μ : Mem} {r : Int32} {μ' : Mem} (h : S_copy x1 x2 x3 x4 x5 μ = some (r, μ')) : Ct l ΩA G 2 yX9_copy cX9_copy 8 (some .int) [.ref (G.1 0 0), .int x1, .int x2, .int x3, .int x4, .int x5] μ (some (.int r), μ') := by
  refine Ct.intro (by decide) (Nat.le_of_ble_eq_true rfl) ?_
  intro φ hl hG F
  subst hl; subst hG
  exact S_copy_ok F (Nat.le_refl _) h
def S_grooms_137 (k66 : Int32 → Int32 → Nat → Int32 → Int32 → Mem → Option (Int32 × Mem)) (x3 : Int32) (x4 : Int32) (t5 : Nat) (x6 : Int32) (x7 : Int32) (μ : Mem) : Option (Int32 × Mem) :=
  nm (x7 + 1) fun a1 =>
  k66 x3 x4 t5 x6 a1 μ
set_option maxHeartbeats 4000000 in
set_option maxRecDepth 100000 in
theorem S_grooms_137_ok {φ : Fr} {d : Nat} (F : Fx φ ΩA cX9_grooms RX9 9 (some .int)) (hd : 3 ≤ d) {k66 : Int32 → Int32 → Nat → Int32 → Int32 → Mem → Option (Int32 × Mem)} (hk66 : ∀ (x3 : Int32) (x4 : Int32) (t5 : Nat) (x6 : Int32) (x7 : Int32) (ht5 : t5 < 4) (μ : Mem) (r : Int32) (μ' : Mem), k66 x3 x4 t5 x6 x7 μ = some (r, μ') → V φ ΩA 9 d 66 [some (rf φ 0 0), none, none, some (.int x3), some (.int x4), some (rf φ 16 t5), some (.int x6), some (.int x7), none] [] μ (some (.int r), μ')) {x3 : Int32} {x4 : Int32} {t5 : Nat} {x6 : Int32} {x7 : Int32} (ht5 : t5 < 4) {μ : Mem} {r : Int32} {μ' : Mem} (h : S_grooms_137 k66 x3 x4 t5 x6 x7 μ = some (r, μ')) : V φ ΩA 9 d 137 [some (rf φ 0 0), none, none, some (.int x3), some (.int x4), some (rf φ 16 t5), some (.int x6), some (.int x7), none] [] μ (some (.int r), μ') := by
  unfold S_grooms_137 at h
  obtain ⟨a1, ea1, h⟩ := nm_out h
  refine V.iinc (z := 1) (L' := [some (rf φ 0 0), none, none, some (.int x3), some (.int x4), some (rf φ 16 t5), some (.int x6), some (.int a1), none]) F dX9_grooms_137 rfl (by decide) ea1 (by decide) rfl rfl ?_
  refine V.goto (tgt := 66) F dX9_grooms_140 (by decide) ?_
  exact hk66 _ _ _ _ _ ht5 _ _ _ h
def S_grooms_66 (k66 : Int32 → Int32 → Nat → Int32 → Int32 → Mem → Option (Int32 × Mem)) (x3 : Int32) (x4 : Int32) (t5 : Nat) (x6 : Int32) (x7 : Int32) (μ : Mem) : Option (Int32 × Mem) :=
  if x7 < x4 then (
    nm (Sh_has t5 x3 ((3 * x7) + 3) μ) fun r3 =>
    if r3 = 0 then (
      some ((-12), μ))
    else (
      nm (x3 + (3 * x7)) fun a5 =>
      chk (inb a5 40) <|
      chk (inb (a5 + 1) 40) <|
      chk (inb (a5 + 2) 40) <|
      bnd2 (S_groom (rd μ 17 t5 (ix a5)) (rd μ 17 t5 (ix (a5 + 1))) (rd μ 17 t5 (ix (a5 + 2))) μ) fun r10 μ11 =>
      if r10 < 0 then (
        S_grooms_137 k66 x3 x4 t5 x6 x7 μ11)
      else (
        nm (x6 + 1) fun a13 =>
        S_grooms_137 k66 x3 x4 t5 a13 x7 μ11)))
  else (
    some (x6, μ))
set_option maxHeartbeats 4000000 in
set_option maxRecDepth 100000 in
theorem S_grooms_66_ok {φ : Fr} {d : Nat} (F : Fx φ ΩA cX9_grooms RX9 9 (some .int)) (hd : 3 ≤ d) {k66 : Int32 → Int32 → Nat → Int32 → Int32 → Mem → Option (Int32 × Mem)} (hk66 : ∀ (x3 : Int32) (x4 : Int32) (t5 : Nat) (x6 : Int32) (x7 : Int32) (ht5 : t5 < 4) (μ : Mem) (r : Int32) (μ' : Mem), k66 x3 x4 t5 x6 x7 μ = some (r, μ') → V φ ΩA 9 d 66 [some (rf φ 0 0), none, none, some (.int x3), some (.int x4), some (rf φ 16 t5), some (.int x6), some (.int x7), none] [] μ (some (.int r), μ')) {x3 : Int32} {x4 : Int32} {t5 : Nat} {x6 : Int32} {x7 : Int32} (ht5 : t5 < 4) {μ : Mem} {r : Int32} {μ' : Mem} (h : S_grooms_66 k66 x3 x4 t5 x6 x7 μ = some (r, μ')) : V φ ΩA 9 d 66 [some (rf φ 0 0), none, none, some (.int x3), some (.int x4), some (rf φ 16 t5), some (.int x6), some (.int x7), none] [] μ (some (.int r), μ') := by
  unfold S_grooms_66 at h
  refine V.iload F dX9_grooms_66 rfl ?_
  refine V.iload F dX9_grooms_68 rfl ?_
  refine V.icmp_ge (tgt := 143) F dX9_grooms_70 (by decide) (fun c1 => ?_) (fun c1 => ?_)
  · have h := f_out h c1
    refine V.iload F dX9_grooms_143 rfl ?_
    obtain ⟨rfl, rfl⟩ := r2_out h
    exact V.iret F dX9_grooms_145
  · have h := t_out h c1
    refine V.rload F dX9_grooms_73 rfl ?_
    refine V.iload_n F dX9_grooms_75 rfl rfl ?_
    refine V.iconst (v := 3) F dX9_grooms_76 (by decide) ?_
    refine V.iload F dX9_grooms_77 rfl ?_
    refine V.imul F dX9_grooms_79 ?_
    refine V.iconst (v := 3) F dX9_grooms_80 (by decide) ?_
    refine V.iadd F dX9_grooms_81 ?_
    obtain ⟨r3, e2, h⟩ := nm_out h
    refine V.callVi (f := 16) (i := t5) (As := [.int x3, .int ((3 * x7) + 3)]) F ck_RX9_352 (Sh_has_ct ht5 e2) (by omega) (by decide) rfl (mA16 ht5) rfl rfl rfl (Nat.le_of_ble_eq_true rfl) dX9_grooms_82 ?_
    refine V.if_ne (tgt := 91) F dX9_grooms_85 (by decide) (fun c4 => ?_) (fun c4 => ?_)
    · have h := f_out h c4
      refine V.iload_n F dX9_grooms_91 rfl rfl ?_
      refine V.iconst (v := 3) F dX9_grooms_92 (by decide) ?_
      refine V.iload F dX9_grooms_93 rfl ?_
      refine V.imul F dX9_grooms_95 ?_
      refine V.iadd F dX9_grooms_96 ?_
      obtain ⟨a5, ea5, h⟩ := nm_out h
      refine V.istore (L' := [some (rf φ 0 0), none, none, some (.int x3), some (.int x4), some (rf φ 16 t5), some (.int x6), some (.int x7), some (.int a5)]) F dX9_grooms_97 (by decide) rfl ea5 rfl ?_
      refine V.rload_n F dX9_grooms_99 rfl rfl ?_
      refine V.rload F dX9_grooms_100 rfl ?_
      refine gf_RX9_300 ht5 F dX9_grooms_102 ?_
      refine V.iload F dX9_grooms_105 rfl ?_
      obtain ⟨c6, h⟩ := chk_out h
      refine V.iald (t0 := 0) (n := 40) F (mA17 ht5) rfl rfl c6 dX9_grooms_107 ?_
      refine V.rload F dX9_grooms_108 rfl ?_
      refine gf_RX9_300 ht5 F dX9_grooms_110 ?_
      refine V.iload F dX9_grooms_113 rfl ?_
      refine V.iconst (v := 1) F dX9_grooms_115 (by decide) ?_
      refine V.iadd F dX9_grooms_116 ?_
      obtain ⟨c7, h⟩ := chk_out h
      refine V.iald (t0 := 0) (n := 40) F (mA17 ht5) rfl rfl c7 dX9_grooms_117 ?_
      refine V.rload F dX9_grooms_118 rfl ?_
      refine gf_RX9_300 ht5 F dX9_grooms_120 ?_
      refine V.iload F dX9_grooms_123 rfl ?_
      refine V.iconst (v := 2) F dX9_grooms_125 (by decide) ?_
      refine V.iadd F dX9_grooms_126 ?_
      obtain ⟨c8, h⟩ := chk_out h
      refine V.iald (t0 := 0) (n := 40) F (mA17 ht5) rfl rfl c8 dX9_grooms_127 ?_
      obtain ⟨r10, μ11, e9, h⟩ := bnd2_out h
      refine V.callVi (f := 0) (i := 0) (As := [.int (rd μ 17 t5 (ix a5)), .int (rd μ 17 t5 (ix (a5 + 1))), .int (rd μ 17 t5 (ix (a5 + 2)))]) F ck_RX9_360 (S_groom_ct e9) (by omega) (by decide) rfl mA0 rfl rfl rfl (Nat.le_of_ble_eq_true rfl) dX9_grooms_128 ?_
      refine V.if_lt (tgt := 137) F dX9_grooms_131 (by decide) (fun c12 => ?_) (fun c12 => ?_)
      · have h := t_out h c12
        refine V.msk (L' := [some (rf φ 0 0), none, none, some (.int x3), some (.int x4), some (rf φ 16 t5), some (.int x6), some (.int x7), none]) [true, false, false, true, true, true, true, true, false] rfl ?_
        exact S_grooms_137_ok F hd hk66 ht5 h
      · have h := f_out h c12
        obtain ⟨a13, ea13, h⟩ := nm_out h
        refine V.iinc (z := 1) (L' := [some (rf φ 0 0), none, none, some (.int x3), some (.int x4), some (rf φ 16 t5), some (.int a13), some (.int x7), some (.int a5)]) F dX9_grooms_134 rfl (by decide) ea13 (by decide) rfl rfl ?_
        refine V.msk (L' := [some (rf φ 0 0), none, none, some (.int x3), some (.int x4), some (rf φ 16 t5), some (.int a13), some (.int x7), none]) [true, false, false, true, true, true, true, true, false] rfl ?_
        exact S_grooms_137_ok F hd hk66 ht5 h
    · have h := t_out h c4
      refine V.bipush (v := (-12)) F dX9_grooms_88 (by decide) ?_
      obtain ⟨rfl, rfl⟩ := r2_out h
      exact V.iret F dX9_grooms_90
def S_grooms_66L : Nat → Int32 → Int32 → Nat → Int32 → Int32 → Mem → Option (Int32 × Mem)
  | 0 => fun _ _ _ _ _ _ => none
  | n + 1 => S_grooms_66 (S_grooms_66L n)
set_option maxHeartbeats 4000000 in
set_option maxRecDepth 100000 in
theorem S_grooms_66L_ok {φ : Fr} {d : Nat} (F : Fx φ ΩA cX9_grooms RX9 9 (some .int)) (hd : 3 ≤ d) : ∀ (n : Nat) (x3 : Int32) (x4 : Int32) (t5 : Nat) (x6 : Int32) (x7 : Int32) (ht5 : t5 < 4) (μ : Mem) (r : Int32) (μ' : Mem), S_grooms_66L n x3 x4 t5 x6 x7 μ = some (r, μ') → V φ ΩA 9 d 66 [some (rf φ 0 0), none, none, some (.int x3), some (.int x4), some (rf φ 16 t5), some (.int x6), some (.int x7), none] [] μ (some (.int r), μ') := by
  intro n
  induction n with
  | zero => intro x3 x4 t5 x6 x7 ht5 μ r μ' h; cases h
  | succ n ih => intro x3 x4 t5 x6 x7 ht5 μ r μ' h; exact S_grooms_66_ok F hd ih ht5 h
def S_grooms (x1 : Int32) (x2 : Int32) (x3 : Int32) (x4 : Int32) (μ : Mem) : Option (Int32 × Mem) :=
  nm (S_isSheet x1) fun r2 =>
  if r2 = 0 then (
    some ((-2), μ))
  else (
    nm (S_isSort x2) fun r5 =>
    if r5 = 0 then (
      some ((-2), μ))
    else (
      if x4 < 0 then (
        some ((-2), μ))
      else (
        if 6 < x4 then (
          some ((-2), μ))
        else (
          chk (inb x1 4) <|
          nm (Sh_isMissing (ix x1) μ) fun r11 =>
          if r11 = 0 then (
            if (rd μ 16 (ix x1) 0) = x2 then (
              S_grooms_66L 1000 x3 x4 (ix x1) 0 0 μ)
            else (
              some ((-13), μ)))
          else (
            some ((-11), μ))))))
set_option maxHeartbeats 4000000 in
set_option maxRecDepth 100000 in
theorem S_grooms_ok {φ : Fr} {d : Nat} (F : Fx φ ΩA cX9_grooms RX9 9 (some .int)) (hd : 3 ≤ d) {x1 : Int32} {x2 : Int32} {x3 : Int32} {x4 : Int32} {μ : Mem} {r : Int32} {μ' : Mem} (h : S_grooms x1 x2 x3 x4 μ = some (r, μ')) : V φ ΩA 9 d 0 [some (rf φ 0 0), some (.int x1), some (.int x2), some (.int x3), some (.int x4), none, none, none, none] [] μ (some (.int r), μ') := by
  unfold S_grooms at h
  refine V.iload_n F dX9_grooms_0 rfl rfl ?_
  obtain ⟨r2, e1, h⟩ := nm_out h
  refine V.callSi (As := [.int x1]) F ck_RX9_276 (S_isSheet_ct e1) (by omega) (by decide) rfl rfl (Nat.le_of_ble_eq_true rfl) dX9_grooms_1 ?_
  refine V.if_eq (tgt := 26) F dX9_grooms_4 (by decide) (fun c3 => ?_) (fun c3 => ?_)
  · have h := t_out h c3
    refine V.bipush (v := (-2)) F dX9_grooms_26 (by decide) ?_
    obtain ⟨rfl, rfl⟩ := r2_out h
    exact V.iret F dX9_grooms_28
  · have h := f_out h c3
    refine V.iload_n F dX9_grooms_7 rfl rfl ?_
    obtain ⟨r5, e4, h⟩ := nm_out h
    refine V.callSi (As := [.int x2]) F ck_RX9_346 (S_isSort_ct e4) (by omega) (by decide) rfl rfl (Nat.le_of_ble_eq_true rfl) dX9_grooms_8 ?_
    refine V.if_eq (tgt := 26) F dX9_grooms_11 (by decide) (fun c6 => ?_) (fun c6 => ?_)
    · have h := t_out h c6
      refine V.bipush (v := (-2)) F dX9_grooms_26 (by decide) ?_
      obtain ⟨rfl, rfl⟩ := r2_out h
      exact V.iret F dX9_grooms_28
    · have h := f_out h c6
      refine V.iload F dX9_grooms_14 rfl ?_
      refine V.if_lt (tgt := 26) F dX9_grooms_16 (by decide) (fun c7 => ?_) (fun c7 => ?_)
      · have h := t_out h c7
        refine V.bipush (v := (-2)) F dX9_grooms_26 (by decide) ?_
        obtain ⟨rfl, rfl⟩ := r2_out h
        exact V.iret F dX9_grooms_28
      · have h := f_out h c7
        refine V.iload F dX9_grooms_19 rfl ?_
        refine V.bipush (v := 6) F dX9_grooms_21 (by decide) ?_
        refine V.icmp_le (tgt := 29) F dX9_grooms_23 (by decide) (fun c8 => ?_) (fun c8 => ?_)
        · have h := f_out h c8
          refine V.rload_n F dX9_grooms_29 rfl rfl ?_
          refine gf_RX9_42 F dX9_grooms_30 ?_
          refine V.iload_n F dX9_grooms_33 rfl rfl ?_
          obtain ⟨c9, h⟩ := chk_out h
          refine V.aald (t0 := 4) (n := 4) 16 (ix x1) F mA15 rfl rfl c9 rfl dX9_grooms_34 ?_
          refine V.rstore (L' := [some (rf φ 0 0), some (.int x1), some (.int x2), some (.int x3), some (.int x4), some (rf φ 16 (ix x1)), none, none, none]) F dX9_grooms_35 (by decide) rfl rfl ?_
          refine V.rload F dX9_grooms_37 rfl ?_
          obtain ⟨r11, e10, h⟩ := nm_out h
          refine V.callVi (f := 16) (i := ix x1) (As := []) F ck_RX9_279 (Sh_isMissing_ct (inb_lt c9) e10) (by omega) (by decide) rfl (mA16 (inb_lt c9)) rfl rfl rfl (Nat.le_of_ble_eq_true rfl) dX9_grooms_39 ?_
          refine V.if_eq (tgt := 48) F dX9_grooms_42 (by decide) (fun c12 => ?_) (fun c12 => ?_)
          · have h := t_out h c12
            refine V.rload F dX9_grooms_48 rfl ?_
            refine gf_RX9_349 (inb_lt c9) F dX9_grooms_50 ?_
            refine V.iload_n F dX9_grooms_53 rfl rfl ?_
            refine V.icmp_eq (tgt := 60) F dX9_grooms_54 (by decide) (fun c13 => ?_) (fun c13 => ?_)
            · have h := t_out h c13
              refine V.iconst (v := 0) F dX9_grooms_60 (by decide) ?_
              refine V.istore (L' := [some (rf φ 0 0), some (.int x1), some (.int x2), some (.int x3), some (.int x4), some (rf φ 16 (ix x1)), some (.int 0), none, none]) F dX9_grooms_61 (by decide) rfl rfl rfl ?_
              refine V.iconst (v := 0) F dX9_grooms_63 (by decide) ?_
              refine V.istore (L' := [some (rf φ 0 0), some (.int x1), some (.int x2), some (.int x3), some (.int x4), some (rf φ 16 (ix x1)), some (.int 0), some (.int 0), none]) F dX9_grooms_64 (by decide) rfl rfl rfl ?_
              refine V.msk (L' := [some (rf φ 0 0), none, none, some (.int x3), some (.int x4), some (rf φ 16 (ix x1)), some (.int 0), some (.int 0), none]) [true, false, false, true, true, true, true, true, false] rfl ?_
              exact S_grooms_66L_ok F hd 1000 _ _ _ _ _ (inb_lt c9) _ _ _ h
            · have h := f_out h c13
              refine V.bipush (v := (-13)) F dX9_grooms_57 (by decide) ?_
              obtain ⟨rfl, rfl⟩ := r2_out h
              exact V.iret F dX9_grooms_59
          · have h := f_out h c12
            refine V.bipush (v := (-11)) F dX9_grooms_45 (by decide) ?_
            obtain ⟨rfl, rfl⟩ := r2_out h
            exact V.iret F dX9_grooms_47
        · have h := t_out h c8
          refine V.bipush (v := (-2)) F dX9_grooms_26 (by decide) ?_
          obtain ⟨rfl, rfl⟩ := r2_out h
          exact V.iret F dX9_grooms_28
set_option maxHeartbeats 4000000 in
set_option maxRecDepth 100000 in
theorem S_grooms_ct {l : Launch} {G : Glo} {x1 : Int32} {x2 : Int32} {x3 : Int32} {x4 : Int32} {μ : Mem} {r : Int32} {μ' : Mem} (h : S_grooms x1 x2 x3 x4 μ = some (r, μ')) : Ct l ΩA G 3 yX9_grooms cX9_grooms 9 (some .int) [.ref (G.1 0 0), .int x1, .int x2, .int x3, .int x4] μ (some (.int r), μ') := by
  refine Ct.intro (by decide) (Nat.le_of_ble_eq_true rfl) ?_
  intro φ hl hG F
  subst hl; subst hG
  exact S_grooms_ok F (Nat.le_refl _) h
def S_isUnder_4 (k4 : Int32 → Int32 → Int32 → Mem → Option Int32) (x1 : Int32) (x2 : Int32) (x3 : Int32) (μ : Mem) : Option Int32 :=
  if x3 < 6 then (
    nm (S_isKind x2) fun r3 =>
    if r3 = 0 then (
      some 0)
    else (
      if x2 = x1 then (
        some 1)
      else (
        chk (inb x2 6) <|
        nm (underT (ix x2)) fun a7 =>
        nm (x3 + 1) fun a8 =>
        k4 x1 a7 a8 μ)))
  else (
    some 0)
set_option maxHeartbeats 4000000 in
set_option maxRecDepth 100000 in
theorem S_isUnder_4_ok {φ : Fr} {d : Nat} (F : Fx φ ΩA cX9_isUnder RX9 4 (some .boolean)) (hd : 2 ≤ d) {k4 : Int32 → Int32 → Int32 → Mem → Option Int32} (hk4 : ∀ (x1 : Int32) (x2 : Int32) (x3 : Int32) (μ : Mem) (r : Int32), k4 x1 x2 x3 μ = some r → V φ ΩA 4 d 4 [none, some (.int x1), some (.int x2), some (.int x3)] [] μ (some (.int r), μ)) {x1 : Int32} {x2 : Int32} {x3 : Int32} {μ : Mem} {r : Int32} (h : S_isUnder_4 k4 x1 x2 x3 μ = some r) : V φ ΩA 4 d 4 [none, some (.int x1), some (.int x2), some (.int x3)] [] μ (some (.int r), μ) := by
  unfold S_isUnder_4 at h
  refine V.iload_n F dX9_isUnder_4 rfl rfl ?_
  refine V.bipush (v := 6) F dX9_isUnder_5 (by decide) ?_
  refine V.icmp_ge (tgt := 36) F dX9_isUnder_7 (by decide) (fun c1 => ?_) (fun c1 => ?_)
  · have h := f_out h c1
    refine V.iconst (v := 0) F dX9_isUnder_36 (by decide) ?_
    obtain rfl := r1_out h
    exact V.zret F (by decide) dX9_isUnder_37
  · have h := t_out h c1
    refine V.iload_n F dX9_isUnder_10 rfl rfl ?_
    obtain ⟨r3, e2, h⟩ := nm_out h
    refine V.callSi (As := [.int x2]) F ck_RX9_127 (S_isKind_ct e2) (by omega) (by decide) rfl rfl (Nat.le_of_ble_eq_true rfl) dX9_isUnder_11 ?_
    refine V.if_eq (tgt := 36) F dX9_isUnder_14 (by decide) (fun c4 => ?_) (fun c4 => ?_)
    · have h := t_out h c4
      refine V.iconst (v := 0) F dX9_isUnder_36 (by decide) ?_
      obtain rfl := r1_out h
      exact V.zret F (by decide) dX9_isUnder_37
    · have h := f_out h c4
      refine V.iload_n F dX9_isUnder_17 rfl rfl ?_
      refine V.iload_n F dX9_isUnder_18 rfl rfl ?_
      refine V.icmp_ne (tgt := 24) F dX9_isUnder_19 (by decide) (fun c5 => ?_) (fun c5 => ?_)
      · have h := f_out h c5
        refine V.under F fl_RX9_367 dX9_isUnder_24 ?_
        refine V.iload_n F dX9_isUnder_27 rfl rfl ?_
        obtain ⟨c6, h⟩ := chk_out h
        refine V.underAt F c6 dX9_isUnder_28 ?_
        obtain ⟨a7, ea7, h⟩ := nm_out h
        refine V.istore_n (L' := [none, some (.int x1), some (.int a7), some (.int x3)]) F dX9_isUnder_29 rfl (by decide) rfl ea7 rfl ?_
        obtain ⟨a8, ea8, h⟩ := nm_out h
        refine V.iinc (z := 1) (L' := [none, some (.int x1), some (.int a7), some (.int a8)]) F dX9_isUnder_30 rfl (by decide) ea8 (by decide) rfl rfl ?_
        refine V.goto (tgt := 4) F dX9_isUnder_33 (by decide) ?_
        exact hk4 _ _ _ _ _ h
      · have h := t_out h c5
        refine V.iconst (v := 1) F dX9_isUnder_22 (by decide) ?_
        obtain rfl := r1_out h
        exact V.zret F (by decide) dX9_isUnder_23
def S_isUnder_4L : Nat → Int32 → Int32 → Int32 → Mem → Option Int32
  | 0 => fun _ _ _ _ => none
  | n + 1 => S_isUnder_4 (S_isUnder_4L n)
set_option maxHeartbeats 4000000 in
set_option maxRecDepth 100000 in
theorem S_isUnder_4L_ok {φ : Fr} {d : Nat} (F : Fx φ ΩA cX9_isUnder RX9 4 (some .boolean)) (hd : 2 ≤ d) : ∀ (n : Nat) (x1 : Int32) (x2 : Int32) (x3 : Int32) (μ : Mem) (r : Int32), S_isUnder_4L n x1 x2 x3 μ = some r → V φ ΩA 4 d 4 [none, some (.int x1), some (.int x2), some (.int x3)] [] μ (some (.int r), μ) := by
  intro n
  induction n with
  | zero => intro x1 x2 x3 μ r h; cases h
  | succ n ih => intro x1 x2 x3 μ r h; exact S_isUnder_4_ok F hd ih h
def S_isUnder (x0 : Int32) (x1 : Int32) (μ : Mem) : Option Int32 :=
  S_isUnder_4L 1000 x1 x0 0 μ
set_option maxHeartbeats 4000000 in
set_option maxRecDepth 100000 in
theorem S_isUnder_ok {φ : Fr} {d : Nat} (F : Fx φ ΩA cX9_isUnder RX9 4 (some .boolean)) (hd : 2 ≤ d) {x0 : Int32} {x1 : Int32} {μ : Mem} {r : Int32} (h : S_isUnder x0 x1 μ = some r) : V φ ΩA 4 d 0 [some (.int x0), some (.int x1), none, none] [] μ (some (.int r), μ) := by
  unfold S_isUnder at h
  refine V.iload_n F dX9_isUnder_0 rfl rfl ?_
  refine V.istore_n (L' := [some (.int x0), some (.int x1), some (.int x0), none]) F dX9_isUnder_1 rfl (by decide) rfl rfl rfl ?_
  refine V.iconst (v := 0) F dX9_isUnder_2 (by decide) ?_
  refine V.istore_n (L' := [some (.int x0), some (.int x1), some (.int x0), some (.int 0)]) F dX9_isUnder_3 rfl (by decide) rfl rfl rfl ?_
  refine V.msk (L' := [none, some (.int x1), some (.int x0), some (.int 0)]) [false, true, true, true] rfl ?_
  exact S_isUnder_4L_ok F hd 1000 _ _ _ _ _ h
set_option maxHeartbeats 4000000 in
set_option maxRecDepth 100000 in
theorem S_isUnder_ct {l : Launch} {G : Glo} {x0 : Int32} {x1 : Int32} {μ : Mem} {r : Int32} (h : S_isUnder x0 x1 μ = some r) : Ct l ΩA G 2 yX9_isUnder cX9_isUnder 4 (some .boolean) [.int x0, .int x1] μ (some (.int r), μ) := by
  refine Ct.intro (by decide) (Nat.le_of_ble_eq_true rfl) ?_
  intro φ hl hG F
  subst hl; subst hG
  exact S_isUnder_ok F (Nat.le_refl _) h
def S_taken (x1 : Int32) (x2 : Int32) (μ : Mem) : Option Int32 :=
  nm (S_isKind x2) fun r2 =>
  if r2 = 0 then (
    some (-2))
  else (
    nm (S_isGroom x1 μ) fun r5 =>
    if r5 = 0 then (
      some (-11))
    else (
      chk (inb x1 6) <|
      bnd (S_isUnder (rd μ 2 (ix x1) 0) x2 μ) fun r9 =>
      if r9 = 0 then (
        some (-13))
      else (
        chk (inb x1 6) <|
        some (rd μ 2 (ix x1) 1))))
set_option maxHeartbeats 4000000 in
set_option maxRecDepth 100000 in
theorem S_taken_ok {φ : Fr} {d : Nat} (F : Fx φ ΩA cX9_taken RX9 3 (some .int)) (hd : 3 ≤ d) {x1 : Int32} {x2 : Int32} {μ : Mem} {r : Int32} (h : S_taken x1 x2 μ = some r) : V φ ΩA 3 d 0 [some (rf φ 0 0), some (.int x1), some (.int x2)] [] μ (some (.int r), μ) := by
  unfold S_taken at h
  refine V.iload_n F dX9_taken_0 rfl rfl ?_
  obtain ⟨r2, e1, h⟩ := nm_out h
  refine V.callSi (As := [.int x2]) F ck_RX9_127 (S_isKind_ct e1) (by omega) (by decide) rfl rfl (Nat.le_of_ble_eq_true rfl) dX9_taken_1 ?_
  refine V.if_ne (tgt := 10) F dX9_taken_4 (by decide) (fun c3 => ?_) (fun c3 => ?_)
  · have h := f_out h c3
    refine V.rload_n F dX9_taken_10 rfl rfl ?_
    refine V.iload_n F dX9_taken_11 rfl rfl ?_
    obtain ⟨r5, e4, h⟩ := nm_out h
    refine V.callVi (f := 0) (i := 0) (As := [.int x1]) F ck_RX9_140 (S_isGroom_ct e4) (by omega) (by decide) rfl mA0 rfl rfl rfl (Nat.le_of_ble_eq_true rfl) dX9_taken_12 ?_
    refine V.if_ne (tgt := 21) F dX9_taken_15 (by decide) (fun c6 => ?_) (fun c6 => ?_)
    · have h := f_out h c6
      refine V.rload_n F dX9_taken_21 rfl rfl ?_
      refine gf_RX9_10 F dX9_taken_22 ?_
      refine gf_RX9_112 (by decide) F dX9_taken_25 ?_
      refine V.iload_n F dX9_taken_28 rfl rfl ?_
      obtain ⟨c7, h⟩ := chk_out h
      refine V.aald (t0 := 2) (n := 6) 2 (ix x1) F (mA3 (by decide)) rfl rfl c7 rfl dX9_taken_29 ?_
      refine gf_RX9_134 (Nat.lt_of_lt_of_le (inb_lt c7) (by decide)) F dX9_taken_30 ?_
      refine V.iload_n F dX9_taken_33 rfl rfl ?_
      obtain ⟨r9, e8, h⟩ := bnd_out h
      refine V.callSi (As := [.int (rd μ 2 (ix x1) 0), .int x2]) F ck_RX9_364 (S_isUnder_ct e8) (by omega) (by decide) rfl rfl (Nat.le_of_ble_eq_true rfl) dX9_taken_34 ?_
      refine V.if_eq (tgt := 55) F dX9_taken_37 (by decide) (fun c10 => ?_) (fun c10 => ?_)
      · have h := t_out h c10
        refine V.bipush (v := (-13)) F dX9_taken_55 (by decide) ?_
        obtain rfl := r1_out h
        exact V.iret F dX9_taken_57
      · have h := f_out h c10
        refine V.rload_n F dX9_taken_40 rfl rfl ?_
        refine gf_RX9_10 F dX9_taken_41 ?_
        refine gf_RX9_112 (by decide) F dX9_taken_44 ?_
        refine V.iload_n F dX9_taken_47 rfl rfl ?_
        obtain ⟨c11, h⟩ := chk_out h
        refine V.aald (t0 := 2) (n := 6) 2 (ix x1) F (mA3 (by decide)) rfl rfl c11 rfl dX9_taken_48 ?_
        refine gf_RX9_116 (Nat.lt_of_lt_of_le (inb_lt c11) (by decide)) F dX9_taken_49 ?_
        refine V.goto (tgt := 57) F dX9_taken_52 (by decide) ?_
        obtain rfl := r1_out h
        exact V.iret F dX9_taken_57
    · have h := t_out h c6
      refine V.bipush (v := (-11)) F dX9_taken_18 (by decide) ?_
      obtain rfl := r1_out h
      exact V.iret F dX9_taken_20
  · have h := t_out h c3
    refine V.bipush (v := (-2)) F dX9_taken_7 (by decide) ?_
    obtain rfl := r1_out h
    exact V.iret F dX9_taken_9
set_option maxHeartbeats 4000000 in
set_option maxRecDepth 100000 in
theorem S_taken_ct {l : Launch} {G : Glo} {x1 : Int32} {x2 : Int32} {μ : Mem} {r : Int32} (h : S_taken x1 x2 μ = some r) : Ct l ΩA G 3 yX9_taken cX9_taken 3 (some .int) [.ref (G.1 0 0), .int x1, .int x2] μ (some (.int r), μ) := by
  refine Ct.intro (by decide) (Nat.le_of_ble_eq_true rfl) ?_
  intro φ hl hG F
  subst hl; subst hG
  exact S_taken_ok F (Nat.le_refl _) h
def M_in (w0 : Int64) (w2 : Int64) (w4 : Int64) : Int32 :=
  if (lg_cmp w0 w2) < 0 then (
    0)
  else (
    if 0 < (lg_cmp w0 w4) then (
      0)
    else (
      1))
set_option maxHeartbeats 4000000 in
set_option maxRecDepth 100000 in
theorem M_in_ok {φ : Fr} {d : Nat} (F : Fx φ ΩB cX10_in RX10 6 (some .boolean)) (hd : 1 ≤ d) {w0 : Int64} {w2 : Int64} {w4 : Int64} {μ : Mem} {r : Int32} (h : M_in w0 w2 w4 = r) : V φ ΩB 6 d 0 [some (.long w0), none, some (.long w2), none, some (.long w4), none] [] μ (some (.int r), μ) := by
  unfold M_in at h
  refine V.lload_n F dX10_in_0 rfl rfl ?_
  refine V.lload_n F dX10_in_1 rfl rfl ?_
  refine V.lcmp F dX10_in_2 ?_
  refine V.if_lt (tgt := 17) F dX10_in_3 (by decide) (fun c1 => ?_) (fun c1 => ?_)
  · have h := t_out h c1
    refine V.iconst (v := 0) F dX10_in_17 (by decide) ?_
    obtain rfl := h
    exact V.zret F (by decide) dX10_in_18
  · have h := f_out h c1
    refine V.lload_n F dX10_in_6 rfl rfl ?_
    refine V.lload F dX10_in_7 rfl ?_
    refine V.lcmp F dX10_in_9 ?_
    refine V.if_gt (tgt := 17) F dX10_in_10 (by decide) (fun c2 => ?_) (fun c2 => ?_)
    · have h := t_out h c2
      refine V.iconst (v := 0) F dX10_in_17 (by decide) ?_
      obtain rfl := h
      exact V.zret F (by decide) dX10_in_18
    · have h := f_out h c2
      refine V.iconst (v := 1) F dX10_in_13 (by decide) ?_
      refine V.goto (tgt := 18) F dX10_in_14 (by decide) ?_
      obtain rfl := h
      exact V.zret F (by decide) dX10_in_18
set_option maxHeartbeats 4000000 in
set_option maxRecDepth 100000 in
theorem M_in_ct {l : Launch} {G : Glo} {w0 : Int64} {w2 : Int64} {w4 : Int64} {μ : Mem} {r : Int32} (h : M_in w0 w2 w4 = r) : Ct l ΩB G 1 yX10_in cX10_in 6 (some .boolean) [.long w0, .long w2, .long w4] μ (some (.int r), μ) := by
  refine Ct.intro (by decide) (Nat.le_of_ble_eq_true rfl) ?_
  intro φ hl hG F
  subst hl; subst hG
  exact M_in_ok F (Nat.le_refl _) h
def M_within (x0 : Int32) (x1 : Int32) (x2 : Int32) : Int32 :=
  if x0 < x1 then (
    x1)
  else (
    if x2 < x0 then (
      x2)
    else (
      x0))
set_option maxHeartbeats 4000000 in
set_option maxRecDepth 100000 in
theorem M_within_ok {φ : Fr} {d : Nat} (F : Fx φ ΩB cX10_within RX10 3 (some .int)) (hd : 1 ≤ d) {x0 : Int32} {x1 : Int32} {x2 : Int32} {μ : Mem} {r : Int32} (h : M_within x0 x1 x2 = r) : V φ ΩB 3 d 0 [some (.int x0), some (.int x1), some (.int x2)] [] μ (some (.int r), μ) := by
  unfold M_within at h
  refine V.iload_n F dX10_within_0 rfl rfl ?_
  refine V.iload_n F dX10_within_1 rfl rfl ?_
  refine V.icmp_ge (tgt := 9) F dX10_within_2 (by decide) (fun c1 => ?_) (fun c1 => ?_)
  · have h := f_out h c1
    refine V.iload_n F dX10_within_9 rfl rfl ?_
    refine V.iload_n F dX10_within_10 rfl rfl ?_
    refine V.icmp_le (tgt := 18) F dX10_within_11 (by decide) (fun c2 => ?_) (fun c2 => ?_)
    · have h := f_out h c2
      refine V.iload_n F dX10_within_18 rfl rfl ?_
      obtain rfl := h
      exact V.iret F dX10_within_19
    · have h := t_out h c2
      refine V.iload_n F dX10_within_14 rfl rfl ?_
      refine V.goto (tgt := 19) F dX10_within_15 (by decide) ?_
      obtain rfl := h
      exact V.iret F dX10_within_19
  · have h := t_out h c1
    refine V.iload_n F dX10_within_5 rfl rfl ?_
    refine V.goto (tgt := 19) F dX10_within_6 (by decide) ?_
    obtain rfl := h
    exact V.iret F dX10_within_19
set_option maxHeartbeats 4000000 in
set_option maxRecDepth 100000 in
theorem M_within_ct {l : Launch} {G : Glo} {x0 : Int32} {x1 : Int32} {x2 : Int32} {μ : Mem} {r : Int32} (h : M_within x0 x1 x2 = r) : Ct l ΩB G 1 yX10_within cX10_within 3 (some .int) [.int x0, .int x1, .int x2] μ (some (.int r), μ) := by
  refine Ct.intro (by decide) (Nat.le_of_ble_eq_true rfl) ?_
  intro φ hl hG F
  subst hl; subst hG
  exact M_within_ok F (Nat.le_refl _) h
def M_spell (x1 : Int32) (x2 : Int32) (x3 : Int32) (x4 : Int32) (x5 : Int32) (x6 : Int32) (x7 : Int32) (x8 : Int32) (x9 : Int32) (μ : Mem) : Option Mem :=
  chk (inb x1 960) <|
  nm (up μ 1 0 (ix x1) x2) fun μ2 =>
  chk (inb (x1 + 1) 960) <|
  nm (up μ2 1 0 (ix (x1 + 1)) x3) fun μ4 =>
  chk (inb (x1 + 2) 960) <|
  nm (up μ4 1 0 (ix (x1 + 2)) x4) fun μ6 =>
  chk (inb (x1 + 3) 960) <|
  nm (up μ6 1 0 (ix (x1 + 3)) x5) fun μ8 =>
  chk (inb (x1 + 4) 960) <|
  nm (up μ8 1 0 (ix (x1 + 4)) x6) fun μ10 =>
  chk (inb (x1 + 5) 960) <|
  nm (up μ10 1 0 (ix (x1 + 5)) x7) fun μ12 =>
  chk (inb (x1 + 6) 960) <|
  nm (up μ12 1 0 (ix (x1 + 6)) x8) fun μ14 =>
  chk (inb (x1 + 7) 960) <|
  nm (up μ14 1 0 (ix (x1 + 7)) x9) fun μ16 =>
  some μ16
set_option maxHeartbeats 4000000 in
set_option maxRecDepth 100000 in
theorem M_spell_ok {φ : Fr} {d : Nat} (F : Fx φ ΩB cX10_spell RX10 10 (none)) (hd : 1 ≤ d) {x1 : Int32} {x2 : Int32} {x3 : Int32} {x4 : Int32} {x5 : Int32} {x6 : Int32} {x7 : Int32} {x8 : Int32} {x9 : Int32} {μ : Mem}  {μ' : Mem} (h : M_spell x1 x2 x3 x4 x5 x6 x7 x8 x9 μ = some μ') : V φ ΩB 10 d 0 [some (rf φ 0 0), some (.int x1), some (.int x2), some (.int x3), some (.int x4), some (.int x5), some (.int x6), some (.int x7), some (.int x8), some (.int x9)] [] μ (none, μ') := by
  unfold M_spell at h
  refine V.rload_n F dX10_spell_0 rfl rfl ?_
  refine gf_RX10_13 F dX10_spell_1 ?_
  refine V.iload_n F dX10_spell_4 rfl rfl ?_
  refine V.iload_n F dX10_spell_5 rfl rfl ?_
  obtain ⟨c1, h⟩ := chk_out h
  obtain ⟨μ2, eμ2, h⟩ := nm_out h
  refine V.iast (t0 := 0) (n := 960) F mB1 (fun _ => rfl) rfl c1 eμ2 dX10_spell_6 ?_
  refine V.rload_n F dX10_spell_7 rfl rfl ?_
  refine gf_RX10_13 F dX10_spell_8 ?_
  refine V.iload_n F dX10_spell_11 rfl rfl ?_
  refine V.iconst (v := 1) F dX10_spell_12 (by decide) ?_
  refine V.iadd F dX10_spell_13 ?_
  refine V.iload_n F dX10_spell_14 rfl rfl ?_
  obtain ⟨c3, h⟩ := chk_out h
  obtain ⟨μ4, eμ4, h⟩ := nm_out h
  refine V.iast (t0 := 0) (n := 960) F mB1 (fun _ => rfl) rfl c3 eμ4 dX10_spell_15 ?_
  refine V.rload_n F dX10_spell_16 rfl rfl ?_
  refine gf_RX10_13 F dX10_spell_17 ?_
  refine V.iload_n F dX10_spell_20 rfl rfl ?_
  refine V.iconst (v := 2) F dX10_spell_21 (by decide) ?_
  refine V.iadd F dX10_spell_22 ?_
  refine V.iload F dX10_spell_23 rfl ?_
  obtain ⟨c5, h⟩ := chk_out h
  obtain ⟨μ6, eμ6, h⟩ := nm_out h
  refine V.iast (t0 := 0) (n := 960) F mB1 (fun _ => rfl) rfl c5 eμ6 dX10_spell_25 ?_
  refine V.rload_n F dX10_spell_26 rfl rfl ?_
  refine gf_RX10_13 F dX10_spell_27 ?_
  refine V.iload_n F dX10_spell_30 rfl rfl ?_
  refine V.iconst (v := 3) F dX10_spell_31 (by decide) ?_
  refine V.iadd F dX10_spell_32 ?_
  refine V.iload F dX10_spell_33 rfl ?_
  obtain ⟨c7, h⟩ := chk_out h
  obtain ⟨μ8, eμ8, h⟩ := nm_out h
  refine V.iast (t0 := 0) (n := 960) F mB1 (fun _ => rfl) rfl c7 eμ8 dX10_spell_35 ?_
  refine V.rload_n F dX10_spell_36 rfl rfl ?_
  refine gf_RX10_13 F dX10_spell_37 ?_
  refine V.iload_n F dX10_spell_40 rfl rfl ?_
  refine V.iconst (v := 4) F dX10_spell_41 (by decide) ?_
  refine V.iadd F dX10_spell_42 ?_
  refine V.iload F dX10_spell_43 rfl ?_
  obtain ⟨c9, h⟩ := chk_out h
  obtain ⟨μ10, eμ10, h⟩ := nm_out h
  refine V.iast (t0 := 0) (n := 960) F mB1 (fun _ => rfl) rfl c9 eμ10 dX10_spell_45 ?_
  refine V.rload_n F dX10_spell_46 rfl rfl ?_
  refine gf_RX10_13 F dX10_spell_47 ?_
  refine V.iload_n F dX10_spell_50 rfl rfl ?_
  refine V.iconst (v := 5) F dX10_spell_51 (by decide) ?_
  refine V.iadd F dX10_spell_52 ?_
  refine V.iload F dX10_spell_53 rfl ?_
  obtain ⟨c11, h⟩ := chk_out h
  obtain ⟨μ12, eμ12, h⟩ := nm_out h
  refine V.iast (t0 := 0) (n := 960) F mB1 (fun _ => rfl) rfl c11 eμ12 dX10_spell_55 ?_
  refine V.rload_n F dX10_spell_56 rfl rfl ?_
  refine gf_RX10_13 F dX10_spell_57 ?_
  refine V.iload_n F dX10_spell_60 rfl rfl ?_
  refine V.bipush (v := 6) F dX10_spell_61 (by decide) ?_
  refine V.iadd F dX10_spell_63 ?_
  refine V.iload F dX10_spell_64 rfl ?_
  obtain ⟨c13, h⟩ := chk_out h
  obtain ⟨μ14, eμ14, h⟩ := nm_out h
  refine V.iast (t0 := 0) (n := 960) F mB1 (fun _ => rfl) rfl c13 eμ14 dX10_spell_66 ?_
  refine V.rload_n F dX10_spell_67 rfl rfl ?_
  refine gf_RX10_13 F dX10_spell_68 ?_
  refine V.iload_n F dX10_spell_71 rfl rfl ?_
  refine V.bipush (v := 7) F dX10_spell_72 (by decide) ?_
  refine V.iadd F dX10_spell_74 ?_
  refine V.iload F dX10_spell_75 rfl ?_
  obtain ⟨c15, h⟩ := chk_out h
  obtain ⟨μ16, eμ16, h⟩ := nm_out h
  refine V.iast (t0 := 0) (n := 960) F mB1 (fun _ => rfl) rfl c15 eμ16 dX10_spell_77 ?_
  obtain rfl := r1_out h
  exact V.vret F dX10_spell_78
set_option maxHeartbeats 4000000 in
set_option maxRecDepth 100000 in
theorem M_spell_ct {l : Launch} {G : Glo} {x1 : Int32} {x2 : Int32} {x3 : Int32} {x4 : Int32} {x5 : Int32} {x6 : Int32} {x7 : Int32} {x8 : Int32} {x9 : Int32} {μ : Mem}  {μ' : Mem} (h : M_spell x1 x2 x3 x4 x5 x6 x7 x8 x9 μ = some μ') : Ct l ΩB G 1 yX10_spell cX10_spell 10 (none) [.ref (G.1 0 0), .int x1, .int x2, .int x3, .int x4, .int x5, .int x6, .int x7, .int x8, .int x9] μ (none, μ') := by
  refine Ct.intro (by decide) (Nat.le_of_ble_eq_true rfl) ?_
  intro φ hl hG F
  subst hl; subst hG
  exact M_spell_ok F (Nat.le_refl _) h
def M_isOne (x1 : Int32) (μ : Mem) : Option Int32 :=
  nm (M_in (Int32.toInt64 x1) 0 (Int32.toInt64 ((rd μ 0 0 12) - 1))) fun r2 =>
  chk (r2 = 0 ∨ r2 = 1) <|
  some r2
set_option maxHeartbeats 4000000 in
set_option maxRecDepth 100000 in
theorem M_isOne_ok {φ : Fr} {d : Nat} (F : Fx φ ΩB cX10_isOne RX10 2 (some .boolean)) (hd : 2 ≤ d) {x1 : Int32} {μ : Mem} {r : Int32} (h : M_isOne x1 μ = some r) : V φ ΩB 2 d 0 [some (rf φ 0 0), some (.int x1)] [] μ (some (.int r), μ) := by
  unfold M_isOne at h
  refine V.iload_n F dX10_isOne_0 rfl rfl ?_
  refine V.i2l F dX10_isOne_1 ?_
  refine V.lconst (v := 0) F dX10_isOne_2 (by decide) ?_
  refine V.rload_n F dX10_isOne_3 rfl rfl ?_
  refine gf_RX10_76 F dX10_isOne_4 ?_
  refine V.iconst (v := 1) F dX10_isOne_7 (by decide) ?_
  refine V.isub F dX10_isOne_8 ?_
  refine V.i2l F dX10_isOne_9 ?_
  obtain ⟨r2, e1, h⟩ := nm_out h
  refine V.callSi (As := [.long (Int32.toInt64 x1), .long 0, .long (Int32.toInt64 ((rd μ 0 0 12) - 1))]) F ck_RX10_79 (M_in_ct e1) (by omega) (by decide) rfl rfl (Nat.le_of_ble_eq_true rfl) dX10_isOne_10 ?_
  obtain ⟨c3, h⟩ := chk_out h
  obtain rfl := r1_out h
  exact V.zret F c3 dX10_isOne_13
set_option maxHeartbeats 4000000 in
set_option maxRecDepth 100000 in
theorem M_isOne_ct {l : Launch} {G : Glo} {x1 : Int32} {μ : Mem} {r : Int32} (h : M_isOne x1 μ = some r) : Ct l ΩB G 2 yX10_isOne cX10_isOne 2 (some .boolean) [.ref (G.1 0 0), .int x1] μ (some (.int r), μ) := by
  refine Ct.intro (by decide) (Nat.le_of_ble_eq_true rfl) ?_
  intro φ hl hG F
  subst hl; subst hG
  exact M_isOne_ok F (Nat.le_refl _) h
def M_mostOf (x0 : Int32) : Int32 :=
  if x0 = 0 then (
    999)
  else (
    if x0 = 2 then (
      9)
    else (
      if x0 = 3 then (
        15)
      else (
        99)))
set_option maxHeartbeats 4000000 in
set_option maxRecDepth 100000 in
theorem M_mostOf_ok {φ : Fr} {d : Nat} (F : Fx φ ΩB cX10_mostOf RX10 1 (some .int)) (hd : 1 ≤ d) {x0 : Int32} {μ : Mem} {r : Int32} (h : M_mostOf x0 = r) : V φ ΩB 1 d 0 [some (.int x0)] [] μ (some (.int r), μ) := by
  unfold M_mostOf at h
  refine V.iload_n F dX10_mostOf_0 rfl rfl ?_
  refine V.if_ne (tgt := 10) F dX10_mostOf_1 (by decide) (fun c1 => ?_) (fun c1 => ?_)
  · have h := f_out h c1
    refine V.iload_n F dX10_mostOf_10 rfl rfl ?_
    refine V.iconst (v := 2) F dX10_mostOf_11 (by decide) ?_
    refine V.icmp_ne (tgt := 20) F dX10_mostOf_12 (by decide) (fun c2 => ?_) (fun c2 => ?_)
    · have h := f_out h c2
      refine V.iload_n F dX10_mostOf_20 rfl rfl ?_
      refine V.iconst (v := 3) F dX10_mostOf_21 (by decide) ?_
      refine V.icmp_ne (tgt := 30) F dX10_mostOf_22 (by decide) (fun c3 => ?_) (fun c3 => ?_)
      · have h := f_out h c3
        refine V.bipush (v := 99) F dX10_mostOf_30 (by decide) ?_
        obtain rfl := h
        exact V.iret F dX10_mostOf_32
      · have h := t_out h c3
        refine V.bipush (v := 15) F dX10_mostOf_25 (by decide) ?_
        refine V.goto (tgt := 32) F dX10_mostOf_27 (by decide) ?_
        obtain rfl := h
        exact V.iret F dX10_mostOf_32
    · have h := t_out h c2
      refine V.bipush (v := 9) F dX10_mostOf_15 (by decide) ?_
      refine V.goto (tgt := 32) F dX10_mostOf_17 (by decide) ?_
      obtain rfl := h
      exact V.iret F dX10_mostOf_32
  · have h := t_out h c1
    refine V.sipush (v := 999) F dX10_mostOf_4 (by decide) ?_
    refine V.goto (tgt := 32) F dX10_mostOf_7 (by decide) ?_
    obtain rfl := h
    exact V.iret F dX10_mostOf_32
set_option maxHeartbeats 4000000 in
set_option maxRecDepth 100000 in
theorem M_mostOf_ct {l : Launch} {G : Glo} {x0 : Int32} {μ : Mem} {r : Int32} (h : M_mostOf x0 = r) : Ct l ΩB G 1 yX10_mostOf cX10_mostOf 1 (some .int) [.int x0] μ (some (.int r), μ) := by
  refine Ct.intro (by decide) (Nat.le_of_ble_eq_true rfl) ?_
  intro φ hl hG F
  subst hl; subst hG
  exact M_mostOf_ok F (Nat.le_refl _) h
def M_lays (x1 : Int32) (x2 : Int32) (x3 : Int32) (μ : Mem) : Option Mem :=
  if x1 = 0 then (
    nm (up μ 0 0 7 x3) fun μ11 =>
    some μ11)
  else (
    if x1 = 1 then (
      nm (up μ 0 0 8 x3) fun μ10 =>
      some μ10)
    else (
      if x1 < 5 then (
        chk (inb (((3 * x2) + x1) - 2) 18) <|
        nm (up μ 5 0 (ix (((3 * x2) + x1) - 2)) x3) fun μ9 =>
        some μ9)
      else (
        if x1 = 5 then (
          chk (inb x2 6) <|
          nm (up μ 4 0 (ix x2) x3) fun μ7 =>
          some μ7)
        else (
          nm (up μ 0 0 4 x3) fun μ5 =>
          some μ5))))
set_option maxHeartbeats 4000000 in
set_option maxRecDepth 100000 in
theorem M_lays_ok {φ : Fr} {d : Nat} (F : Fx φ ΩB cX10_lays RX10 4 (none)) (hd : 1 ≤ d) {x1 : Int32} {x2 : Int32} {x3 : Int32} {μ : Mem}  {μ' : Mem} (h : M_lays x1 x2 x3 μ = some μ') : V φ ΩB 4 d 0 [some (rf φ 0 0), some (.int x1), some (.int x2), some (.int x3)] [] μ (none, μ') := by
  unfold M_lays at h
  refine V.iload_n F dX10_lays_0 rfl rfl ?_
  refine V.if_ne (tgt := 12) F dX10_lays_1 (by decide) (fun c1 => ?_) (fun c1 => ?_)
  · have h := f_out h c1
    refine V.iload_n F dX10_lays_12 rfl rfl ?_
    refine V.iconst (v := 1) F dX10_lays_13 (by decide) ?_
    refine V.icmp_ne (tgt := 25) F dX10_lays_14 (by decide) (fun c2 => ?_) (fun c2 => ?_)
    · have h := f_out h c2
      refine V.iload_n F dX10_lays_25 rfl rfl ?_
      refine V.iconst (v := 5) F dX10_lays_26 (by decide) ?_
      refine V.icmp_ge (tgt := 46) F dX10_lays_27 (by decide) (fun c3 => ?_) (fun c3 => ?_)
      · have h := f_out h c3
        refine V.iload_n F dX10_lays_46 rfl rfl ?_
        refine V.iconst (v := 5) F dX10_lays_47 (by decide) ?_
        refine V.icmp_ne (tgt := 61) F dX10_lays_48 (by decide) (fun c4 => ?_) (fun c4 => ?_)
        · have h := f_out h c4
          refine V.rload_n F dX10_lays_61 rfl rfl ?_
          refine V.iload_n F dX10_lays_62 rfl rfl ?_
          obtain ⟨μ5, eμ5, h⟩ := nm_out h
          refine pf_RX10_104 F eμ5 dX10_lays_63 ?_
          obtain rfl := r1_out h
          exact V.vret F dX10_lays_66
        · have h := t_out h c4
          refine V.rload_n F dX10_lays_51 rfl rfl ?_
          refine gf_RX10_26 F dX10_lays_52 ?_
          refine V.iload_n F dX10_lays_55 rfl rfl ?_
          refine V.iload_n F dX10_lays_56 rfl rfl ?_
          obtain ⟨c6, h⟩ := chk_out h
          obtain ⟨μ7, eμ7, h⟩ := nm_out h
          refine V.iast (t0 := 0) (n := 6) F mB4 (fun _ => rfl) rfl c6 eμ7 dX10_lays_57 ?_
          refine V.goto (tgt := 66) F dX10_lays_58 (by decide) ?_
          obtain rfl := r1_out h
          exact V.vret F dX10_lays_66
      · have h := t_out h c3
        refine V.rload_n F dX10_lays_30 rfl rfl ?_
        refine gf_RX10_29 F dX10_lays_31 ?_
        refine V.iconst (v := 3) F dX10_lays_34 (by decide) ?_
        refine V.iload_n F dX10_lays_35 rfl rfl ?_
        refine V.imul F dX10_lays_36 ?_
        refine V.iload_n F dX10_lays_37 rfl rfl ?_
        refine V.iadd F dX10_lays_38 ?_
        refine V.iconst (v := 2) F dX10_lays_39 (by decide) ?_
        refine V.isub F dX10_lays_40 ?_
        refine V.iload_n F dX10_lays_41 rfl rfl ?_
        obtain ⟨c8, h⟩ := chk_out h
        obtain ⟨μ9, eμ9, h⟩ := nm_out h
        refine V.iast (t0 := 0) (n := 18) F mB5 (fun _ => rfl) rfl c8 eμ9 dX10_lays_42 ?_
        refine V.goto (tgt := 66) F dX10_lays_43 (by decide) ?_
        obtain rfl := r1_out h
        exact V.vret F dX10_lays_66
    · have h := t_out h c2
      refine V.rload_n F dX10_lays_17 rfl rfl ?_
      refine V.iload_n F dX10_lays_18 rfl rfl ?_
      obtain ⟨μ10, eμ10, h⟩ := nm_out h
      refine pf_RX10_23 F eμ10 dX10_lays_19 ?_
      refine V.goto (tgt := 66) F dX10_lays_22 (by decide) ?_
      obtain rfl := r1_out h
      exact V.vret F dX10_lays_66
  · have h := t_out h c1
    refine V.rload_n F dX10_lays_4 rfl rfl ?_
    refine V.iload_n F dX10_lays_5 rfl rfl ?_
    obtain ⟨μ11, eμ11, h⟩ := nm_out h
    refine pf_RX10_101 F eμ11 dX10_lays_6 ?_
    refine V.goto (tgt := 66) F dX10_lays_9 (by decide) ?_
    obtain rfl := r1_out h
    exact V.vret F dX10_lays_66
set_option maxHeartbeats 4000000 in
set_option maxRecDepth 100000 in
theorem M_lays_ct {l : Launch} {G : Glo} {x1 : Int32} {x2 : Int32} {x3 : Int32} {μ : Mem}  {μ' : Mem} (h : M_lays x1 x2 x3 μ = some μ') : Ct l ΩB G 1 yX10_lays cX10_lays 4 (none) [.ref (G.1 0 0), .int x1, .int x2, .int x3] μ (none, μ') := by
  refine Ct.intro (by decide) (Nat.le_of_ble_eq_true rfl) ?_
  intro φ hl hG F
  subst hl; subst hG
  exact M_lays_ok F (Nat.le_refl _) h
def M_fail (μ : Mem) : Mem :=
  if (rd μ 0 0 26) = 0 then (
    nm (up μ 0 0 26 1) fun μ2 =>
    nm (up μ2 0 0 27 (rd μ2 0 0 23)) fun μ3 =>
    μ3)
  else (
    μ)
set_option maxHeartbeats 4000000 in
set_option maxRecDepth 100000 in
theorem M_fail_ok {φ : Fr} {d : Nat} (F : Fx φ ΩB cX10_fail RX10 1 (none)) (hd : 1 ≤ d) {μ : Mem}  {μ' : Mem} (h : M_fail μ = μ') : V φ ΩB 1 d 0 [some (rf φ 0 0)] [] μ (none, μ') := by
  unfold M_fail at h
  refine V.rload_n F dX10_fail_0 rfl rfl ?_
  refine gf_RX10_167 F dX10_fail_1 ?_
  refine V.if_ne (tgt := 20) F dX10_fail_4 (by decide) (fun c1 => ?_) (fun c1 => ?_)
  · have h := f_out h c1
    obtain rfl := h
    exact V.vret F dX10_fail_20
  · have h := t_out h c1
    refine V.rload_n F dX10_fail_7 rfl rfl ?_
    refine V.iconst (v := 1) F dX10_fail_8 (by decide) ?_
    obtain ⟨μ2, eμ2, h⟩ := nm_out h
    refine pf_RX10_167 (by decide) F eμ2 dX10_fail_9 ?_
    refine V.rload_n F dX10_fail_12 rfl rfl ?_
    refine V.rload_n F dX10_fail_13 rfl rfl ?_
    refine gf_RX10_149 F dX10_fail_14 ?_
    obtain ⟨μ3, eμ3, h⟩ := nm_out h
    refine pf_RX10_171 F eμ3 dX10_fail_17 ?_
    obtain rfl := h
    exact V.vret F dX10_fail_20
set_option maxHeartbeats 4000000 in
set_option maxRecDepth 100000 in
theorem M_fail_ct {l : Launch} {G : Glo} {μ : Mem}  {μ' : Mem} (h : M_fail μ = μ') : Ct l ΩB G 1 yX10_fail cX10_fail 1 (none) [.ref (G.1 0 0)] μ (none, μ') := by
  refine Ct.intro (by decide) (Nat.le_of_ble_eq_true rfl) ?_
  intro φ hl hG F
  subst hl; subst hG
  exact M_fail_ok F (Nat.le_refl _) h
def M_byteAt (x1 : Int32) (μ : Mem) : Option Int32 :=
  if x1 < (rd μ 0 0 20) then (
    chk (inb ((rd μ 0 0 19) + x1) 960) <|
    some (rd μ 1 0 (ix ((rd μ 0 0 19) + x1))))
  else (
    some (-1))
set_option maxHeartbeats 4000000 in
set_option maxRecDepth 100000 in
theorem M_byteAt_ok {φ : Fr} {d : Nat} (F : Fx φ ΩB cX10_byteAt RX10 2 (some .int)) (hd : 1 ≤ d) {x1 : Int32} {μ : Mem} {r : Int32} (h : M_byteAt x1 μ = some r) : V φ ΩB 2 d 0 [some (rf φ 0 0), some (.int x1)] [] μ (some (.int r), μ) := by
  unfold M_byteAt at h
  refine V.iload_n F dX10_byteAt_0 rfl rfl ?_
  refine V.rload_n F dX10_byteAt_1 rfl rfl ?_
  refine gf_RX10_137 F dX10_byteAt_2 ?_
  refine V.icmp_ge (tgt := 22) F dX10_byteAt_5 (by decide) (fun c1 => ?_) (fun c1 => ?_)
  · have h := f_out h c1
    refine V.iconst (v := (-1)) F dX10_byteAt_22 (by decide) ?_
    obtain rfl := r1_out h
    exact V.iret F dX10_byteAt_23
  · have h := t_out h c1
    refine V.rload_n F dX10_byteAt_8 rfl rfl ?_
    refine gf_RX10_13 F dX10_byteAt_9 ?_
    refine V.rload_n F dX10_byteAt_12 rfl rfl ?_
    refine gf_RX10_140 F dX10_byteAt_13 ?_
    refine V.iload_n F dX10_byteAt_16 rfl rfl ?_
    refine V.iadd F dX10_byteAt_17 ?_
    obtain ⟨c2, h⟩ := chk_out h
    refine V.iald (t0 := 0) (n := 960) F mB1 rfl rfl c2 dX10_byteAt_18 ?_
    refine V.goto (tgt := 23) F dX10_byteAt_19 (by decide) ?_
    obtain rfl := r1_out h
    exact V.iret F dX10_byteAt_23
set_option maxHeartbeats 4000000 in
set_option maxRecDepth 100000 in
theorem M_byteAt_ct {l : Launch} {G : Glo} {x1 : Int32} {μ : Mem} {r : Int32} (h : M_byteAt x1 μ = some r) : Ct l ΩB G 1 yX10_byteAt cX10_byteAt 2 (some .int) [.ref (G.1 0 0), .int x1] μ (some (.int r), μ) := by
  refine Ct.intro (by decide) (Nat.le_of_ble_eq_true rfl) ?_
  intro φ hl hG F
  subst hl; subst hG
  exact M_byteAt_ok F (Nat.le_refl _) h
def M_isLetter (x1 : Int32) (x2 : Int32) (μ : Mem) : Option Int32 :=
  if ((rd μ 0 0 23) + x1) < (rd μ 0 0 21) then (
    bnd (M_byteAt ((rd μ 0 0 23) + x1) μ) fun r4 =>
    if r4 = x2 then (
      some 1)
    else (
      some 0))
  else (
    if x2 = 0 then (
      some 1)
    else (
      some 0))
set_option maxHeartbeats 4000000 in
set_option maxRecDepth 100000 in
theorem M_isLetter_ok {φ : Fr} {d : Nat} (F : Fx φ ΩB cX10_isLetter RX10 3 (some .boolean)) (hd : 2 ≤ d) {x1 : Int32} {x2 : Int32} {μ : Mem} {r : Int32} (h : M_isLetter x1 x2 μ = some r) : V φ ΩB 3 d 0 [some (rf φ 0 0), some (.int x1), some (.int x2)] [] μ (some (.int r), μ) := by
  unfold M_isLetter at h
  refine V.rload_n F dX10_isLetter_0 rfl rfl ?_
  refine gf_RX10_149 F dX10_isLetter_1 ?_
  refine V.iload_n F dX10_isLetter_4 rfl rfl ?_
  refine V.iadd F dX10_isLetter_5 ?_
  refine V.rload_n F dX10_isLetter_6 rfl rfl ?_
  refine gf_RX10_143 F dX10_isLetter_7 ?_
  refine V.icmp_ge (tgt := 35) F dX10_isLetter_10 (by decide) (fun c1 => ?_) (fun c1 => ?_)
  · have h := f_out h c1
    refine V.iload_n F dX10_isLetter_35 rfl rfl ?_
    refine V.if_ne (tgt := 43) F dX10_isLetter_36 (by decide) (fun c2 => ?_) (fun c2 => ?_)
    · have h := f_out h c2
      refine V.iconst (v := 0) F dX10_isLetter_43 (by decide) ?_
      obtain rfl := r1_out h
      exact V.zret F (by decide) dX10_isLetter_44
    · have h := t_out h c2
      refine V.iconst (v := 1) F dX10_isLetter_39 (by decide) ?_
      refine V.goto (tgt := 44) F dX10_isLetter_40 (by decide) ?_
      obtain rfl := r1_out h
      exact V.zret F (by decide) dX10_isLetter_44
  · have h := t_out h c1
    refine V.rload_n F dX10_isLetter_13 rfl rfl ?_
    refine V.rload_n F dX10_isLetter_14 rfl rfl ?_
    refine gf_RX10_149 F dX10_isLetter_15 ?_
    refine V.iload_n F dX10_isLetter_18 rfl rfl ?_
    refine V.iadd F dX10_isLetter_19 ?_
    obtain ⟨r4, e3, h⟩ := bnd_out h
    refine V.callVi (f := 0) (i := 0) (As := [.int ((rd μ 0 0 23) + x1)]) F ck_RX10_146 (M_byteAt_ct e3) (by omega) (by decide) rfl mB0 rfl rfl rfl (Nat.le_of_ble_eq_true rfl) dX10_isLetter_20 ?_
    refine V.iload_n F dX10_isLetter_23 rfl rfl ?_
    refine V.icmp_ne (tgt := 31) F dX10_isLetter_24 (by decide) (fun c5 => ?_) (fun c5 => ?_)
    · have h := f_out h c5
      refine V.iconst (v := 0) F dX10_isLetter_31 (by decide) ?_
      refine V.goto (tgt := 44) F dX10_isLetter_32 (by decide) ?_
      obtain rfl := r1_out h
      exact V.zret F (by decide) dX10_isLetter_44
    · have h := t_out h c5
      refine V.iconst (v := 1) F dX10_isLetter_27 (by decide) ?_
      refine V.goto (tgt := 44) F dX10_isLetter_28 (by decide) ?_
      obtain rfl := r1_out h
      exact V.zret F (by decide) dX10_isLetter_44
set_option maxHeartbeats 4000000 in
set_option maxRecDepth 100000 in
theorem M_isLetter_ct {l : Launch} {G : Glo} {x1 : Int32} {x2 : Int32} {μ : Mem} {r : Int32} (h : M_isLetter x1 x2 μ = some r) : Ct l ΩB G 2 yX10_isLetter cX10_isLetter 3 (some .boolean) [.ref (G.1 0 0), .int x1, .int x2] μ (some (.int r), μ) := by
  refine Ct.intro (by decide) (Nat.le_of_ble_eq_true rfl) ?_
  intro φ hl hG F
  subst hl; subst hG
  exact M_isLetter_ok F (Nat.le_refl _) h
def M_isWord (x1 : Int32) (x2 : Int32) (x3 : Int32) (x4 : Int32) (x5 : Int32) (x6 : Int32) (x7 : Int32) (x8 : Int32) (μ : Mem) : Option Int32 :=
  if (rd μ 0 0 26) = 0 then (
    if (rd μ 0 0 22) = 1 then (
      if ((rd μ 0 0 23) + 8) < (rd μ 0 0 21) then (
        some 0)
      else (
        bnd (M_isLetter 0 x1 μ) fun r5 =>
        if r5 = 0 then (
          some 0)
        else (
          bnd (M_isLetter 1 x2 μ) fun r8 =>
          if r8 = 0 then (
            some 0)
          else (
            bnd (M_isLetter 2 x3 μ) fun r11 =>
            if r11 = 0 then (
              some 0)
            else (
              bnd (M_isLetter 3 x4 μ) fun r14 =>
              if r14 = 0 then (
                some 0)
              else (
                bnd (M_isLetter 4 x5 μ) fun r17 =>
                if r17 = 0 then (
                  some 0)
                else (
                  bnd (M_isLetter 5 x6 μ) fun r20 =>
                  if r20 = 0 then (
                    some 0)
                  else (
                    bnd (M_isLetter 6 x7 μ) fun r23 =>
                    if r23 = 0 then (
                      some 0)
                    else (
                      bnd (M_isLetter 7 x8 μ) fun r26 =>
                      if r26 = 0 then (
                        some 0)
                      else (
                        some 1))))))))))
    else (
      some 0))
  else (
    some 0)
set_option maxHeartbeats 4000000 in
set_option maxRecDepth 100000 in
theorem M_isWord_ok {φ : Fr} {d : Nat} (F : Fx φ ΩB cX10_isWord RX10 9 (some .boolean)) (hd : 3 ≤ d) {x1 : Int32} {x2 : Int32} {x3 : Int32} {x4 : Int32} {x5 : Int32} {x6 : Int32} {x7 : Int32} {x8 : Int32} {μ : Mem} {r : Int32} (h : M_isWord x1 x2 x3 x4 x5 x6 x7 x8 μ = some r) : V φ ΩB 9 d 0 [some (rf φ 0 0), some (.int x1), some (.int x2), some (.int x3), some (.int x4), some (.int x5), some (.int x6), some (.int x7), some (.int x8)] [] μ (some (.int r), μ) := by
  unfold M_isWord at h
  refine V.rload_n F dX10_isWord_0 rfl rfl ?_
  refine gf_RX10_167 F dX10_isWord_1 ?_
  refine V.if_ne (tgt := 112) F dX10_isWord_4 (by decide) (fun c1 => ?_) (fun c1 => ?_)
  · have h := f_out h c1
    refine V.iconst (v := 0) F dX10_isWord_112 (by decide) ?_
    obtain rfl := r1_out h
    exact V.zret F (by decide) dX10_isWord_113
  · have h := t_out h c1
    refine V.rload_n F dX10_isWord_7 rfl rfl ?_
    refine gf_RX10_152 F dX10_isWord_8 ?_
    refine V.iconst (v := 1) F dX10_isWord_11 (by decide) ?_
    refine V.icmp_ne (tgt := 112) F dX10_isWord_12 (by decide) (fun c2 => ?_) (fun c2 => ?_)
    · have h := f_out h c2
      refine V.iconst (v := 0) F dX10_isWord_112 (by decide) ?_
      obtain rfl := r1_out h
      exact V.zret F (by decide) dX10_isWord_113
    · have h := t_out h c2
      refine V.rload_n F dX10_isWord_15 rfl rfl ?_
      refine gf_RX10_143 F dX10_isWord_16 ?_
      refine V.rload_n F dX10_isWord_19 rfl rfl ?_
      refine gf_RX10_149 F dX10_isWord_20 ?_
      refine V.bipush (v := 8) F dX10_isWord_23 (by decide) ?_
      refine V.iadd F dX10_isWord_25 ?_
      refine V.icmp_gt (tgt := 112) F dX10_isWord_26 (by decide) (fun c3 => ?_) (fun c3 => ?_)
      · have h := t_out h c3
        refine V.iconst (v := 0) F dX10_isWord_112 (by decide) ?_
        obtain rfl := r1_out h
        exact V.zret F (by decide) dX10_isWord_113
      · have h := f_out h c3
        refine V.rload_n F dX10_isWord_29 rfl rfl ?_
        refine V.iconst (v := 0) F dX10_isWord_30 (by decide) ?_
        refine V.iload_n F dX10_isWord_31 rfl rfl ?_
        obtain ⟨r5, e4, h⟩ := bnd_out h
        refine V.callVi (f := 0) (i := 0) (As := [.int 0, .int x1]) F ck_RX10_174 (M_isLetter_ct e4) (by omega) (by decide) rfl mB0 rfl rfl rfl (Nat.le_of_ble_eq_true rfl) dX10_isWord_32 ?_
        refine V.if_eq (tgt := 112) F dX10_isWord_35 (by decide) (fun c6 => ?_) (fun c6 => ?_)
        · have h := t_out h c6
          refine V.iconst (v := 0) F dX10_isWord_112 (by decide) ?_
          obtain rfl := r1_out h
          exact V.zret F (by decide) dX10_isWord_113
        · have h := f_out h c6
          refine V.rload_n F dX10_isWord_38 rfl rfl ?_
          refine V.iconst (v := 1) F dX10_isWord_39 (by decide) ?_
          refine V.iload_n F dX10_isWord_40 rfl rfl ?_
          obtain ⟨r8, e7, h⟩ := bnd_out h
          refine V.callVi (f := 0) (i := 0) (As := [.int 1, .int x2]) F ck_RX10_174 (M_isLetter_ct e7) (by omega) (by decide) rfl mB0 rfl rfl rfl (Nat.le_of_ble_eq_true rfl) dX10_isWord_41 ?_
          refine V.if_eq (tgt := 112) F dX10_isWord_44 (by decide) (fun c9 => ?_) (fun c9 => ?_)
          · have h := t_out h c9
            refine V.iconst (v := 0) F dX10_isWord_112 (by decide) ?_
            obtain rfl := r1_out h
            exact V.zret F (by decide) dX10_isWord_113
          · have h := f_out h c9
            refine V.rload_n F dX10_isWord_47 rfl rfl ?_
            refine V.iconst (v := 2) F dX10_isWord_48 (by decide) ?_
            refine V.iload_n F dX10_isWord_49 rfl rfl ?_
            obtain ⟨r11, e10, h⟩ := bnd_out h
            refine V.callVi (f := 0) (i := 0) (As := [.int 2, .int x3]) F ck_RX10_174 (M_isLetter_ct e10) (by omega) (by decide) rfl mB0 rfl rfl rfl (Nat.le_of_ble_eq_true rfl) dX10_isWord_50 ?_
            refine V.if_eq (tgt := 112) F dX10_isWord_53 (by decide) (fun c12 => ?_) (fun c12 => ?_)
            · have h := t_out h c12
              refine V.iconst (v := 0) F dX10_isWord_112 (by decide) ?_
              obtain rfl := r1_out h
              exact V.zret F (by decide) dX10_isWord_113
            · have h := f_out h c12
              refine V.rload_n F dX10_isWord_56 rfl rfl ?_
              refine V.iconst (v := 3) F dX10_isWord_57 (by decide) ?_
              refine V.iload F dX10_isWord_58 rfl ?_
              obtain ⟨r14, e13, h⟩ := bnd_out h
              refine V.callVi (f := 0) (i := 0) (As := [.int 3, .int x4]) F ck_RX10_174 (M_isLetter_ct e13) (by omega) (by decide) rfl mB0 rfl rfl rfl (Nat.le_of_ble_eq_true rfl) dX10_isWord_60 ?_
              refine V.if_eq (tgt := 112) F dX10_isWord_63 (by decide) (fun c15 => ?_) (fun c15 => ?_)
              · have h := t_out h c15
                refine V.iconst (v := 0) F dX10_isWord_112 (by decide) ?_
                obtain rfl := r1_out h
                exact V.zret F (by decide) dX10_isWord_113
              · have h := f_out h c15
                refine V.rload_n F dX10_isWord_66 rfl rfl ?_
                refine V.iconst (v := 4) F dX10_isWord_67 (by decide) ?_
                refine V.iload F dX10_isWord_68 rfl ?_
                obtain ⟨r17, e16, h⟩ := bnd_out h
                refine V.callVi (f := 0) (i := 0) (As := [.int 4, .int x5]) F ck_RX10_174 (M_isLetter_ct e16) (by omega) (by decide) rfl mB0 rfl rfl rfl (Nat.le_of_ble_eq_true rfl) dX10_isWord_70 ?_
                refine V.if_eq (tgt := 112) F dX10_isWord_73 (by decide) (fun c18 => ?_) (fun c18 => ?_)
                · have h := t_out h c18
                  refine V.iconst (v := 0) F dX10_isWord_112 (by decide) ?_
                  obtain rfl := r1_out h
                  exact V.zret F (by decide) dX10_isWord_113
                · have h := f_out h c18
                  refine V.rload_n F dX10_isWord_76 rfl rfl ?_
                  refine V.iconst (v := 5) F dX10_isWord_77 (by decide) ?_
                  refine V.iload F dX10_isWord_78 rfl ?_
                  obtain ⟨r20, e19, h⟩ := bnd_out h
                  refine V.callVi (f := 0) (i := 0) (As := [.int 5, .int x6]) F ck_RX10_174 (M_isLetter_ct e19) (by omega) (by decide) rfl mB0 rfl rfl rfl (Nat.le_of_ble_eq_true rfl) dX10_isWord_80 ?_
                  refine V.if_eq (tgt := 112) F dX10_isWord_83 (by decide) (fun c21 => ?_) (fun c21 => ?_)
                  · have h := t_out h c21
                    refine V.iconst (v := 0) F dX10_isWord_112 (by decide) ?_
                    obtain rfl := r1_out h
                    exact V.zret F (by decide) dX10_isWord_113
                  · have h := f_out h c21
                    refine V.rload_n F dX10_isWord_86 rfl rfl ?_
                    refine V.bipush (v := 6) F dX10_isWord_87 (by decide) ?_
                    refine V.iload F dX10_isWord_89 rfl ?_
                    obtain ⟨r23, e22, h⟩ := bnd_out h
                    refine V.callVi (f := 0) (i := 0) (As := [.int 6, .int x7]) F ck_RX10_174 (M_isLetter_ct e22) (by omega) (by decide) rfl mB0 rfl rfl rfl (Nat.le_of_ble_eq_true rfl) dX10_isWord_91 ?_
                    refine V.if_eq (tgt := 112) F dX10_isWord_94 (by decide) (fun c24 => ?_) (fun c24 => ?_)
                    · have h := t_out h c24
                      refine V.iconst (v := 0) F dX10_isWord_112 (by decide) ?_
                      obtain rfl := r1_out h
                      exact V.zret F (by decide) dX10_isWord_113
                    · have h := f_out h c24
                      refine V.rload_n F dX10_isWord_97 rfl rfl ?_
                      refine V.bipush (v := 7) F dX10_isWord_98 (by decide) ?_
                      refine V.iload F dX10_isWord_100 rfl ?_
                      obtain ⟨r26, e25, h⟩ := bnd_out h
                      refine V.callVi (f := 0) (i := 0) (As := [.int 7, .int x8]) F ck_RX10_174 (M_isLetter_ct e25) (by omega) (by decide) rfl mB0 rfl rfl rfl (Nat.le_of_ble_eq_true rfl) dX10_isWord_102 ?_
                      refine V.if_eq (tgt := 112) F dX10_isWord_105 (by decide) (fun c27 => ?_) (fun c27 => ?_)
                      · have h := t_out h c27
                        refine V.iconst (v := 0) F dX10_isWord_112 (by decide) ?_
                        obtain rfl := r1_out h
                        exact V.zret F (by decide) dX10_isWord_113
                      · have h := f_out h c27
                        refine V.iconst (v := 1) F dX10_isWord_108 (by decide) ?_
                        refine V.goto (tgt := 113) F dX10_isWord_109 (by decide) ?_
                        obtain rfl := r1_out h
                        exact V.zret F (by decide) dX10_isWord_113
set_option maxHeartbeats 4000000 in
set_option maxRecDepth 100000 in
theorem M_isWord_ct {l : Launch} {G : Glo} {x1 : Int32} {x2 : Int32} {x3 : Int32} {x4 : Int32} {x5 : Int32} {x6 : Int32} {x7 : Int32} {x8 : Int32} {μ : Mem} {r : Int32} (h : M_isWord x1 x2 x3 x4 x5 x6 x7 x8 μ = some r) : Ct l ΩB G 3 yX10_isWord cX10_isWord 9 (some .boolean) [.ref (G.1 0 0), .int x1, .int x2, .int x3, .int x4, .int x5, .int x6, .int x7, .int x8] μ (some (.int r), μ) := by
  refine Ct.intro (by decide) (Nat.le_of_ble_eq_true rfl) ?_
  intro φ hl hG F
  subst hl; subst hG
  exact M_isWord_ok F (Nat.le_refl _) h
def M_next_26 (k0 : Mem → Option Mem) (μ : Mem) : Option Mem :=
  nm (up μ 0 0 21 ((rd μ 0 0 21) + 1)) fun μ1 =>
  k0 μ1
set_option maxHeartbeats 4000000 in
set_option maxRecDepth 100000 in
theorem M_next_26_ok {φ : Fr} {d : Nat} (F : Fx φ ΩB cX10_next RX10 3 (none)) (hd : 2 ≤ d) {k0 : Mem → Option Mem} (hk0 : ∀ (μ : Mem)  (μ' : Mem), k0 μ = some μ' → V φ ΩB 3 d 0 [some (rf φ 0 0), none, none] [] μ (none, μ')) {μ : Mem}  {μ' : Mem} (h : M_next_26 k0 μ = some μ') : V φ ΩB 3 d 26 [some (rf φ 0 0), none, none] [] μ (none, μ') := by
  unfold M_next_26 at h
  refine V.rload_n F dX10_next_26 rfl rfl ?_
  refine V.dup F dX10_next_27 rfl ?_
  refine gf_RX10_143 F dX10_next_28 ?_
  refine V.iconst (v := 1) F dX10_next_31 (by decide) ?_
  refine V.iadd F dX10_next_32 ?_
  obtain ⟨μ1, eμ1, h⟩ := nm_out h
  refine pf_RX10_143 F eμ1 dX10_next_33 ?_
  refine V.goto (tgt := 0) F dX10_next_36 (by decide) ?_
  exact hk0 _ _ h
def M_next_300 (x1 : Int32) (μ : Mem) : Option Mem :=
  nm (up μ 0 0 22 3) fun μ1 =>
  nm (upL μ1 (Int32.toInt64 x1)) fun μ2 =>
  nm (up μ2 0 0 21 ((rd μ2 0 0 21) + 1)) fun μ3 =>
  some μ3
set_option maxHeartbeats 4000000 in
set_option maxRecDepth 100000 in
theorem M_next_300_ok {φ : Fr} {d : Nat} (F : Fx φ ΩB cX10_next RX10 3 (none)) (hd : 2 ≤ d) {x1 : Int32} {μ : Mem}  {μ' : Mem} (h : M_next_300 x1 μ = some μ') : V φ ΩB 3 d 300 [some (rf φ 0 0), some (.int x1), none] [] μ (none, μ') := by
  unfold M_next_300 at h
  refine V.rload_n F dX10_next_300 rfl rfl ?_
  refine V.iconst (v := 3) F dX10_next_301 (by decide) ?_
  obtain ⟨μ1, eμ1, h⟩ := nm_out h
  refine pf_RX10_152 F eμ1 dX10_next_302 ?_
  refine V.rload_n F dX10_next_305 rfl rfl ?_
  refine V.iload_n F dX10_next_306 rfl rfl ?_
  refine V.i2l F dX10_next_307 ?_
  obtain ⟨μ2, eμ2, h⟩ := nm_out h
  refine pf_RX10_163 F eμ2 dX10_next_308 ?_
  refine V.rload_n F dX10_next_311 rfl rfl ?_
  refine V.dup F dX10_next_312 rfl ?_
  refine gf_RX10_143 F dX10_next_313 ?_
  refine V.iconst (v := 1) F dX10_next_316 (by decide) ?_
  refine V.iadd F dX10_next_317 ?_
  obtain ⟨μ3, eμ3, h⟩ := nm_out h
  refine pf_RX10_143 F eμ3 dX10_next_318 ?_
  obtain rfl := r1_out h
  exact V.vret F dX10_next_321
def M_next_246 (y1 : Int32) (μ : Mem) : Option Mem :=
  nm (up μ 0 0 22 y1) fun μ1 =>
  some μ1
set_option maxHeartbeats 4000000 in
set_option maxRecDepth 100000 in
theorem M_next_246_ok {φ : Fr} {d : Nat} (F : Fx φ ΩB cX10_next RX10 3 (none)) (hd : 2 ≤ d) {y1 : Int32} {μ : Mem}  {μ' : Mem} (h : M_next_246 y1 μ = some μ') : V φ ΩB 3 d 246 [none, none, none] [.int y1, rf φ 0 0] μ (none, μ') := by
  unfold M_next_246 at h
  obtain ⟨μ1, eμ1, h⟩ := nm_out h
  refine pf_RX10_152 F eμ1 dX10_next_246 ?_
  refine V.goto (tgt := 321) F dX10_next_249 (by decide) ?_
  obtain rfl := r1_out h
  exact V.vret F dX10_next_321
def M_next_216 (k160 : Int32 → Mem → Option Mem) (x2 : Int32) (v1 : Int64) (μ : Mem) : Option Mem :=
  nm (upL μ v1) fun μ1 =>
  nm (x2 + 1) fun a2 =>
  nm (up μ1 0 0 21 ((rd μ1 0 0 21) + 1)) fun μ3 =>
  k160 a2 μ3
set_option maxHeartbeats 4000000 in
set_option maxRecDepth 100000 in
theorem M_next_216_ok {φ : Fr} {d : Nat} (F : Fx φ ΩB cX10_next RX10 3 (none)) (hd : 2 ≤ d) {k160 : Int32 → Mem → Option Mem} (hk160 : ∀ (x2 : Int32) (μ : Mem)  (μ' : Mem), k160 x2 μ = some μ' → V φ ΩB 3 d 160 [some (rf φ 0 0), none, some (.int x2)] [] μ (none, μ')) {x2 : Int32} {v1 : Int64} {μ : Mem}  {μ' : Mem} (h : M_next_216 k160 x2 v1 μ = some μ') : V φ ΩB 3 d 216 [some (rf φ 0 0), none, some (.int x2)] [.long v1, rf φ 0 0] μ (none, μ') := by
  unfold M_next_216 at h
  obtain ⟨μ1, eμ1, h⟩ := nm_out h
  refine pf_RX10_163 F eμ1 dX10_next_216 ?_
  obtain ⟨a2, ea2, h⟩ := nm_out h
  refine V.iinc (z := 1) (L' := [some (rf φ 0 0), none, some (.int a2)]) F dX10_next_219 rfl (by decide) ea2 (by decide) rfl rfl ?_
  refine V.rload_n F dX10_next_222 rfl rfl ?_
  refine V.dup F dX10_next_223 rfl ?_
  refine gf_RX10_143 F dX10_next_224 ?_
  refine V.iconst (v := 1) F dX10_next_227 (by decide) ?_
  refine V.iadd F dX10_next_228 ?_
  obtain ⟨μ3, eμ3, h⟩ := nm_out h
  refine pf_RX10_143 F eμ3 dX10_next_229 ?_
  refine V.goto (tgt := 160) F dX10_next_232 (by decide) ?_
  exact hk160 _ _ _ h
def M_next_160 (k160 : Int32 → Mem → Option Mem) (x2 : Int32) (μ : Mem) : Option Mem :=
  bnd (M_byteAt (rd μ 0 0 21) μ) fun r2 =>
  nm (M_in (Int32.toInt64 r2) 48 57) fun r4 =>
  if r4 = 0 then (
    if 4 < x2 then (
      M_next_246 4 μ)
    else (
      M_next_246 2 μ))
  else (
    if x2 < 4 then (
      bnd (M_byteAt (rd μ 0 0 21) μ) fun r9 =>
      M_next_216 k160 x2 (((10 * (rdL μ)) + (Int32.toInt64 r9)) - 48) μ)
    else (
      M_next_216 k160 x2 (rdL μ) μ))
set_option maxHeartbeats 4000000 in
set_option maxRecDepth 100000 in
theorem M_next_160_ok {φ : Fr} {d : Nat} (F : Fx φ ΩB cX10_next RX10 3 (none)) (hd : 2 ≤ d) {k160 : Int32 → Mem → Option Mem} (hk160 : ∀ (x2 : Int32) (μ : Mem)  (μ' : Mem), k160 x2 μ = some μ' → V φ ΩB 3 d 160 [some (rf φ 0 0), none, some (.int x2)] [] μ (none, μ')) {x2 : Int32} {μ : Mem}  {μ' : Mem} (h : M_next_160 k160 x2 μ = some μ') : V φ ΩB 3 d 160 [some (rf φ 0 0), none, some (.int x2)] [] μ (none, μ') := by
  unfold M_next_160 at h
  refine V.rload_n F dX10_next_160 rfl rfl ?_
  refine V.rload_n F dX10_next_161 rfl rfl ?_
  refine gf_RX10_143 F dX10_next_162 ?_
  obtain ⟨r2, e1, h⟩ := bnd_out h
  refine V.callVi (f := 0) (i := 0) (As := [.int (rd μ 0 0 21)]) F ck_RX10_146 (M_byteAt_ct e1) (by omega) (by decide) rfl mB0 rfl rfl rfl (Nat.le_of_ble_eq_true rfl) dX10_next_165 ?_
  refine V.i2l F dX10_next_168 ?_
  refine V.ldc2 F kl_RX10_159 dX10_next_169 ?_
  refine V.ldc2 F kl_RX10_161 dX10_next_172 ?_
  obtain ⟨r4, e3, h⟩ := nm_out h
  refine V.callSi (As := [.long (Int32.toInt64 r2), .long 48, .long 57]) F ck_RX10_79 (M_in_ct e3) (by omega) (by decide) rfl rfl (Nat.le_of_ble_eq_true rfl) dX10_next_175 ?_
  refine V.if_eq (tgt := 235) F dX10_next_178 (by decide) (fun c5 => ?_) (fun c5 => ?_)
  · have h := t_out h c5
    refine V.rload_n F dX10_next_235 rfl rfl ?_
    refine V.iload_n F dX10_next_236 rfl rfl ?_
    refine V.iconst (v := 4) F dX10_next_237 (by decide) ?_
    refine V.icmp_le (tgt := 245) F dX10_next_238 (by decide) (fun c6 => ?_) (fun c6 => ?_)
    · have h := f_out h c6
      refine V.iconst (v := 2) F dX10_next_245 (by decide) ?_
      refine V.msk (L' := [none, none, none]) [false, false, false] rfl ?_
      exact M_next_246_ok F hd h
    · have h := t_out h c6
      refine V.iconst (v := 4) F dX10_next_241 (by decide) ?_
      refine V.goto (tgt := 246) F dX10_next_242 (by decide) ?_
      refine V.msk (L' := [none, none, none]) [false, false, false] rfl ?_
      exact M_next_246_ok F hd h
  · have h := f_out h c5
    refine V.rload_n F dX10_next_181 rfl rfl ?_
    refine V.iload_n F dX10_next_182 rfl rfl ?_
    refine V.iconst (v := 4) F dX10_next_183 (by decide) ?_
    refine V.icmp_ge (tgt := 212) F dX10_next_184 (by decide) (fun c7 => ?_) (fun c7 => ?_)
    · have h := f_out h c7
      refine V.rload_n F dX10_next_212 rfl rfl ?_
      refine gf_RX10_163 F dX10_next_213 ?_
      exact M_next_216_ok F hd hk160 h
    · have h := t_out h c7
      refine V.ldc2 F kl_RX10_117 dX10_next_187 ?_
      refine V.rload_n F dX10_next_190 rfl rfl ?_
      refine gf_RX10_163 F dX10_next_191 ?_
      refine V.lmul F dX10_next_194 ?_
      refine V.rload_n F dX10_next_195 rfl rfl ?_
      refine V.rload_n F dX10_next_196 rfl rfl ?_
      refine gf_RX10_143 F dX10_next_197 ?_
      obtain ⟨r9, e8, h⟩ := bnd_out h
      refine V.callVi (f := 0) (i := 0) (As := [.int (rd μ 0 0 21)]) F ck_RX10_146 (M_byteAt_ct e8) (by omega) (by decide) rfl mB0 rfl rfl rfl (Nat.le_of_ble_eq_true rfl) dX10_next_200 ?_
      refine V.i2l F dX10_next_203 ?_
      refine V.ladd F dX10_next_204 ?_
      refine V.ldc2 F kl_RX10_159 dX10_next_205 ?_
      refine V.lsub F dX10_next_208 ?_
      refine V.goto (tgt := 216) F dX10_next_209 (by decide) ?_
      exact M_next_216_ok F hd hk160 h
def M_next_160L : Nat → Int32 → Mem → Option Mem
  | 0 => fun _ _ => none
  | n + 1 => M_next_160 (M_next_160L n)
set_option maxHeartbeats 4000000 in
set_option maxRecDepth 100000 in
theorem M_next_160L_ok {φ : Fr} {d : Nat} (F : Fx φ ΩB cX10_next RX10 3 (none)) (hd : 2 ≤ d) : ∀ (n : Nat) (x2 : Int32) (μ : Mem)  (μ' : Mem), M_next_160L n x2 μ = some μ' → V φ ΩB 3 d 160 [some (rf φ 0 0), none, some (.int x2)] [] μ (none, μ') := by
  intro n
  induction n with
  | zero => intro x2 μ μ' h; cases h
  | succ n ih => intro x2 μ μ' h; exact M_next_160_ok F hd ih h
def M_next_100 (k100 : Mem → Option Mem) (μ : Mem) : Option Mem :=
  bnd (M_byteAt (rd μ 0 0 21) μ) fun r2 =>
  nm (M_in (Int32.toInt64 r2) 97 122) fun r4 =>
  if r4 = 0 then (
    some μ)
  else (
    nm (up μ 0 0 21 ((rd μ 0 0 21) + 1)) fun μ6 =>
    k100 μ6)
set_option maxHeartbeats 4000000 in
set_option maxRecDepth 100000 in
theorem M_next_100_ok {φ : Fr} {d : Nat} (F : Fx φ ΩB cX10_next RX10 3 (none)) (hd : 2 ≤ d) {k100 : Mem → Option Mem} (hk100 : ∀ (μ : Mem)  (μ' : Mem), k100 μ = some μ' → V φ ΩB 3 d 100 [some (rf φ 0 0), none, none] [] μ (none, μ')) {μ : Mem}  {μ' : Mem} (h : M_next_100 k100 μ = some μ') : V φ ΩB 3 d 100 [some (rf φ 0 0), none, none] [] μ (none, μ') := by
  unfold M_next_100 at h
  refine V.rload_n F dX10_next_100 rfl rfl ?_
  refine V.rload_n F dX10_next_101 rfl rfl ?_
  refine gf_RX10_143 F dX10_next_102 ?_
  obtain ⟨r2, e1, h⟩ := bnd_out h
  refine V.callVi (f := 0) (i := 0) (As := [.int (rd μ 0 0 21)]) F ck_RX10_146 (M_byteAt_ct e1) (by omega) (by decide) rfl mB0 rfl rfl rfl (Nat.le_of_ble_eq_true rfl) dX10_next_105 ?_
  refine V.i2l F dX10_next_108 ?_
  refine V.ldc2 F kl_RX10_155 dX10_next_109 ?_
  refine V.ldc2 F kl_RX10_157 dX10_next_112 ?_
  obtain ⟨r4, e3, h⟩ := nm_out h
  refine V.callSi (As := [.long (Int32.toInt64 r2), .long 97, .long 122]) F ck_RX10_79 (M_in_ct e3) (by omega) (by decide) rfl rfl (Nat.le_of_ble_eq_true rfl) dX10_next_115 ?_
  refine V.if_eq (tgt := 321) F dX10_next_118 (by decide) (fun c5 => ?_) (fun c5 => ?_)
  · have h := t_out h c5
    obtain rfl := r1_out h
    exact V.vret F dX10_next_321
  · have h := f_out h c5
    refine V.rload_n F dX10_next_121 rfl rfl ?_
    refine V.dup F dX10_next_122 rfl ?_
    refine gf_RX10_143 F dX10_next_123 ?_
    refine V.iconst (v := 1) F dX10_next_126 (by decide) ?_
    refine V.iadd F dX10_next_127 ?_
    obtain ⟨μ6, eμ6, h⟩ := nm_out h
    refine pf_RX10_143 F eμ6 dX10_next_128 ?_
    refine V.goto (tgt := 100) F dX10_next_131 (by decide) ?_
    exact hk100 _ _ h
def M_next_100L : Nat → Mem → Option Mem
  | 0 => fun _ => none
  | n + 1 => M_next_100 (M_next_100L n)
set_option maxHeartbeats 4000000 in
set_option maxRecDepth 100000 in
theorem M_next_100L_ok {φ : Fr} {d : Nat} (F : Fx φ ΩB cX10_next RX10 3 (none)) (hd : 2 ≤ d) : ∀ (n : Nat) (μ : Mem)  (μ' : Mem), M_next_100L n μ = some μ' → V φ ΩB 3 d 100 [some (rf φ 0 0), none, none] [] μ (none, μ') := by
  intro n
  induction n with
  | zero => intro μ μ' h; cases h
  | succ n ih => intro μ μ' h; exact M_next_100_ok F hd ih h
def M_next_0 (k0 : Mem → Option Mem) (μ : Mem) : Option Mem :=
  bnd (M_byteAt (rd μ 0 0 21) μ) fun r2 =>
  if r2 = 32 then (
    M_next_26 k0 μ)
  else (
    bnd (M_byteAt (rd μ 0 0 21) μ) fun r5 =>
    if r5 = 10 then (
      M_next_26 k0 μ)
    else (
      nm (up μ 0 0 23 (rd μ 0 0 21)) fun μ7 =>
      bnd (M_byteAt (rd μ7 0 0 21) μ7) fun r9 =>
      nm (up μ7 0 0 22 4) fun μ10 =>
      if r9 < 0 then (
        nm (up μ10 0 0 22 0) fun μ29 =>
        nm (up μ29 0 0 23 (rd μ29 0 0 20)) fun μ30 =>
        some μ30)
      else (
        nm (M_in (Int32.toInt64 r9) 97 122) fun r13 =>
        if r13 = 0 then (
          nm (M_in (Int32.toInt64 r9) 48 57) fun r16 =>
          if r16 = 0 then (
            if r9 = 40 then (
              M_next_300 r9 μ10)
            else (
              if r9 = 41 then (
                M_next_300 r9 μ10)
              else (
                if r9 = 59 then (
                  M_next_300 r9 μ10)
                else (
                  if r9 = 43 then (
                    M_next_300 r9 μ10)
                  else (
                    if r9 = 45 then (
                      M_next_300 r9 μ10)
                    else (
                      if r9 = 42 then (
                        M_next_300 r9 μ10)
                      else (
                        if r9 = 60 then (
                          M_next_300 r9 μ10)
                        else (
                          if r9 = 61 then (
                            M_next_300 r9 μ10)
                          else (
                            some μ10)))))))))
          else (
            nm (up μ10 0 0 22 2) fun μ26 =>
            nm (upL μ26 0) fun μ27 =>
            M_next_160L 1000 0 μ27))
        else (
          nm (up μ10 0 0 22 1) fun μ28 =>
          M_next_100L 1000 μ28))))
set_option maxHeartbeats 4000000 in
set_option maxRecDepth 100000 in
theorem M_next_0_ok {φ : Fr} {d : Nat} (F : Fx φ ΩB cX10_next RX10 3 (none)) (hd : 2 ≤ d) {k0 : Mem → Option Mem} (hk0 : ∀ (μ : Mem)  (μ' : Mem), k0 μ = some μ' → V φ ΩB 3 d 0 [some (rf φ 0 0), none, none] [] μ (none, μ')) {μ : Mem}  {μ' : Mem} (h : M_next_0 k0 μ = some μ') : V φ ΩB 3 d 0 [some (rf φ 0 0), none, none] [] μ (none, μ') := by
  unfold M_next_0 at h
  refine V.rload_n F dX10_next_0 rfl rfl ?_
  refine V.rload_n F dX10_next_1 rfl rfl ?_
  refine gf_RX10_143 F dX10_next_2 ?_
  obtain ⟨r2, e1, h⟩ := bnd_out h
  refine V.callVi (f := 0) (i := 0) (As := [.int (rd μ 0 0 21)]) F ck_RX10_146 (M_byteAt_ct e1) (by omega) (by decide) rfl mB0 rfl rfl rfl (Nat.le_of_ble_eq_true rfl) dX10_next_5 ?_
  refine V.bipush (v := 32) F dX10_next_8 (by decide) ?_
  refine V.icmp_eq (tgt := 26) F dX10_next_10 (by decide) (fun c3 => ?_) (fun c3 => ?_)
  · have h := t_out h c3
    exact M_next_26_ok F hd hk0 h
  · have h := f_out h c3
    refine V.rload_n F dX10_next_13 rfl rfl ?_
    refine V.rload_n F dX10_next_14 rfl rfl ?_
    refine gf_RX10_143 F dX10_next_15 ?_
    obtain ⟨r5, e4, h⟩ := bnd_out h
    refine V.callVi (f := 0) (i := 0) (As := [.int (rd μ 0 0 21)]) F ck_RX10_146 (M_byteAt_ct e4) (by omega) (by decide) rfl mB0 rfl rfl rfl (Nat.le_of_ble_eq_true rfl) dX10_next_18 ?_
    refine V.bipush (v := 10) F dX10_next_21 (by decide) ?_
    refine V.icmp_ne (tgt := 39) F dX10_next_23 (by decide) (fun c6 => ?_) (fun c6 => ?_)
    · have h := f_out h c6
      refine V.rload_n F dX10_next_39 rfl rfl ?_
      refine V.rload_n F dX10_next_40 rfl rfl ?_
      refine gf_RX10_143 F dX10_next_41 ?_
      obtain ⟨μ7, eμ7, h⟩ := nm_out h
      refine pf_RX10_149 F eμ7 dX10_next_44 ?_
      refine V.rload_n F dX10_next_47 rfl rfl ?_
      refine V.rload_n F dX10_next_48 rfl rfl ?_
      refine gf_RX10_143 F dX10_next_49 ?_
      obtain ⟨r9, e8, h⟩ := bnd_out h
      refine V.callVi (f := 0) (i := 0) (As := [.int (rd μ7 0 0 21)]) F ck_RX10_146 (M_byteAt_ct e8) (by omega) (by decide) rfl mB0 rfl rfl rfl (Nat.le_of_ble_eq_true rfl) dX10_next_52 ?_
      refine V.istore_n (L' := [some (rf φ 0 0), some (.int r9), none]) F dX10_next_55 rfl (by decide) rfl rfl rfl ?_
      refine V.rload_n F dX10_next_56 rfl rfl ?_
      refine V.iconst (v := 4) F dX10_next_57 (by decide) ?_
      obtain ⟨μ10, eμ10, h⟩ := nm_out h
      refine pf_RX10_152 F eμ10 dX10_next_58 ?_
      refine V.iload_n F dX10_next_61 rfl rfl ?_
      refine V.if_ge (tgt := 81) F dX10_next_62 (by decide) (fun c11 => ?_) (fun c11 => ?_)
      · have h := f_out h c11
        refine V.iload_n F dX10_next_81 rfl rfl ?_
        refine V.i2l F dX10_next_82 ?_
        refine V.ldc2 F kl_RX10_155 dX10_next_83 ?_
        refine V.ldc2 F kl_RX10_157 dX10_next_86 ?_
        obtain ⟨r13, e12, h⟩ := nm_out h
        refine V.callSi (As := [.long (Int32.toInt64 r9), .long 97, .long 122]) F ck_RX10_79 (M_in_ct e12) (by omega) (by decide) rfl rfl (Nat.le_of_ble_eq_true rfl) dX10_next_89 ?_
        refine V.if_eq (tgt := 134) F dX10_next_92 (by decide) (fun c14 => ?_) (fun c14 => ?_)
        · have h := t_out h c14
          refine V.iload_n F dX10_next_134 rfl rfl ?_
          refine V.i2l F dX10_next_135 ?_
          refine V.ldc2 F kl_RX10_159 dX10_next_136 ?_
          refine V.ldc2 F kl_RX10_161 dX10_next_139 ?_
          obtain ⟨r16, e15, h⟩ := nm_out h
          refine V.callSi (As := [.long (Int32.toInt64 r9), .long 48, .long 57]) F ck_RX10_79 (M_in_ct e15) (by omega) (by decide) rfl rfl (Nat.le_of_ble_eq_true rfl) dX10_next_142 ?_
          refine V.if_eq (tgt := 252) F dX10_next_145 (by decide) (fun c17 => ?_) (fun c17 => ?_)
          · have h := t_out h c17
            refine V.iload_n F dX10_next_252 rfl rfl ?_
            refine V.bipush (v := 40) F dX10_next_253 (by decide) ?_
            refine V.icmp_eq (tgt := 300) F dX10_next_255 (by decide) (fun c18 => ?_) (fun c18 => ?_)
            · have h := t_out h c18
              exact M_next_300_ok F hd h
            · have h := f_out h c18
              refine V.iload_n F dX10_next_258 rfl rfl ?_
              refine V.bipush (v := 41) F dX10_next_259 (by decide) ?_
              refine V.icmp_eq (tgt := 300) F dX10_next_261 (by decide) (fun c19 => ?_) (fun c19 => ?_)
              · have h := t_out h c19
                exact M_next_300_ok F hd h
              · have h := f_out h c19
                refine V.iload_n F dX10_next_264 rfl rfl ?_
                refine V.bipush (v := 59) F dX10_next_265 (by decide) ?_
                refine V.icmp_eq (tgt := 300) F dX10_next_267 (by decide) (fun c20 => ?_) (fun c20 => ?_)
                · have h := t_out h c20
                  exact M_next_300_ok F hd h
                · have h := f_out h c20
                  refine V.iload_n F dX10_next_270 rfl rfl ?_
                  refine V.bipush (v := 43) F dX10_next_271 (by decide) ?_
                  refine V.icmp_eq (tgt := 300) F dX10_next_273 (by decide) (fun c21 => ?_) (fun c21 => ?_)
                  · have h := t_out h c21
                    exact M_next_300_ok F hd h
                  · have h := f_out h c21
                    refine V.iload_n F dX10_next_276 rfl rfl ?_
                    refine V.bipush (v := 45) F dX10_next_277 (by decide) ?_
                    refine V.icmp_eq (tgt := 300) F dX10_next_279 (by decide) (fun c22 => ?_) (fun c22 => ?_)
                    · have h := t_out h c22
                      exact M_next_300_ok F hd h
                    · have h := f_out h c22
                      refine V.iload_n F dX10_next_282 rfl rfl ?_
                      refine V.bipush (v := 42) F dX10_next_283 (by decide) ?_
                      refine V.icmp_eq (tgt := 300) F dX10_next_285 (by decide) (fun c23 => ?_) (fun c23 => ?_)
                      · have h := t_out h c23
                        exact M_next_300_ok F hd h
                      · have h := f_out h c23
                        refine V.iload_n F dX10_next_288 rfl rfl ?_
                        refine V.bipush (v := 60) F dX10_next_289 (by decide) ?_
                        refine V.icmp_eq (tgt := 300) F dX10_next_291 (by decide) (fun c24 => ?_) (fun c24 => ?_)
                        · have h := t_out h c24
                          exact M_next_300_ok F hd h
                        · have h := f_out h c24
                          refine V.iload_n F dX10_next_294 rfl rfl ?_
                          refine V.bipush (v := 61) F dX10_next_295 (by decide) ?_
                          refine V.icmp_ne (tgt := 321) F dX10_next_297 (by decide) (fun c25 => ?_) (fun c25 => ?_)
                          · have h := f_out h c25
                            obtain rfl := r1_out h
                            exact V.vret F dX10_next_321
                          · have h := t_out h c25
                            exact M_next_300_ok F hd h
          · have h := f_out h c17
            refine V.rload_n F dX10_next_148 rfl rfl ?_
            refine V.iconst (v := 2) F dX10_next_149 (by decide) ?_
            obtain ⟨μ26, eμ26, h⟩ := nm_out h
            refine pf_RX10_152 F eμ26 dX10_next_150 ?_
            refine V.rload_n F dX10_next_153 rfl rfl ?_
            refine V.lconst (v := 0) F dX10_next_154 (by decide) ?_
            obtain ⟨μ27, eμ27, h⟩ := nm_out h
            refine pf_RX10_163 F eμ27 dX10_next_155 ?_
            refine V.iconst (v := 0) F dX10_next_158 (by decide) ?_
            refine V.istore_n (L' := [some (rf φ 0 0), some (.int r9), some (.int 0)]) F dX10_next_159 rfl (by decide) rfl rfl rfl ?_
            refine V.msk (L' := [some (rf φ 0 0), none, some (.int 0)]) [true, false, true] rfl ?_
            exact M_next_160L_ok F hd 1000 _ _ _ h
        · have h := f_out h c14
          refine V.rload_n F dX10_next_95 rfl rfl ?_
          refine V.iconst (v := 1) F dX10_next_96 (by decide) ?_
          obtain ⟨μ28, eμ28, h⟩ := nm_out h
          refine pf_RX10_152 F eμ28 dX10_next_97 ?_
          refine V.msk (L' := [some (rf φ 0 0), none, none]) [true, false, false] rfl ?_
          exact M_next_100L_ok F hd 1000 _ _ h
      · have h := t_out h c11
        refine V.rload_n F dX10_next_65 rfl rfl ?_
        refine V.iconst (v := 0) F dX10_next_66 (by decide) ?_
        obtain ⟨μ29, eμ29, h⟩ := nm_out h
        refine pf_RX10_152 F eμ29 dX10_next_67 ?_
        refine V.rload_n F dX10_next_70 rfl rfl ?_
        refine V.rload_n F dX10_next_71 rfl rfl ?_
        refine gf_RX10_137 F dX10_next_72 ?_
        obtain ⟨μ30, eμ30, h⟩ := nm_out h
        refine pf_RX10_149 F eμ30 dX10_next_75 ?_
        refine V.goto (tgt := 321) F dX10_next_78 (by decide) ?_
        obtain rfl := r1_out h
        exact V.vret F dX10_next_321
    · have h := t_out h c6
      exact M_next_26_ok F hd hk0 h
def M_next_0L : Nat → Mem → Option Mem
  | 0 => fun _ => none
  | n + 1 => M_next_0 (M_next_0L n)
set_option maxHeartbeats 4000000 in
set_option maxRecDepth 100000 in
theorem M_next_0L_ok {φ : Fr} {d : Nat} (F : Fx φ ΩB cX10_next RX10 3 (none)) (hd : 2 ≤ d) : ∀ (n : Nat) (μ : Mem)  (μ' : Mem), M_next_0L n μ = some μ' → V φ ΩB 3 d 0 [some (rf φ 0 0), none, none] [] μ (none, μ') := by
  intro n
  induction n with
  | zero => intro μ μ' h; cases h
  | succ n ih => intro μ μ' h; exact M_next_0_ok F hd ih h
def M_next (μ : Mem) : Option Mem := M_next_0L 1000 μ
set_option maxHeartbeats 4000000 in
set_option maxRecDepth 100000 in
theorem M_next_ct {l : Launch} {G : Glo} {μ : Mem}  {μ' : Mem} (h : M_next μ = some μ') : Ct l ΩB G 2 yX10_next cX10_next 3 (none) [.ref (G.1 0 0)] μ (none, μ') := by
  refine Ct.intro (by decide) (Nat.le_of_ble_eq_true rfl) ?_
  intro φ hl hG F
  subst hl; subst hG
  refine V.msk (L' := [some (rf φ 0 0), none, none]) [true, false, false] rfl ?_
  exact M_next_0L_ok F (Nat.le_refl _) 1000 _ _ h
