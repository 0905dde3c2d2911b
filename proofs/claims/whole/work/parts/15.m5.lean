def M_isSign (x1 : Int32) (μ : Mem) : Int32 :=
  if (rd μ 0 0 26) = 0 then (
    if (rd μ 0 0 22) = 3 then (
      if (lg_cmp (rdL μ) (Int32.toInt64 x1)) = 0 then (
        1)
      else (
        0))
    else (
      0))
  else (
    0)
set_option maxHeartbeats 4000000 in
set_option maxRecDepth 100000 in
theorem M_isSign_ok {φ : Fr} {d : Nat} (F : Fx φ ΩB cX10_isSign RX10 2 (some .boolean)) (hd : 1 ≤ d) {x1 : Int32} {μ : Mem} {r : Int32} (h : M_isSign x1 μ = r) : V φ ΩB 2 d 0 [some (rf φ 0 0), some (.int x1)] [] μ (some (.int r), μ) := by
  unfold M_isSign at h
  refine V.rload_n F dX10_isSign_0 rfl rfl ?_
  refine gf_RX10_167 F dX10_isSign_1 ?_
  refine V.if_ne (tgt := 29) F dX10_isSign_4 (by decide) (fun c1 => ?_) (fun c1 => ?_)
  · have h := f_out h c1
    refine V.iconst (v := 0) F dX10_isSign_29 (by decide) ?_
    obtain rfl := h
    exact V.zret F (by decide) dX10_isSign_30
  · have h := t_out h c1
    refine V.rload_n F dX10_isSign_7 rfl rfl ?_
    refine gf_RX10_152 F dX10_isSign_8 ?_
    refine V.iconst (v := 3) F dX10_isSign_11 (by decide) ?_
    refine V.icmp_ne (tgt := 29) F dX10_isSign_12 (by decide) (fun c2 => ?_) (fun c2 => ?_)
    · have h := f_out h c2
      refine V.iconst (v := 0) F dX10_isSign_29 (by decide) ?_
      obtain rfl := h
      exact V.zret F (by decide) dX10_isSign_30
    · have h := t_out h c2
      refine V.rload_n F dX10_isSign_15 rfl rfl ?_
      refine gf_RX10_163 F dX10_isSign_16 ?_
      refine V.iload_n F dX10_isSign_19 rfl rfl ?_
      refine V.i2l F dX10_isSign_20 ?_
      refine V.lcmp F dX10_isSign_21 ?_
      refine V.if_ne (tgt := 29) F dX10_isSign_22 (by decide) (fun c3 => ?_) (fun c3 => ?_)
      · have h := f_out h c3
        refine V.iconst (v := 0) F dX10_isSign_29 (by decide) ?_
        obtain rfl := h
        exact V.zret F (by decide) dX10_isSign_30
      · have h := t_out h c3
        refine V.iconst (v := 1) F dX10_isSign_25 (by decide) ?_
        refine V.goto (tgt := 30) F dX10_isSign_26 (by decide) ?_
        obtain rfl := h
        exact V.zret F (by decide) dX10_isSign_30
set_option maxHeartbeats 4000000 in
set_option maxRecDepth 100000 in
theorem M_isSign_ct {l : Launch} {G : Glo} {x1 : Int32} {μ : Mem} {r : Int32} (h : M_isSign x1 μ = r) : Ct l ΩB G 1 yX10_isSign cX10_isSign 2 (some .boolean) [.ref (G.1 0 0), .int x1] μ (some (.int r), μ) := by
  refine Ct.intro (by decide) (Nat.le_of_ble_eq_true rfl) ?_
  intro φ hl hG F
  subst hl; subst hG
  exact M_isSign_ok F (Nat.le_refl _) h
def M_opens (μ : Mem) : Option (Int32 × Mem) :=
  if (rd μ 0 0 25) = 5 then (
    nm (M_fail μ) fun μ6 =>
    some (0, μ6))
  else (
    nm (up μ 0 0 25 ((rd μ 0 0 25) + 1)) fun μ2 =>
    bnd (M_next μ2) fun μ4 =>
    some (1, μ4))
set_option maxHeartbeats 4000000 in
set_option maxRecDepth 100000 in
theorem M_opens_ok {φ : Fr} {d : Nat} (F : Fx φ ΩB cX10_opens RX10 1 (some .boolean)) (hd : 3 ≤ d) {μ : Mem} {r : Int32} {μ' : Mem} (h : M_opens μ = some (r, μ')) : V φ ΩB 1 d 0 [some (rf φ 0 0)] [] μ (some (.int r), μ') := by
  unfold M_opens at h
  refine V.rload_n F dX10_opens_0 rfl rfl ?_
  refine gf_RX10_178 F dX10_opens_1 ?_
  refine V.iconst (v := 5) F dX10_opens_4 (by decide) ?_
  refine V.icmp_ne (tgt := 14) F dX10_opens_5 (by decide) (fun c1 => ?_) (fun c1 => ?_)
  · have h := f_out h c1
    refine V.rload_n F dX10_opens_14 rfl rfl ?_
    refine V.dup F dX10_opens_15 rfl ?_
    refine gf_RX10_178 F dX10_opens_16 ?_
    refine V.iconst (v := 1) F dX10_opens_19 (by decide) ?_
    refine V.iadd F dX10_opens_20 ?_
    obtain ⟨μ2, eμ2, h⟩ := nm_out h
    refine pf_RX10_178 F eμ2 dX10_opens_21 ?_
    refine V.rload_n F dX10_opens_24 rfl rfl ?_
    obtain ⟨μ4, e3, h⟩ := bnd_out h
    refine V.callVv (f := 0) (i := 0) (As := []) F ck_RX10_184 (M_next_ct e3) (by omega) (by decide) rfl mB0 rfl rfl rfl (Nat.le_of_ble_eq_true rfl) dX10_opens_25 ?_
    refine V.iconst (v := 1) F dX10_opens_28 (by decide) ?_
    obtain ⟨rfl, rfl⟩ := r2_out h
    exact V.zret F (by decide) dX10_opens_29
  · have h := t_out h c1
    refine V.rload_n F dX10_opens_8 rfl rfl ?_
    obtain ⟨μ6, e5, h⟩ := nm_out h
    refine V.callVv (f := 0) (i := 0) (As := []) F ck_RX10_181 (M_fail_ct e5) (by omega) (by decide) rfl mB0 rfl rfl rfl (Nat.le_of_ble_eq_true rfl) dX10_opens_9 ?_
    refine V.iconst (v := 0) F dX10_opens_12 (by decide) ?_
    obtain ⟨rfl, rfl⟩ := r2_out h
    exact V.zret F (by decide) dX10_opens_13
set_option maxHeartbeats 4000000 in
set_option maxRecDepth 100000 in
theorem M_opens_ct {l : Launch} {G : Glo} {μ : Mem} {r : Int32} {μ' : Mem} (h : M_opens μ = some (r, μ')) : Ct l ΩB G 3 yX10_opens cX10_opens 1 (some .boolean) [.ref (G.1 0 0)] μ (some (.int r), μ') := by
  refine Ct.intro (by decide) (Nat.le_of_ble_eq_true rfl) ?_
  intro φ hl hG F
  subst hl; subst hG
  exact M_opens_ok F (Nat.le_refl _) h
def M_name (μ : Mem) : Option (Int32 × Mem) :=
  bnd (M_isWord 116 104 105 110 103 0 0 0 μ) fun r2 =>
  if r2 = 0 then (
    bnd (M_isWord 116 101 109 112 101 114 0 0 μ) fun r5 =>
    if r5 = 0 then (
      bnd (M_isWord 110 117 109 98 101 114 0 0 μ) fun r8 =>
      if r8 = 0 then (
        bnd (M_isWord 100 97 121 0 0 0 0 0 μ) fun r11 =>
        if r11 = 0 then (
          bnd (M_isWord 99 111 97 116 0 0 0 0 μ) fun r14 =>
          if r14 = 0 then (
            bnd (M_isWord 111 119 110 0 0 0 0 0 μ) fun r17 =>
            if r17 = 0 then (
              nm (M_fail μ) fun μ20 =>
              some (0, μ20))
            else (
              some (rd μ 0 0 18, μ)))
          else (
            some (rd μ 0 0 17, μ)))
        else (
          some (rd μ 0 0 16, μ)))
      else (
        some (rd μ 0 0 15, μ)))
    else (
      some (rd μ 0 0 14, μ)))
  else (
    some (rd μ 0 0 13, μ))
set_option maxHeartbeats 4000000 in
set_option maxRecDepth 100000 in
theorem M_name_ok {φ : Fr} {d : Nat} (F : Fx φ ΩB cX10_name RX10 1 (some .int)) (hd : 4 ≤ d) {μ : Mem} {r : Int32} {μ' : Mem} (h : M_name μ = some (r, μ')) : V φ ΩB 1 d 0 [some (rf φ 0 0)] [] μ (some (.int r), μ') := by
  unfold M_name at h
  refine V.rload_n F dX10_name_0 rfl rfl ?_
  refine V.bipush (v := 116) F dX10_name_1 (by decide) ?_
  refine V.bipush (v := 104) F dX10_name_3 (by decide) ?_
  refine V.bipush (v := 105) F dX10_name_5 (by decide) ?_
  refine V.bipush (v := 110) F dX10_name_7 (by decide) ?_
  refine V.bipush (v := 103) F dX10_name_9 (by decide) ?_
  refine V.iconst (v := 0) F dX10_name_11 (by decide) ?_
  refine V.iconst (v := 0) F dX10_name_12 (by decide) ?_
  refine V.iconst (v := 0) F dX10_name_13 (by decide) ?_
  obtain ⟨r2, e1, h⟩ := bnd_out h
  refine V.callVi (f := 0) (i := 0) (As := [.int 116, .int 104, .int 105, .int 110, .int 103, .int 0, .int 0, .int 0]) F ck_RX10_187 (M_isWord_ct e1) (by omega) (by decide) rfl mB0 rfl rfl rfl (Nat.le_of_ble_eq_true rfl) dX10_name_14 ?_
  refine V.if_eq (tgt := 25) F dX10_name_17 (by decide) (fun c3 => ?_) (fun c3 => ?_)
  · have h := t_out h c3
    refine V.rload_n F dX10_name_25 rfl rfl ?_
    refine V.bipush (v := 116) F dX10_name_26 (by decide) ?_
    refine V.bipush (v := 101) F dX10_name_28 (by decide) ?_
    refine V.bipush (v := 109) F dX10_name_30 (by decide) ?_
    refine V.bipush (v := 112) F dX10_name_32 (by decide) ?_
    refine V.bipush (v := 101) F dX10_name_34 (by decide) ?_
    refine V.bipush (v := 114) F dX10_name_36 (by decide) ?_
    refine V.iconst (v := 0) F dX10_name_38 (by decide) ?_
    refine V.iconst (v := 0) F dX10_name_39 (by decide) ?_
    obtain ⟨r5, e4, h⟩ := bnd_out h
    refine V.callVi (f := 0) (i := 0) (As := [.int 116, .int 101, .int 109, .int 112, .int 101, .int 114, .int 0, .int 0]) F ck_RX10_187 (M_isWord_ct e4) (by omega) (by decide) rfl mB0 rfl rfl rfl (Nat.le_of_ble_eq_true rfl) dX10_name_40 ?_
    refine V.if_eq (tgt := 51) F dX10_name_43 (by decide) (fun c6 => ?_) (fun c6 => ?_)
    · have h := t_out h c6
      refine V.rload_n F dX10_name_51 rfl rfl ?_
      refine V.bipush (v := 110) F dX10_name_52 (by decide) ?_
      refine V.bipush (v := 117) F dX10_name_54 (by decide) ?_
      refine V.bipush (v := 109) F dX10_name_56 (by decide) ?_
      refine V.bipush (v := 98) F dX10_name_58 (by decide) ?_
      refine V.bipush (v := 101) F dX10_name_60 (by decide) ?_
      refine V.bipush (v := 114) F dX10_name_62 (by decide) ?_
      refine V.iconst (v := 0) F dX10_name_64 (by decide) ?_
      refine V.iconst (v := 0) F dX10_name_65 (by decide) ?_
      obtain ⟨r8, e7, h⟩ := bnd_out h
      refine V.callVi (f := 0) (i := 0) (As := [.int 110, .int 117, .int 109, .int 98, .int 101, .int 114, .int 0, .int 0]) F ck_RX10_187 (M_isWord_ct e7) (by omega) (by decide) rfl mB0 rfl rfl rfl (Nat.le_of_ble_eq_true rfl) dX10_name_66 ?_
      refine V.if_eq (tgt := 77) F dX10_name_69 (by decide) (fun c9 => ?_) (fun c9 => ?_)
      · have h := t_out h c9
        refine V.rload_n F dX10_name_77 rfl rfl ?_
        refine V.bipush (v := 100) F dX10_name_78 (by decide) ?_
        refine V.bipush (v := 97) F dX10_name_80 (by decide) ?_
        refine V.bipush (v := 121) F dX10_name_82 (by decide) ?_
        refine V.iconst (v := 0) F dX10_name_84 (by decide) ?_
        refine V.iconst (v := 0) F dX10_name_85 (by decide) ?_
        refine V.iconst (v := 0) F dX10_name_86 (by decide) ?_
        refine V.iconst (v := 0) F dX10_name_87 (by decide) ?_
        refine V.iconst (v := 0) F dX10_name_88 (by decide) ?_
        obtain ⟨r11, e10, h⟩ := bnd_out h
        refine V.callVi (f := 0) (i := 0) (As := [.int 100, .int 97, .int 121, .int 0, .int 0, .int 0, .int 0, .int 0]) F ck_RX10_187 (M_isWord_ct e10) (by omega) (by decide) rfl mB0 rfl rfl rfl (Nat.le_of_ble_eq_true rfl) dX10_name_89 ?_
        refine V.if_eq (tgt := 100) F dX10_name_92 (by decide) (fun c12 => ?_) (fun c12 => ?_)
        · have h := t_out h c12
          refine V.rload_n F dX10_name_100 rfl rfl ?_
          refine V.bipush (v := 99) F dX10_name_101 (by decide) ?_
          refine V.bipush (v := 111) F dX10_name_103 (by decide) ?_
          refine V.bipush (v := 97) F dX10_name_105 (by decide) ?_
          refine V.bipush (v := 116) F dX10_name_107 (by decide) ?_
          refine V.iconst (v := 0) F dX10_name_109 (by decide) ?_
          refine V.iconst (v := 0) F dX10_name_110 (by decide) ?_
          refine V.iconst (v := 0) F dX10_name_111 (by decide) ?_
          refine V.iconst (v := 0) F dX10_name_112 (by decide) ?_
          obtain ⟨r14, e13, h⟩ := bnd_out h
          refine V.callVi (f := 0) (i := 0) (As := [.int 99, .int 111, .int 97, .int 116, .int 0, .int 0, .int 0, .int 0]) F ck_RX10_187 (M_isWord_ct e13) (by omega) (by decide) rfl mB0 rfl rfl rfl (Nat.le_of_ble_eq_true rfl) dX10_name_113 ?_
          refine V.if_eq (tgt := 124) F dX10_name_116 (by decide) (fun c15 => ?_) (fun c15 => ?_)
          · have h := t_out h c15
            refine V.rload_n F dX10_name_124 rfl rfl ?_
            refine V.bipush (v := 111) F dX10_name_125 (by decide) ?_
            refine V.bipush (v := 119) F dX10_name_127 (by decide) ?_
            refine V.bipush (v := 110) F dX10_name_129 (by decide) ?_
            refine V.iconst (v := 0) F dX10_name_131 (by decide) ?_
            refine V.iconst (v := 0) F dX10_name_132 (by decide) ?_
            refine V.iconst (v := 0) F dX10_name_133 (by decide) ?_
            refine V.iconst (v := 0) F dX10_name_134 (by decide) ?_
            refine V.iconst (v := 0) F dX10_name_135 (by decide) ?_
            obtain ⟨r17, e16, h⟩ := bnd_out h
            refine V.callVi (f := 0) (i := 0) (As := [.int 111, .int 119, .int 110, .int 0, .int 0, .int 0, .int 0, .int 0]) F ck_RX10_187 (M_isWord_ct e16) (by omega) (by decide) rfl mB0 rfl rfl rfl (Nat.le_of_ble_eq_true rfl) dX10_name_136 ?_
            refine V.if_eq (tgt := 147) F dX10_name_139 (by decide) (fun c18 => ?_) (fun c18 => ?_)
            · have h := t_out h c18
              refine V.rload_n F dX10_name_147 rfl rfl ?_
              obtain ⟨μ20, e19, h⟩ := nm_out h
              refine V.callVv (f := 0) (i := 0) (As := []) F ck_RX10_181 (M_fail_ct e19) (by omega) (by decide) rfl mB0 rfl rfl rfl (Nat.le_of_ble_eq_true rfl) dX10_name_148 ?_
              refine V.iconst (v := 0) F dX10_name_151 (by decide) ?_
              obtain ⟨rfl, rfl⟩ := r2_out h
              exact V.iret F dX10_name_152
            · have h := f_out h c18
              refine V.rload_n F dX10_name_142 rfl rfl ?_
              refine gf_RX10_206 F dX10_name_143 ?_
              obtain ⟨rfl, rfl⟩ := r2_out h
              exact V.iret F dX10_name_146
          · have h := f_out h c15
            refine V.rload_n F dX10_name_119 rfl rfl ?_
            refine gf_RX10_203 F dX10_name_120 ?_
            obtain ⟨rfl, rfl⟩ := r2_out h
            exact V.iret F dX10_name_123
        · have h := f_out h c12
          refine V.rload_n F dX10_name_95 rfl rfl ?_
          refine gf_RX10_200 F dX10_name_96 ?_
          obtain ⟨rfl, rfl⟩ := r2_out h
          exact V.iret F dX10_name_99
      · have h := f_out h c9
        refine V.rload_n F dX10_name_72 rfl rfl ?_
        refine gf_RX10_197 F dX10_name_73 ?_
        obtain ⟨rfl, rfl⟩ := r2_out h
        exact V.iret F dX10_name_76
    · have h := f_out h c6
      refine V.rload_n F dX10_name_46 rfl rfl ?_
      refine gf_RX10_194 F dX10_name_47 ?_
      obtain ⟨rfl, rfl⟩ := r2_out h
      exact V.iret F dX10_name_50
  · have h := f_out h c3
    refine V.rload_n F dX10_name_20 rfl rfl ?_
    refine gf_RX10_191 F dX10_name_21 ?_
    obtain ⟨rfl, rfl⟩ := r2_out h
    exact V.iret F dX10_name_24
set_option maxHeartbeats 4000000 in
set_option maxRecDepth 100000 in
theorem M_name_ct {l : Launch} {G : Glo} {μ : Mem} {r : Int32} {μ' : Mem} (h : M_name μ = some (r, μ')) : Ct l ΩB G 4 yX10_name cX10_name 1 (some .int) [.ref (G.1 0 0)] μ (some (.int r), μ') := by
  refine Ct.intro (by decide) (Nat.le_of_ble_eq_true rfl) ?_
  intro φ hl hG F
  subst hl; subst hG
  exact M_name_ok F (Nat.le_refl _) h
def M_recG (l : Launch) (G : Glo) (d w : Nat) (μ : Mem) (ρ : Option Value × Mem) : Prop := match w with
  | 0 => Ct l ΩB G d yX10_either cX10_either 3 (some .int) [.ref (G.1 0 0)] μ ρ
  | 1 => Ct l ΩB G d yX10_both cX10_both 3 (some .int) [.ref (G.1 0 0)] μ ρ
  | 2 => Ct l ΩB G d yX10_not cX10_not 4 (some .int) [.ref (G.1 0 0)] μ ρ
  | 3 => Ct l ΩB G d yX10_added cX10_added 4 (some .int) [.ref (G.1 0 0)] μ ρ
  | 4 => Ct l ΩB G d yX10_term cX10_term 2 (some .int) [.ref (G.1 0 0)] μ ρ
  | 5 => Ct l ΩB G d yX10_atom cX10_atom 2 (some .int) [.ref (G.1 0 0)] μ ρ
  | _ => False
def M_either_44 (rc : Nat → Mem → Option (Int32 × Mem)) (k5 : Int32 → Mem → Option (Int32 × Mem)) (y0 : Int32) (μ : Mem) : Option (Int32 × Mem) :=
  k5 y0 μ
set_option maxHeartbeats 4000000 in
set_option maxRecDepth 100000 in
theorem M_either_44_ok {φ : Fr} {d : Nat} (F : Fx φ ΩB cX10_either RX10 3 (some .int)) (hd : 5 ≤ d) {rc : Nat → Mem → Option (Int32 × Mem)} (hrc : ∀ (w : Nat) (μ : Mem) (r : Int32) (μ' : Mem), rc w μ = some (r, μ') → M_recG φ.1.2.1 (gl φ) d w μ (some (.int r), μ')) {k5 : Int32 → Mem → Option (Int32 × Mem)} (hk5 : ∀ (x1 : Int32) (μ : Mem) (r : Int32) (μ' : Mem), k5 x1 μ = some (r, μ') → V φ ΩB 3 (d + 1) 5 [some (rf φ 0 0), some (.int x1), none] [] μ (some (.int r), μ')) {y0 : Int32} {μ : Mem} {r : Int32} {μ' : Mem} (h : M_either_44 rc k5 y0 μ = some (r, μ')) : V φ ΩB 3 (d + 1) 44 [some (rf φ 0 0), none, none] [.int y0] μ (some (.int r), μ') := by
  unfold M_either_44 at h
  refine V.istore_n (L' := [some (rf φ 0 0), some (.int y0), none]) F dX10_either_44 rfl (by decide) rfl rfl rfl ?_
  refine V.goto (tgt := 5) F dX10_either_45 (by decide) ?_
  exact hk5 _ _ _ _ h
def M_either_5 (rc : Nat → Mem → Option (Int32 × Mem)) (k5 : Int32 → Mem → Option (Int32 × Mem)) (x1 : Int32) (μ : Mem) : Option (Int32 × Mem) :=
  bnd (M_isWord 111 114 0 0 0 0 0 0 μ) fun r2 =>
  if r2 = 0 then (
    some (x1, μ))
  else (
    bnd (M_next μ) fun μ5 =>
    bnd2 (rc 1 μ5) fun r7 μ8 =>
    if x1 = 0 then (
      if r7 = 0 then (
        M_either_44 rc k5 0 μ8)
      else (
        M_either_44 rc k5 1 μ8))
    else (
      M_either_44 rc k5 1 μ8))
set_option maxHeartbeats 4000000 in
set_option maxRecDepth 100000 in
theorem M_either_5_ok {φ : Fr} {d : Nat} (F : Fx φ ΩB cX10_either RX10 3 (some .int)) (hd : 5 ≤ d) {rc : Nat → Mem → Option (Int32 × Mem)} (hrc : ∀ (w : Nat) (μ : Mem) (r : Int32) (μ' : Mem), rc w μ = some (r, μ') → M_recG φ.1.2.1 (gl φ) d w μ (some (.int r), μ')) {k5 : Int32 → Mem → Option (Int32 × Mem)} (hk5 : ∀ (x1 : Int32) (μ : Mem) (r : Int32) (μ' : Mem), k5 x1 μ = some (r, μ') → V φ ΩB 3 (d + 1) 5 [some (rf φ 0 0), some (.int x1), none] [] μ (some (.int r), μ')) {x1 : Int32} {μ : Mem} {r : Int32} {μ' : Mem} (h : M_either_5 rc k5 x1 μ = some (r, μ')) : V φ ΩB 3 (d + 1) 5 [some (rf φ 0 0), some (.int x1), none] [] μ (some (.int r), μ') := by
  unfold M_either_5 at h
  refine V.rload_n F dX10_either_5 rfl rfl ?_
  refine V.bipush (v := 111) F dX10_either_6 (by decide) ?_
  refine V.bipush (v := 114) F dX10_either_8 (by decide) ?_
  refine V.iconst (v := 0) F dX10_either_10 (by decide) ?_
  refine V.iconst (v := 0) F dX10_either_11 (by decide) ?_
  refine V.iconst (v := 0) F dX10_either_12 (by decide) ?_
  refine V.iconst (v := 0) F dX10_either_13 (by decide) ?_
  refine V.iconst (v := 0) F dX10_either_14 (by decide) ?_
  refine V.iconst (v := 0) F dX10_either_15 (by decide) ?_
  obtain ⟨r2, e1, h⟩ := bnd_out h
  refine V.callVi (f := 0) (i := 0) (As := [.int 111, .int 114, .int 0, .int 0, .int 0, .int 0, .int 0, .int 0]) F ck_RX10_187 (M_isWord_ct e1) (by omega) (by decide) rfl mB0 rfl rfl rfl (Nat.le_of_ble_eq_true rfl) dX10_either_16 ?_
  refine V.if_eq (tgt := 48) F dX10_either_19 (by decide) (fun c3 => ?_) (fun c3 => ?_)
  · have h := t_out h c3
    refine V.iload_n F dX10_either_48 rfl rfl ?_
    obtain ⟨rfl, rfl⟩ := r2_out h
    exact V.iret F dX10_either_49
  · have h := f_out h c3
    refine V.rload_n F dX10_either_22 rfl rfl ?_
    obtain ⟨μ5, e4, h⟩ := bnd_out h
    refine V.callVv (f := 0) (i := 0) (As := []) F ck_RX10_184 (M_next_ct e4) (by omega) (by decide) rfl mB0 rfl rfl rfl (Nat.le_of_ble_eq_true rfl) dX10_either_23 ?_
    refine V.rload_n F dX10_either_26 rfl rfl ?_
    obtain ⟨r7, μ8, e6, h⟩ := bnd2_out h
    refine V.callVi (f := 0) (i := 0) (As := []) F ck_RX10_239 (hrc 1 _ _ _ e6) (by omega) (by decide) rfl mB0 rfl rfl rfl (Nat.le_of_ble_eq_true rfl) dX10_either_27 ?_
    refine V.istore_n (L' := [some (rf φ 0 0), some (.int x1), some (.int r7)]) F dX10_either_30 rfl (by decide) rfl rfl rfl ?_
    refine V.iload_n F dX10_either_31 rfl rfl ?_
    refine V.if_ne (tgt := 39) F dX10_either_32 (by decide) (fun c9 => ?_) (fun c9 => ?_)
    · have h := f_out h c9
      refine V.iconst (v := 1) F dX10_either_39 (by decide) ?_
      refine V.goto (tgt := 44) F dX10_either_40 (by decide) ?_
      refine V.msk (L' := [some (rf φ 0 0), none, none]) [true, false, false] rfl ?_
      exact M_either_44_ok F hd hrc hk5 h
    · have h := t_out h c9
      refine V.iload_n F dX10_either_35 rfl rfl ?_
      refine V.if_eq (tgt := 43) F dX10_either_36 (by decide) (fun c10 => ?_) (fun c10 => ?_)
      · have h := t_out h c10
        refine V.iconst (v := 0) F dX10_either_43 (by decide) ?_
        refine V.msk (L' := [some (rf φ 0 0), none, none]) [true, false, false] rfl ?_
        exact M_either_44_ok F hd hrc hk5 h
      · have h := f_out h c10
        refine V.iconst (v := 1) F dX10_either_39 (by decide) ?_
        refine V.goto (tgt := 44) F dX10_either_40 (by decide) ?_
        refine V.msk (L' := [some (rf φ 0 0), none, none]) [true, false, false] rfl ?_
        exact M_either_44_ok F hd hrc hk5 h
def M_either_5L (rc : Nat → Mem → Option (Int32 × Mem)) : Nat → Int32 → Mem → Option (Int32 × Mem)
  | 0 => fun _ _ => none
  | n + 1 => M_either_5 rc (M_either_5L rc n)
set_option maxHeartbeats 4000000 in
set_option maxRecDepth 100000 in
theorem M_either_5L_ok {φ : Fr} {d : Nat} (F : Fx φ ΩB cX10_either RX10 3 (some .int)) (hd : 5 ≤ d) {rc : Nat → Mem → Option (Int32 × Mem)} (hrc : ∀ (w : Nat) (μ : Mem) (r : Int32) (μ' : Mem), rc w μ = some (r, μ') → M_recG φ.1.2.1 (gl φ) d w μ (some (.int r), μ')) : ∀ (n : Nat) (x1 : Int32) (μ : Mem) (r : Int32) (μ' : Mem), M_either_5L rc n x1 μ = some (r, μ') → V φ ΩB 3 (d + 1) 5 [some (rf φ 0 0), some (.int x1), none] [] μ (some (.int r), μ') := by
  intro n
  induction n with
  | zero => intro x1 μ r μ' h; cases h
  | succ n ih => intro x1 μ r μ' h; exact M_either_5_ok F hd hrc ih h
def M_either (rc : Nat → Mem → Option (Int32 × Mem)) (μ : Mem) : Option (Int32 × Mem) :=
  bnd2 (rc 1 μ) fun r2 μ3 =>
  M_either_5L rc 1000 r2 μ3
set_option maxHeartbeats 4000000 in
set_option maxRecDepth 100000 in
theorem M_either_ok {φ : Fr} {d : Nat} (F : Fx φ ΩB cX10_either RX10 3 (some .int)) (hd : 5 ≤ d) {rc : Nat → Mem → Option (Int32 × Mem)} (hrc : ∀ (w : Nat) (μ : Mem) (r : Int32) (μ' : Mem), rc w μ = some (r, μ') → M_recG φ.1.2.1 (gl φ) d w μ (some (.int r), μ')) {μ : Mem} {r : Int32} {μ' : Mem} (h : M_either rc μ = some (r, μ')) : V φ ΩB 3 (d + 1) 0 [some (rf φ 0 0), none, none] [] μ (some (.int r), μ') := by
  unfold M_either at h
  refine V.rload_n F dX10_either_0 rfl rfl ?_
  obtain ⟨r2, μ3, e1, h⟩ := bnd2_out h
  refine V.callVi (f := 0) (i := 0) (As := []) F ck_RX10_239 (hrc 1 _ _ _ e1) (by omega) (by decide) rfl mB0 rfl rfl rfl (Nat.le_of_ble_eq_true rfl) dX10_either_1 ?_
  refine V.istore_n (L' := [some (rf φ 0 0), some (.int r2), none]) F dX10_either_4 rfl (by decide) rfl rfl rfl ?_
  exact M_either_5L_ok F hd hrc 1000 _ _ _ _ h
def M_both_45 (rc : Nat → Mem → Option (Int32 × Mem)) (k5 : Int32 → Mem → Option (Int32 × Mem)) (y0 : Int32) (μ : Mem) : Option (Int32 × Mem) :=
  k5 y0 μ
set_option maxHeartbeats 4000000 in
set_option maxRecDepth 100000 in
theorem M_both_45_ok {φ : Fr} {d : Nat} (F : Fx φ ΩB cX10_both RX10 3 (some .int)) (hd : 5 ≤ d) {rc : Nat → Mem → Option (Int32 × Mem)} (hrc : ∀ (w : Nat) (μ : Mem) (r : Int32) (μ' : Mem), rc w μ = some (r, μ') → M_recG φ.1.2.1 (gl φ) d w μ (some (.int r), μ')) {k5 : Int32 → Mem → Option (Int32 × Mem)} (hk5 : ∀ (x1 : Int32) (μ : Mem) (r : Int32) (μ' : Mem), k5 x1 μ = some (r, μ') → V φ ΩB 3 (d + 1) 5 [some (rf φ 0 0), some (.int x1), none] [] μ (some (.int r), μ')) {y0 : Int32} {μ : Mem} {r : Int32} {μ' : Mem} (h : M_both_45 rc k5 y0 μ = some (r, μ')) : V φ ΩB 3 (d + 1) 45 [some (rf φ 0 0), none, none] [.int y0] μ (some (.int r), μ') := by
  unfold M_both_45 at h
  refine V.istore_n (L' := [some (rf φ 0 0), some (.int y0), none]) F dX10_both_45 rfl (by decide) rfl rfl rfl ?_
  refine V.goto (tgt := 5) F dX10_both_46 (by decide) ?_
  exact hk5 _ _ _ _ h
def M_both_5 (rc : Nat → Mem → Option (Int32 × Mem)) (k5 : Int32 → Mem → Option (Int32 × Mem)) (x1 : Int32) (μ : Mem) : Option (Int32 × Mem) :=
  bnd (M_isWord 97 110 100 0 0 0 0 0 μ) fun r2 =>
  if r2 = 0 then (
    some (x1, μ))
  else (
    bnd (M_next μ) fun μ5 =>
    bnd2 (rc 2 μ5) fun r7 μ8 =>
    if x1 = 0 then (
      M_both_45 rc k5 0 μ8)
    else (
      if r7 = 0 then (
        M_both_45 rc k5 0 μ8)
      else (
        M_both_45 rc k5 1 μ8)))
set_option maxHeartbeats 4000000 in
set_option maxRecDepth 100000 in
theorem M_both_5_ok {φ : Fr} {d : Nat} (F : Fx φ ΩB cX10_both RX10 3 (some .int)) (hd : 5 ≤ d) {rc : Nat → Mem → Option (Int32 × Mem)} (hrc : ∀ (w : Nat) (μ : Mem) (r : Int32) (μ' : Mem), rc w μ = some (r, μ') → M_recG φ.1.2.1 (gl φ) d w μ (some (.int r), μ')) {k5 : Int32 → Mem → Option (Int32 × Mem)} (hk5 : ∀ (x1 : Int32) (μ : Mem) (r : Int32) (μ' : Mem), k5 x1 μ = some (r, μ') → V φ ΩB 3 (d + 1) 5 [some (rf φ 0 0), some (.int x1), none] [] μ (some (.int r), μ')) {x1 : Int32} {μ : Mem} {r : Int32} {μ' : Mem} (h : M_both_5 rc k5 x1 μ = some (r, μ')) : V φ ΩB 3 (d + 1) 5 [some (rf φ 0 0), some (.int x1), none] [] μ (some (.int r), μ') := by
  unfold M_both_5 at h
  refine V.rload_n F dX10_both_5 rfl rfl ?_
  refine V.bipush (v := 97) F dX10_both_6 (by decide) ?_
  refine V.bipush (v := 110) F dX10_both_8 (by decide) ?_
  refine V.bipush (v := 100) F dX10_both_10 (by decide) ?_
  refine V.iconst (v := 0) F dX10_both_12 (by decide) ?_
  refine V.iconst (v := 0) F dX10_both_13 (by decide) ?_
  refine V.iconst (v := 0) F dX10_both_14 (by decide) ?_
  refine V.iconst (v := 0) F dX10_both_15 (by decide) ?_
  refine V.iconst (v := 0) F dX10_both_16 (by decide) ?_
  obtain ⟨r2, e1, h⟩ := bnd_out h
  refine V.callVi (f := 0) (i := 0) (As := [.int 97, .int 110, .int 100, .int 0, .int 0, .int 0, .int 0, .int 0]) F ck_RX10_187 (M_isWord_ct e1) (by omega) (by decide) rfl mB0 rfl rfl rfl (Nat.le_of_ble_eq_true rfl) dX10_both_17 ?_
  refine V.if_eq (tgt := 49) F dX10_both_20 (by decide) (fun c3 => ?_) (fun c3 => ?_)
  · have h := t_out h c3
    refine V.iload_n F dX10_both_49 rfl rfl ?_
    obtain ⟨rfl, rfl⟩ := r2_out h
    exact V.iret F dX10_both_50
  · have h := f_out h c3
    refine V.rload_n F dX10_both_23 rfl rfl ?_
    obtain ⟨μ5, e4, h⟩ := bnd_out h
    refine V.callVv (f := 0) (i := 0) (As := []) F ck_RX10_184 (M_next_ct e4) (by omega) (by decide) rfl mB0 rfl rfl rfl (Nat.le_of_ble_eq_true rfl) dX10_both_24 ?_
    refine V.rload_n F dX10_both_27 rfl rfl ?_
    obtain ⟨r7, μ8, e6, h⟩ := bnd2_out h
    refine V.callVi (f := 0) (i := 0) (As := []) F ck_RX10_231 (hrc 2 _ _ _ e6) (by omega) (by decide) rfl mB0 rfl rfl rfl (Nat.le_of_ble_eq_true rfl) dX10_both_28 ?_
    refine V.istore_n (L' := [some (rf φ 0 0), some (.int x1), some (.int r7)]) F dX10_both_31 rfl (by decide) rfl rfl rfl ?_
    refine V.iload_n F dX10_both_32 rfl rfl ?_
    refine V.if_eq (tgt := 44) F dX10_both_33 (by decide) (fun c9 => ?_) (fun c9 => ?_)
    · have h := t_out h c9
      refine V.iconst (v := 0) F dX10_both_44 (by decide) ?_
      refine V.msk (L' := [some (rf φ 0 0), none, none]) [true, false, false] rfl ?_
      exact M_both_45_ok F hd hrc hk5 h
    · have h := f_out h c9
      refine V.iload_n F dX10_both_36 rfl rfl ?_
      refine V.if_eq (tgt := 44) F dX10_both_37 (by decide) (fun c10 => ?_) (fun c10 => ?_)
      · have h := t_out h c10
        refine V.iconst (v := 0) F dX10_both_44 (by decide) ?_
        refine V.msk (L' := [some (rf φ 0 0), none, none]) [true, false, false] rfl ?_
        exact M_both_45_ok F hd hrc hk5 h
      · have h := f_out h c10
        refine V.iconst (v := 1) F dX10_both_40 (by decide) ?_
        refine V.goto (tgt := 45) F dX10_both_41 (by decide) ?_
        refine V.msk (L' := [some (rf φ 0 0), none, none]) [true, false, false] rfl ?_
        exact M_both_45_ok F hd hrc hk5 h
def M_both_5L (rc : Nat → Mem → Option (Int32 × Mem)) : Nat → Int32 → Mem → Option (Int32 × Mem)
  | 0 => fun _ _ => none
  | n + 1 => M_both_5 rc (M_both_5L rc n)
set_option maxHeartbeats 4000000 in
set_option maxRecDepth 100000 in
theorem M_both_5L_ok {φ : Fr} {d : Nat} (F : Fx φ ΩB cX10_both RX10 3 (some .int)) (hd : 5 ≤ d) {rc : Nat → Mem → Option (Int32 × Mem)} (hrc : ∀ (w : Nat) (μ : Mem) (r : Int32) (μ' : Mem), rc w μ = some (r, μ') → M_recG φ.1.2.1 (gl φ) d w μ (some (.int r), μ')) : ∀ (n : Nat) (x1 : Int32) (μ : Mem) (r : Int32) (μ' : Mem), M_both_5L rc n x1 μ = some (r, μ') → V φ ΩB 3 (d + 1) 5 [some (rf φ 0 0), some (.int x1), none] [] μ (some (.int r), μ') := by
  intro n
  induction n with
  | zero => intro x1 μ r μ' h; cases h
  | succ n ih => intro x1 μ r μ' h; exact M_both_5_ok F hd hrc ih h
def M_both (rc : Nat → Mem → Option (Int32 × Mem)) (μ : Mem) : Option (Int32 × Mem) :=
  bnd2 (rc 2 μ) fun r2 μ3 =>
  M_both_5L rc 1000 r2 μ3
set_option maxHeartbeats 4000000 in
set_option maxRecDepth 100000 in
theorem M_both_ok {φ : Fr} {d : Nat} (F : Fx φ ΩB cX10_both RX10 3 (some .int)) (hd : 5 ≤ d) {rc : Nat → Mem → Option (Int32 × Mem)} (hrc : ∀ (w : Nat) (μ : Mem) (r : Int32) (μ' : Mem), rc w μ = some (r, μ') → M_recG φ.1.2.1 (gl φ) d w μ (some (.int r), μ')) {μ : Mem} {r : Int32} {μ' : Mem} (h : M_both rc μ = some (r, μ')) : V φ ΩB 3 (d + 1) 0 [some (rf φ 0 0), none, none] [] μ (some (.int r), μ') := by
  unfold M_both at h
  refine V.rload_n F dX10_both_0 rfl rfl ?_
  obtain ⟨r2, μ3, e1, h⟩ := bnd2_out h
  refine V.callVi (f := 0) (i := 0) (As := []) F ck_RX10_231 (hrc 2 _ _ _ e1) (by omega) (by decide) rfl mB0 rfl rfl rfl (Nat.le_of_ble_eq_true rfl) dX10_both_1 ?_
  refine V.istore_n (L' := [some (rf φ 0 0), some (.int r2), none]) F dX10_both_4 rfl (by decide) rfl rfl rfl ?_
  exact M_both_5L_ok F hd hrc 1000 _ _ _ _ h
def M_not_93 (rc : Nat → Mem → Option (Int32 × Mem)) (x1 : Int32) (y0 : Int32) (μ : Mem) : Option (Int32 × Mem) :=
  bnd (M_next μ) fun μ2 =>
  bnd2 (rc 3 μ2) fun r4 μ5 =>
  if y0 = 0 then (
    if x1 = r4 then (
      some (1, μ5))
    else (
      some (0, μ5)))
  else (
    if x1 < r4 then (
      some (1, μ5))
    else (
      some (0, μ5)))
set_option maxHeartbeats 4000000 in
set_option maxRecDepth 100000 in
theorem M_not_93_ok {φ : Fr} {d : Nat} (F : Fx φ ΩB cX10_not RX10 4 (some .int)) (hd : 5 ≤ d) {rc : Nat → Mem → Option (Int32 × Mem)} (hrc : ∀ (w : Nat) (μ : Mem) (r : Int32) (μ' : Mem), rc w μ = some (r, μ') → M_recG φ.1.2.1 (gl φ) d w μ (some (.int r), μ')) {x1 : Int32} {y0 : Int32} {μ : Mem} {r : Int32} {μ' : Mem} (h : M_not_93 rc x1 y0 μ = some (r, μ')) : V φ ΩB 4 (d + 1) 93 [some (rf φ 0 0), some (.int x1), none, none] [.int y0] μ (some (.int r), μ') := by
  unfold M_not_93 at h
  refine V.istore_n (L' := [some (rf φ 0 0), some (.int x1), some (.int y0), none]) F dX10_not_93 rfl (by decide) rfl rfl rfl ?_
  refine V.rload_n F dX10_not_94 rfl rfl ?_
  obtain ⟨μ2, e1, h⟩ := bnd_out h
  refine V.callVv (f := 0) (i := 0) (As := []) F ck_RX10_184 (M_next_ct e1) (by omega) (by decide) rfl mB0 rfl rfl rfl (Nat.le_of_ble_eq_true rfl) dX10_not_95 ?_
  refine V.rload_n F dX10_not_98 rfl rfl ?_
  obtain ⟨r4, μ5, e3, h⟩ := bnd2_out h
  refine V.callVi (f := 0) (i := 0) (As := []) F ck_RX10_234 (hrc 3 _ _ _ e3) (by omega) (by decide) rfl mB0 rfl rfl rfl (Nat.le_of_ble_eq_true rfl) dX10_not_99 ?_
  refine V.istore_n (L' := [some (rf φ 0 0), some (.int x1), some (.int y0), some (.int r4)]) F dX10_not_102 rfl (by decide) rfl rfl rfl ?_
  refine V.iload_n F dX10_not_103 rfl rfl ?_
  refine V.if_eq (tgt := 115) F dX10_not_104 (by decide) (fun c6 => ?_) (fun c6 => ?_)
  · have h := t_out h c6
    refine V.iload_n F dX10_not_115 rfl rfl ?_
    refine V.iload_n F dX10_not_116 rfl rfl ?_
    refine V.icmp_ne (tgt := 124) F dX10_not_117 (by decide) (fun c7 => ?_) (fun c7 => ?_)
    · have h := f_out h c7
      refine V.iconst (v := 0) F dX10_not_124 (by decide) ?_
      obtain ⟨rfl, rfl⟩ := r2_out h
      exact V.iret F dX10_not_125
    · have h := t_out h c7
      refine V.iconst (v := 1) F dX10_not_120 (by decide) ?_
      refine V.goto (tgt := 125) F dX10_not_121 (by decide) ?_
      obtain ⟨rfl, rfl⟩ := r2_out h
      exact V.iret F dX10_not_125
  · have h := f_out h c6
    refine V.iload_n F dX10_not_107 rfl rfl ?_
    refine V.iload_n F dX10_not_108 rfl rfl ?_
    refine V.icmp_ge (tgt := 124) F dX10_not_109 (by decide) (fun c8 => ?_) (fun c8 => ?_)
    · have h := f_out h c8
      refine V.iconst (v := 0) F dX10_not_124 (by decide) ?_
      obtain ⟨rfl, rfl⟩ := r2_out h
      exact V.iret F dX10_not_125
    · have h := t_out h c8
      refine V.goto (tgt := 120) F dX10_not_112 (by decide) ?_
      refine V.iconst (v := 1) F dX10_not_120 (by decide) ?_
      refine V.goto (tgt := 125) F dX10_not_121 (by decide) ?_
      obtain ⟨rfl, rfl⟩ := r2_out h
      exact V.iret F dX10_not_125
def M_not_77 (rc : Nat → Mem → Option (Int32 × Mem)) (x1 : Int32) (μ : Mem) : Option (Int32 × Mem) :=
  if (lg_cmp (rdL μ) 60) = 0 then (
    M_not_93 rc x1 1 μ)
  else (
    M_not_93 rc x1 0 μ)
set_option maxHeartbeats 4000000 in
set_option maxRecDepth 100000 in
theorem M_not_77_ok {φ : Fr} {d : Nat} (F : Fx φ ΩB cX10_not RX10 4 (some .int)) (hd : 5 ≤ d) {rc : Nat → Mem → Option (Int32 × Mem)} (hrc : ∀ (w : Nat) (μ : Mem) (r : Int32) (μ' : Mem), rc w μ = some (r, μ') → M_recG φ.1.2.1 (gl φ) d w μ (some (.int r), μ')) {x1 : Int32} {μ : Mem} {r : Int32} {μ' : Mem} (h : M_not_77 rc x1 μ = some (r, μ')) : V φ ΩB 4 (d + 1) 77 [some (rf φ 0 0), some (.int x1), none, none] [] μ (some (.int r), μ') := by
  unfold M_not_77 at h
  refine V.rload_n F dX10_not_77 rfl rfl ?_
  refine gf_RX10_163 F dX10_not_78 ?_
  refine V.ldc2 F kl_RX10_237 dX10_not_81 ?_
  refine V.lcmp F dX10_not_84 ?_
  refine V.if_ne (tgt := 92) F dX10_not_85 (by decide) (fun c1 => ?_) (fun c1 => ?_)
  · have h := f_out h c1
    refine V.iconst (v := 0) F dX10_not_92 (by decide) ?_
    exact M_not_93_ok F hd hrc h
  · have h := t_out h c1
    refine V.iconst (v := 1) F dX10_not_88 (by decide) ?_
    refine V.goto (tgt := 93) F dX10_not_89 (by decide) ?_
    exact M_not_93_ok F hd hrc h
def M_not (rc : Nat → Mem → Option (Int32 × Mem)) (μ : Mem) : Option (Int32 × Mem) :=
  bnd (M_isWord 110 111 116 0 0 0 0 0 μ) fun r2 =>
  if r2 = 0 then (
    bnd2 (rc 3 μ) fun r5 μ6 =>
    nm (M_isSign 60 μ6) fun r8 =>
    if r8 = 0 then (
      nm (M_isSign 61 μ6) fun r11 =>
      if r11 = 0 then (
        some (r5, μ6))
      else (
        M_not_77 rc r5 μ6))
    else (
      M_not_77 rc r5 μ6))
  else (
    bnd2 (M_opens μ) fun r14 μ15 =>
    if r14 = 0 then (
      some (0, μ15))
    else (
      bnd2 (rc 2 μ15) fun r18 μ19 =>
      nm (up μ19 0 0 25 ((rd μ19 0 0 25) - 1)) fun μ20 =>
      if r18 = 0 then (
        some (1, μ20))
      else (
        some (0, μ20))))
set_option maxHeartbeats 4000000 in
set_option maxRecDepth 100000 in
theorem M_not_ok {φ : Fr} {d : Nat} (F : Fx φ ΩB cX10_not RX10 4 (some .int)) (hd : 5 ≤ d) {rc : Nat → Mem → Option (Int32 × Mem)} (hrc : ∀ (w : Nat) (μ : Mem) (r : Int32) (μ' : Mem), rc w μ = some (r, μ') → M_recG φ.1.2.1 (gl φ) d w μ (some (.int r), μ')) {μ : Mem} {r : Int32} {μ' : Mem} (h : M_not rc μ = some (r, μ')) : V φ ΩB 4 (d + 1) 0 [some (rf φ 0 0), none, none, none] [] μ (some (.int r), μ') := by
  unfold M_not at h
  refine V.rload_n F dX10_not_0 rfl rfl ?_
  refine V.bipush (v := 110) F dX10_not_1 (by decide) ?_
  refine V.bipush (v := 111) F dX10_not_3 (by decide) ?_
  refine V.bipush (v := 116) F dX10_not_5 (by decide) ?_
  refine V.iconst (v := 0) F dX10_not_7 (by decide) ?_
  refine V.iconst (v := 0) F dX10_not_8 (by decide) ?_
  refine V.iconst (v := 0) F dX10_not_9 (by decide) ?_
  refine V.iconst (v := 0) F dX10_not_10 (by decide) ?_
  refine V.iconst (v := 0) F dX10_not_11 (by decide) ?_
  obtain ⟨r2, e1, h⟩ := bnd_out h
  refine V.callVi (f := 0) (i := 0) (As := [.int 110, .int 111, .int 116, .int 0, .int 0, .int 0, .int 0, .int 0]) F ck_RX10_187 (M_isWord_ct e1) (by omega) (by decide) rfl mB0 rfl rfl rfl (Nat.le_of_ble_eq_true rfl) dX10_not_12 ?_
  refine V.if_eq (tgt := 52) F dX10_not_15 (by decide) (fun c3 => ?_) (fun c3 => ?_)
  · have h := t_out h c3
    refine V.rload_n F dX10_not_52 rfl rfl ?_
    obtain ⟨r5, μ6, e4, h⟩ := bnd2_out h
    refine V.callVi (f := 0) (i := 0) (As := []) F ck_RX10_234 (hrc 3 _ _ _ e4) (by omega) (by decide) rfl mB0 rfl rfl rfl (Nat.le_of_ble_eq_true rfl) dX10_not_53 ?_
    refine V.istore_n (L' := [some (rf φ 0 0), some (.int r5), none, none]) F dX10_not_56 rfl (by decide) rfl rfl rfl ?_
    refine V.rload_n F dX10_not_57 rfl rfl ?_
    refine V.bipush (v := 60) F dX10_not_58 (by decide) ?_
    obtain ⟨r8, e7, h⟩ := nm_out h
    refine V.callVi (f := 0) (i := 0) (As := [.int 60]) F ck_RX10_209 (M_isSign_ct e7) (by omega) (by decide) rfl mB0 rfl rfl rfl (Nat.le_of_ble_eq_true rfl) dX10_not_60 ?_
    refine V.if_ne (tgt := 77) F dX10_not_63 (by decide) (fun c9 => ?_) (fun c9 => ?_)
    · have h := f_out h c9
      exact M_not_77_ok F hd hrc h
    · have h := t_out h c9
      refine V.rload_n F dX10_not_66 rfl rfl ?_
      refine V.bipush (v := 61) F dX10_not_67 (by decide) ?_
      obtain ⟨r11, e10, h⟩ := nm_out h
      refine V.callVi (f := 0) (i := 0) (As := [.int 61]) F ck_RX10_209 (M_isSign_ct e10) (by omega) (by decide) rfl mB0 rfl rfl rfl (Nat.le_of_ble_eq_true rfl) dX10_not_69 ?_
      refine V.if_ne (tgt := 77) F dX10_not_72 (by decide) (fun c12 => ?_) (fun c12 => ?_)
      · have h := f_out h c12
        exact M_not_77_ok F hd hrc h
      · have h := t_out h c12
        refine V.iload_n F dX10_not_75 rfl rfl ?_
        obtain ⟨rfl, rfl⟩ := r2_out h
        exact V.iret F dX10_not_76
  · have h := f_out h c3
    refine V.rload_n F dX10_not_18 rfl rfl ?_
    obtain ⟨r14, μ15, e13, h⟩ := bnd2_out h
    refine V.callVi (f := 0) (i := 0) (As := []) F ck_RX10_212 (M_opens_ct e13) (by omega) (by decide) rfl mB0 rfl rfl rfl (Nat.le_of_ble_eq_true rfl) dX10_not_19 ?_
    refine V.if_ne (tgt := 27) F dX10_not_22 (by decide) (fun c16 => ?_) (fun c16 => ?_)
    · have h := f_out h c16
      refine V.rload_n F dX10_not_27 rfl rfl ?_
      obtain ⟨r18, μ19, e17, h⟩ := bnd2_out h
      refine V.callVi (f := 0) (i := 0) (As := []) F ck_RX10_231 (hrc 2 _ _ _ e17) (by omega) (by decide) rfl mB0 rfl rfl rfl (Nat.le_of_ble_eq_true rfl) dX10_not_28 ?_
      refine V.istore_n (L' := [some (rf φ 0 0), some (.int r18), none, none]) F dX10_not_31 rfl (by decide) rfl rfl rfl ?_
      refine V.rload_n F dX10_not_32 rfl rfl ?_
      refine V.dup F dX10_not_33 rfl ?_
      refine gf_RX10_178 F dX10_not_34 ?_
      refine V.iconst (v := 1) F dX10_not_37 (by decide) ?_
      refine V.isub F dX10_not_38 ?_
      obtain ⟨μ20, eμ20, h⟩ := nm_out h
      refine pf_RX10_178 F eμ20 dX10_not_39 ?_
      refine V.iload_n F dX10_not_42 rfl rfl ?_
      refine V.if_ne (tgt := 50) F dX10_not_43 (by decide) (fun c21 => ?_) (fun c21 => ?_)
      · have h := f_out h c21
        refine V.iconst (v := 0) F dX10_not_50 (by decide) ?_
        obtain ⟨rfl, rfl⟩ := r2_out h
        exact V.iret F dX10_not_51
      · have h := t_out h c21
        refine V.iconst (v := 1) F dX10_not_46 (by decide) ?_
        refine V.goto (tgt := 51) F dX10_not_47 (by decide) ?_
        obtain ⟨rfl, rfl⟩ := r2_out h
        exact V.iret F dX10_not_51
    · have h := t_out h c16
      refine V.iconst (v := 0) F dX10_not_25 (by decide) ?_
      obtain ⟨rfl, rfl⟩ := r2_out h
      exact V.iret F dX10_not_26
def M_added_62 (rc : Nat → Mem → Option (Int32 × Mem)) (k5 : Int32 → Mem → Option (Int32 × Mem)) (y0 : Int32) (μ : Mem) : Option (Int32 × Mem) :=
  k5 y0 μ
set_option maxHeartbeats 4000000 in
set_option maxRecDepth 100000 in
theorem M_added_62_ok {φ : Fr} {d : Nat} (F : Fx φ ΩB cX10_added RX10 4 (some .int)) (hd : 5 ≤ d) {rc : Nat → Mem → Option (Int32 × Mem)} (hrc : ∀ (w : Nat) (μ : Mem) (r : Int32) (μ' : Mem), rc w μ = some (r, μ') → M_recG φ.1.2.1 (gl φ) d w μ (some (.int r), μ')) {k5 : Int32 → Mem → Option (Int32 × Mem)} (hk5 : ∀ (x1 : Int32) (μ : Mem) (r : Int32) (μ' : Mem), k5 x1 μ = some (r, μ') → V φ ΩB 4 (d + 1) 5 [some (rf φ 0 0), some (.int x1), none, none] [] μ (some (.int r), μ')) {y0 : Int32} {μ : Mem} {r : Int32} {μ' : Mem} (h : M_added_62 rc k5 y0 μ = some (r, μ')) : V φ ΩB 4 (d + 1) 62 [some (rf φ 0 0), none, none, none] [.int y0] μ (some (.int r), μ') := by
  unfold M_added_62 at h
  refine V.istore_n (L' := [some (rf φ 0 0), some (.int y0), none, none]) F dX10_added_62 rfl (by decide) rfl rfl rfl ?_
  refine V.goto (tgt := 5) F dX10_added_63 (by decide) ?_
  exact hk5 _ _ _ _ h
def M_added_39 (rc : Nat → Mem → Option (Int32 × Mem)) (k5 : Int32 → Mem → Option (Int32 × Mem)) (x1 : Int32) (y0 : Int32) (μ : Mem) : Option (Int32 × Mem) :=
  bnd (M_next μ) fun μ2 =>
  bnd2 (rc 4 μ2) fun r4 μ5 =>
  if y0 = 0 then (
    M_added_62 rc k5 (x1 - r4) μ5)
  else (
    M_added_62 rc k5 (x1 + r4) μ5)
set_option maxHeartbeats 4000000 in
set_option maxRecDepth 100000 in
theorem M_added_39_ok {φ : Fr} {d : Nat} (F : Fx φ ΩB cX10_added RX10 4 (some .int)) (hd : 5 ≤ d) {rc : Nat → Mem → Option (Int32 × Mem)} (hrc : ∀ (w : Nat) (μ : Mem) (r : Int32) (μ' : Mem), rc w μ = some (r, μ') → M_recG φ.1.2.1 (gl φ) d w μ (some (.int r), μ')) {k5 : Int32 → Mem → Option (Int32 × Mem)} (hk5 : ∀ (x1 : Int32) (μ : Mem) (r : Int32) (μ' : Mem), k5 x1 μ = some (r, μ') → V φ ΩB 4 (d + 1) 5 [some (rf φ 0 0), some (.int x1), none, none] [] μ (some (.int r), μ')) {x1 : Int32} {y0 : Int32} {μ : Mem} {r : Int32} {μ' : Mem} (h : M_added_39 rc k5 x1 y0 μ = some (r, μ')) : V φ ΩB 4 (d + 1) 39 [some (rf φ 0 0), some (.int x1), none, none] [.int y0] μ (some (.int r), μ') := by
  unfold M_added_39 at h
  refine V.istore_n (L' := [some (rf φ 0 0), some (.int x1), some (.int y0), none]) F dX10_added_39 rfl (by decide) rfl rfl rfl ?_
  refine V.rload_n F dX10_added_40 rfl rfl ?_
  obtain ⟨μ2, e1, h⟩ := bnd_out h
  refine V.callVv (f := 0) (i := 0) (As := []) F ck_RX10_184 (M_next_ct e1) (by omega) (by decide) rfl mB0 rfl rfl rfl (Nat.le_of_ble_eq_true rfl) dX10_added_41 ?_
  refine V.rload_n F dX10_added_44 rfl rfl ?_
  obtain ⟨r4, μ5, e3, h⟩ := bnd2_out h
  refine V.callVi (f := 0) (i := 0) (As := []) F ck_RX10_226 (hrc 4 _ _ _ e3) (by omega) (by decide) rfl mB0 rfl rfl rfl (Nat.le_of_ble_eq_true rfl) dX10_added_45 ?_
  refine V.istore_n (L' := [some (rf φ 0 0), some (.int x1), some (.int y0), some (.int r4)]) F dX10_added_48 rfl (by decide) rfl rfl rfl ?_
  refine V.iload_n F dX10_added_49 rfl rfl ?_
  refine V.if_eq (tgt := 59) F dX10_added_50 (by decide) (fun c6 => ?_) (fun c6 => ?_)
  · have h := t_out h c6
    refine V.iload_n F dX10_added_59 rfl rfl ?_
    refine V.iload_n F dX10_added_60 rfl rfl ?_
    refine V.isub F dX10_added_61 ?_
    refine V.msk (L' := [some (rf φ 0 0), none, none, none]) [true, false, false, false] rfl ?_
    exact M_added_62_ok F hd hrc hk5 h
  · have h := f_out h c6
    refine V.iload_n F dX10_added_53 rfl rfl ?_
    refine V.iload_n F dX10_added_54 rfl rfl ?_
    refine V.iadd F dX10_added_55 ?_
    refine V.goto (tgt := 62) F dX10_added_56 (by decide) ?_
    refine V.msk (L' := [some (rf φ 0 0), none, none, none]) [true, false, false, false] rfl ?_
    exact M_added_62_ok F hd hrc hk5 h
def M_added_23 (rc : Nat → Mem → Option (Int32 × Mem)) (k5 : Int32 → Mem → Option (Int32 × Mem)) (x1 : Int32) (μ : Mem) : Option (Int32 × Mem) :=
  if (lg_cmp (rdL μ) 43) = 0 then (
    M_added_39 rc k5 x1 1 μ)
  else (
    M_added_39 rc k5 x1 0 μ)
set_option maxHeartbeats 4000000 in
set_option maxRecDepth 100000 in
theorem M_added_23_ok {φ : Fr} {d : Nat} (F : Fx φ ΩB cX10_added RX10 4 (some .int)) (hd : 5 ≤ d) {rc : Nat → Mem → Option (Int32 × Mem)} (hrc : ∀ (w : Nat) (μ : Mem) (r : Int32) (μ' : Mem), rc w μ = some (r, μ') → M_recG φ.1.2.1 (gl φ) d w μ (some (.int r), μ')) {k5 : Int32 → Mem → Option (Int32 × Mem)} (hk5 : ∀ (x1 : Int32) (μ : Mem) (r : Int32) (μ' : Mem), k5 x1 μ = some (r, μ') → V φ ΩB 4 (d + 1) 5 [some (rf φ 0 0), some (.int x1), none, none] [] μ (some (.int r), μ')) {x1 : Int32} {μ : Mem} {r : Int32} {μ' : Mem} (h : M_added_23 rc k5 x1 μ = some (r, μ')) : V φ ΩB 4 (d + 1) 23 [some (rf φ 0 0), some (.int x1), none, none] [] μ (some (.int r), μ') := by
  unfold M_added_23 at h
  refine V.rload_n F dX10_added_23 rfl rfl ?_
  refine gf_RX10_163 F dX10_added_24 ?_
  refine V.ldc2 F kl_RX10_229 dX10_added_27 ?_
  refine V.lcmp F dX10_added_30 ?_
  refine V.if_ne (tgt := 38) F dX10_added_31 (by decide) (fun c1 => ?_) (fun c1 => ?_)
  · have h := f_out h c1
    refine V.iconst (v := 0) F dX10_added_38 (by decide) ?_
    exact M_added_39_ok F hd hrc hk5 h
  · have h := t_out h c1
    refine V.iconst (v := 1) F dX10_added_34 (by decide) ?_
    refine V.goto (tgt := 39) F dX10_added_35 (by decide) ?_
    exact M_added_39_ok F hd hrc hk5 h
def M_added_5 (rc : Nat → Mem → Option (Int32 × Mem)) (k5 : Int32 → Mem → Option (Int32 × Mem)) (x1 : Int32) (μ : Mem) : Option (Int32 × Mem) :=
  nm (M_isSign 43 μ) fun r2 =>
  if r2 = 0 then (
    nm (M_isSign 45 μ) fun r5 =>
    if r5 = 0 then (
      some (x1, μ))
    else (
      M_added_23 rc k5 x1 μ))
  else (
    M_added_23 rc k5 x1 μ)
set_option maxHeartbeats 4000000 in
set_option maxRecDepth 100000 in
theorem M_added_5_ok {φ : Fr} {d : Nat} (F : Fx φ ΩB cX10_added RX10 4 (some .int)) (hd : 5 ≤ d) {rc : Nat → Mem → Option (Int32 × Mem)} (hrc : ∀ (w : Nat) (μ : Mem) (r : Int32) (μ' : Mem), rc w μ = some (r, μ') → M_recG φ.1.2.1 (gl φ) d w μ (some (.int r), μ')) {k5 : Int32 → Mem → Option (Int32 × Mem)} (hk5 : ∀ (x1 : Int32) (μ : Mem) (r : Int32) (μ' : Mem), k5 x1 μ = some (r, μ') → V φ ΩB 4 (d + 1) 5 [some (rf φ 0 0), some (.int x1), none, none] [] μ (some (.int r), μ')) {x1 : Int32} {μ : Mem} {r : Int32} {μ' : Mem} (h : M_added_5 rc k5 x1 μ = some (r, μ')) : V φ ΩB 4 (d + 1) 5 [some (rf φ 0 0), some (.int x1), none, none] [] μ (some (.int r), μ') := by
  unfold M_added_5 at h
  refine V.rload_n F dX10_added_5 rfl rfl ?_
  refine V.bipush (v := 43) F dX10_added_6 (by decide) ?_
  obtain ⟨r2, e1, h⟩ := nm_out h
  refine V.callVi (f := 0) (i := 0) (As := [.int 43]) F ck_RX10_209 (M_isSign_ct e1) (by omega) (by decide) rfl mB0 rfl rfl rfl (Nat.le_of_ble_eq_true rfl) dX10_added_8 ?_
  refine V.if_ne (tgt := 23) F dX10_added_11 (by decide) (fun c3 => ?_) (fun c3 => ?_)
  · have h := f_out h c3
    exact M_added_23_ok F hd hrc hk5 h
  · have h := t_out h c3
    refine V.rload_n F dX10_added_14 rfl rfl ?_
    refine V.bipush (v := 45) F dX10_added_15 (by decide) ?_
    obtain ⟨r5, e4, h⟩ := nm_out h
    refine V.callVi (f := 0) (i := 0) (As := [.int 45]) F ck_RX10_209 (M_isSign_ct e4) (by omega) (by decide) rfl mB0 rfl rfl rfl (Nat.le_of_ble_eq_true rfl) dX10_added_17 ?_
    refine V.if_eq (tgt := 66) F dX10_added_20 (by decide) (fun c6 => ?_) (fun c6 => ?_)
    · have h := t_out h c6
      refine V.iload_n F dX10_added_66 rfl rfl ?_
      obtain ⟨rfl, rfl⟩ := r2_out h
      exact V.iret F dX10_added_67
    · have h := f_out h c6
      exact M_added_23_ok F hd hrc hk5 h
def M_added_5L (rc : Nat → Mem → Option (Int32 × Mem)) : Nat → Int32 → Mem → Option (Int32 × Mem)
  | 0 => fun _ _ => none
  | n + 1 => M_added_5 rc (M_added_5L rc n)
set_option maxHeartbeats 4000000 in
set_option maxRecDepth 100000 in
theorem M_added_5L_ok {φ : Fr} {d : Nat} (F : Fx φ ΩB cX10_added RX10 4 (some .int)) (hd : 5 ≤ d) {rc : Nat → Mem → Option (Int32 × Mem)} (hrc : ∀ (w : Nat) (μ : Mem) (r : Int32) (μ' : Mem), rc w μ = some (r, μ') → M_recG φ.1.2.1 (gl φ) d w μ (some (.int r), μ')) : ∀ (n : Nat) (x1 : Int32) (μ : Mem) (r : Int32) (μ' : Mem), M_added_5L rc n x1 μ = some (r, μ') → V φ ΩB 4 (d + 1) 5 [some (rf φ 0 0), some (.int x1), none, none] [] μ (some (.int r), μ') := by
  intro n
  induction n with
  | zero => intro x1 μ r μ' h; cases h
  | succ n ih => intro x1 μ r μ' h; exact M_added_5_ok F hd hrc ih h
def M_added (rc : Nat → Mem → Option (Int32 × Mem)) (μ : Mem) : Option (Int32 × Mem) :=
  bnd2 (rc 4 μ) fun r2 μ3 =>
  M_added_5L rc 1000 r2 μ3
set_option maxHeartbeats 4000000 in
set_option maxRecDepth 100000 in
theorem M_added_ok {φ : Fr} {d : Nat} (F : Fx φ ΩB cX10_added RX10 4 (some .int)) (hd : 5 ≤ d) {rc : Nat → Mem → Option (Int32 × Mem)} (hrc : ∀ (w : Nat) (μ : Mem) (r : Int32) (μ' : Mem), rc w μ = some (r, μ') → M_recG φ.1.2.1 (gl φ) d w μ (some (.int r), μ')) {μ : Mem} {r : Int32} {μ' : Mem} (h : M_added rc μ = some (r, μ')) : V φ ΩB 4 (d + 1) 0 [some (rf φ 0 0), none, none, none] [] μ (some (.int r), μ') := by
  unfold M_added at h
  refine V.rload_n F dX10_added_0 rfl rfl ?_
  obtain ⟨r2, μ3, e1, h⟩ := bnd2_out h
  refine V.callVi (f := 0) (i := 0) (As := []) F ck_RX10_226 (hrc 4 _ _ _ e1) (by omega) (by decide) rfl mB0 rfl rfl rfl (Nat.le_of_ble_eq_true rfl) dX10_added_1 ?_
  refine V.istore_n (L' := [some (rf φ 0 0), some (.int r2), none, none]) F dX10_added_4 rfl (by decide) rfl rfl rfl ?_
  exact M_added_5L_ok F hd hrc 1000 _ _ _ _ h
def M_term_5 (rc : Nat → Mem → Option (Int32 × Mem)) (k5 : Int32 → Mem → Option (Int32 × Mem)) (x1 : Int32) (μ : Mem) : Option (Int32 × Mem) :=
  nm (M_isSign 42 μ) fun r2 =>
  if r2 = 0 then (
    some (x1, μ))
  else (
    bnd (M_next μ) fun μ5 =>
    bnd2 (rc 5 μ5) fun r7 μ8 =>
    nm (x1 * r7) fun a9 =>
    k5 a9 μ8)
set_option maxHeartbeats 4000000 in
set_option maxRecDepth 100000 in
theorem M_term_5_ok {φ : Fr} {d : Nat} (F : Fx φ ΩB cX10_term RX10 2 (some .int)) (hd : 5 ≤ d) {rc : Nat → Mem → Option (Int32 × Mem)} (hrc : ∀ (w : Nat) (μ : Mem) (r : Int32) (μ' : Mem), rc w μ = some (r, μ') → M_recG φ.1.2.1 (gl φ) d w μ (some (.int r), μ')) {k5 : Int32 → Mem → Option (Int32 × Mem)} (hk5 : ∀ (x1 : Int32) (μ : Mem) (r : Int32) (μ' : Mem), k5 x1 μ = some (r, μ') → V φ ΩB 2 (d + 1) 5 [some (rf φ 0 0), some (.int x1)] [] μ (some (.int r), μ')) {x1 : Int32} {μ : Mem} {r : Int32} {μ' : Mem} (h : M_term_5 rc k5 x1 μ = some (r, μ')) : V φ ΩB 2 (d + 1) 5 [some (rf φ 0 0), some (.int x1)] [] μ (some (.int r), μ') := by
  unfold M_term_5 at h
  refine V.rload_n F dX10_term_5 rfl rfl ?_
  refine V.bipush (v := 42) F dX10_term_6 (by decide) ?_
  obtain ⟨r2, e1, h⟩ := nm_out h
  refine V.callVi (f := 0) (i := 0) (As := [.int 42]) F ck_RX10_209 (M_isSign_ct e1) (by omega) (by decide) rfl mB0 rfl rfl rfl (Nat.le_of_ble_eq_true rfl) dX10_term_8 ?_
  refine V.if_eq (tgt := 28) F dX10_term_11 (by decide) (fun c3 => ?_) (fun c3 => ?_)
  · have h := t_out h c3
    refine V.iload_n F dX10_term_28 rfl rfl ?_
    obtain ⟨rfl, rfl⟩ := r2_out h
    exact V.iret F dX10_term_29
  · have h := f_out h c3
    refine V.rload_n F dX10_term_14 rfl rfl ?_
    obtain ⟨μ5, e4, h⟩ := bnd_out h
    refine V.callVv (f := 0) (i := 0) (As := []) F ck_RX10_184 (M_next_ct e4) (by omega) (by decide) rfl mB0 rfl rfl rfl (Nat.le_of_ble_eq_true rfl) dX10_term_15 ?_
    refine V.iload_n F dX10_term_18 rfl rfl ?_
    refine V.rload_n F dX10_term_19 rfl rfl ?_
    obtain ⟨r7, μ8, e6, h⟩ := bnd2_out h
    refine V.callVi (f := 0) (i := 0) (As := []) F ck_RX10_216 (hrc 5 _ _ _ e6) (by omega) (by decide) rfl mB0 rfl rfl rfl (Nat.le_of_ble_eq_true rfl) dX10_term_20 ?_
    refine V.imul F dX10_term_23 ?_
    obtain ⟨a9, ea9, h⟩ := nm_out h
    refine V.istore_n (L' := [some (rf φ 0 0), some (.int a9)]) F dX10_term_24 rfl (by decide) rfl ea9 rfl ?_
    refine V.goto (tgt := 5) F dX10_term_25 (by decide) ?_
    exact hk5 _ _ _ _ h
def M_term_5L (rc : Nat → Mem → Option (Int32 × Mem)) : Nat → Int32 → Mem → Option (Int32 × Mem)
  | 0 => fun _ _ => none
  | n + 1 => M_term_5 rc (M_term_5L rc n)
set_option maxHeartbeats 4000000 in
set_option maxRecDepth 100000 in
theorem M_term_5L_ok {φ : Fr} {d : Nat} (F : Fx φ ΩB cX10_term RX10 2 (some .int)) (hd : 5 ≤ d) {rc : Nat → Mem → Option (Int32 × Mem)} (hrc : ∀ (w : Nat) (μ : Mem) (r : Int32) (μ' : Mem), rc w μ = some (r, μ') → M_recG φ.1.2.1 (gl φ) d w μ (some (.int r), μ')) : ∀ (n : Nat) (x1 : Int32) (μ : Mem) (r : Int32) (μ' : Mem), M_term_5L rc n x1 μ = some (r, μ') → V φ ΩB 2 (d + 1) 5 [some (rf φ 0 0), some (.int x1)] [] μ (some (.int r), μ') := by
  intro n
  induction n with
  | zero => intro x1 μ r μ' h; cases h
  | succ n ih => intro x1 μ r μ' h; exact M_term_5_ok F hd hrc ih h
def M_term (rc : Nat → Mem → Option (Int32 × Mem)) (μ : Mem) : Option (Int32 × Mem) :=
  bnd2 (rc 5 μ) fun r2 μ3 =>
  M_term_5L rc 1000 r2 μ3
set_option maxHeartbeats 4000000 in
set_option maxRecDepth 100000 in
theorem M_term_ok {φ : Fr} {d : Nat} (F : Fx φ ΩB cX10_term RX10 2 (some .int)) (hd : 5 ≤ d) {rc : Nat → Mem → Option (Int32 × Mem)} (hrc : ∀ (w : Nat) (μ : Mem) (r : Int32) (μ' : Mem), rc w μ = some (r, μ') → M_recG φ.1.2.1 (gl φ) d w μ (some (.int r), μ')) {μ : Mem} {r : Int32} {μ' : Mem} (h : M_term rc μ = some (r, μ')) : V φ ΩB 2 (d + 1) 0 [some (rf φ 0 0), none] [] μ (some (.int r), μ') := by
  unfold M_term at h
  refine V.rload_n F dX10_term_0 rfl rfl ?_
  obtain ⟨r2, μ3, e1, h⟩ := bnd2_out h
  refine V.callVi (f := 0) (i := 0) (As := []) F ck_RX10_216 (hrc 5 _ _ _ e1) (by omega) (by decide) rfl mB0 rfl rfl rfl (Nat.le_of_ble_eq_true rfl) dX10_term_1 ?_
  refine V.istore_n (L' := [some (rf φ 0 0), some (.int r2)]) F dX10_term_4 rfl (by decide) rfl rfl rfl ?_
  exact M_term_5L_ok F hd hrc 1000 _ _ _ _ h
def M_atom_157 (rc : Nat → Mem → Option (Int32 × Mem)) (x1 : Int32) (μ : Mem) : Option (Int32 × Mem) :=
  nm (M_fail μ) fun μ2 =>
  some (x1, μ2)
set_option maxHeartbeats 4000000 in
set_option maxRecDepth 100000 in
theorem M_atom_157_ok {φ : Fr} {d : Nat} (F : Fx φ ΩB cX10_atom RX10 2 (some .int)) (hd : 5 ≤ d) {rc : Nat → Mem → Option (Int32 × Mem)} (hrc : ∀ (w : Nat) (μ : Mem) (r : Int32) (μ' : Mem), rc w μ = some (r, μ') → M_recG φ.1.2.1 (gl φ) d w μ (some (.int r), μ')) {x1 : Int32} {μ : Mem} {r : Int32} {μ' : Mem} (h : M_atom_157 rc x1 μ = some (r, μ')) : V φ ΩB 2 (d + 1) 157 [some (rf φ 0 0), some (.int x1)] [] μ (some (.int r), μ') := by
  unfold M_atom_157 at h
  refine V.rload_n F dX10_atom_157 rfl rfl ?_
  obtain ⟨μ2, e1, h⟩ := nm_out h
  refine V.callVv (f := 0) (i := 0) (As := []) F ck_RX10_181 (M_fail_ct e1) (by omega) (by decide) rfl mB0 rfl rfl rfl (Nat.le_of_ble_eq_true rfl) dX10_atom_158 ?_
  refine V.iload_n F dX10_atom_161 rfl rfl ?_
  obtain ⟨rfl, rfl⟩ := r2_out h
  exact V.iret F dX10_atom_162
def M_atom_123 (rc : Nat → Mem → Option (Int32 × Mem)) (x1 : Int32) (μ : Mem) : Option (Int32 × Mem) :=
  if (rd μ 0 0 26) = 0 then (
    if (rd μ 0 0 22) = 1 then (
      bnd2 (M_name μ) fun r4 μ5 =>
      if (rd μ5 0 0 26) = 0 then (
        bnd (M_next μ5) fun μ8 =>
        some (r4, μ8))
      else (
        some (r4, μ5)))
    else (
      M_atom_157 rc x1 μ))
  else (
    M_atom_157 rc x1 μ)
set_option maxHeartbeats 4000000 in
set_option maxRecDepth 100000 in
theorem M_atom_123_ok {φ : Fr} {d : Nat} (F : Fx φ ΩB cX10_atom RX10 2 (some .int)) (hd : 5 ≤ d) {rc : Nat → Mem → Option (Int32 × Mem)} (hrc : ∀ (w : Nat) (μ : Mem) (r : Int32) (μ' : Mem), rc w μ = some (r, μ') → M_recG φ.1.2.1 (gl φ) d w μ (some (.int r), μ')) {x1 : Int32} {μ : Mem} {r : Int32} {μ' : Mem} (h : M_atom_123 rc x1 μ = some (r, μ')) : V φ ΩB 2 (d + 1) 123 [some (rf φ 0 0), some (.int x1)] [] μ (some (.int r), μ') := by
  unfold M_atom_123 at h
  refine V.rload_n F dX10_atom_123 rfl rfl ?_
  refine gf_RX10_167 F dX10_atom_124 ?_
  refine V.if_ne (tgt := 157) F dX10_atom_127 (by decide) (fun c1 => ?_) (fun c1 => ?_)
  · have h := f_out h c1
    exact M_atom_157_ok F hd hrc h
  · have h := t_out h c1
    refine V.rload_n F dX10_atom_130 rfl rfl ?_
    refine gf_RX10_152 F dX10_atom_131 ?_
    refine V.iconst (v := 1) F dX10_atom_134 (by decide) ?_
    refine V.icmp_ne (tgt := 157) F dX10_atom_135 (by decide) (fun c2 => ?_) (fun c2 => ?_)
    · have h := f_out h c2
      exact M_atom_157_ok F hd hrc h
    · have h := t_out h c2
      refine V.rload_n F dX10_atom_138 rfl rfl ?_
      obtain ⟨r4, μ5, e3, h⟩ := bnd2_out h
      refine V.callVi (f := 0) (i := 0) (As := []) F ck_RX10_223 (M_name_ct e3) (by omega) (by decide) rfl mB0 rfl rfl rfl (Nat.le_of_ble_eq_true rfl) dX10_atom_139 ?_
      refine V.istore_n (L' := [some (rf φ 0 0), some (.int r4)]) F dX10_atom_142 rfl (by decide) rfl rfl rfl ?_
      refine V.rload_n F dX10_atom_143 rfl rfl ?_
      refine gf_RX10_167 F dX10_atom_144 ?_
      refine V.if_ne (tgt := 161) F dX10_atom_147 (by decide) (fun c6 => ?_) (fun c6 => ?_)
      · have h := f_out h c6
        refine V.iload_n F dX10_atom_161 rfl rfl ?_
        obtain ⟨rfl, rfl⟩ := r2_out h
        exact V.iret F dX10_atom_162
      · have h := t_out h c6
        refine V.rload_n F dX10_atom_150 rfl rfl ?_
        obtain ⟨μ8, e7, h⟩ := bnd_out h
        refine V.callVv (f := 0) (i := 0) (As := []) F ck_RX10_184 (M_next_ct e7) (by omega) (by decide) rfl mB0 rfl rfl rfl (Nat.le_of_ble_eq_true rfl) dX10_atom_151 ?_
        refine V.goto (tgt := 161) F dX10_atom_154 (by decide) ?_
        refine V.iload_n F dX10_atom_161 rfl rfl ?_
        obtain ⟨rfl, rfl⟩ := r2_out h
        exact V.iret F dX10_atom_162
def M_atom_71 (rc : Nat → Mem → Option (Int32 × Mem)) (x1 : Int32) (μ : Mem) : Option (Int32 × Mem) :=
  nm (up μ 0 0 25 ((rd μ 0 0 25) - 1)) fun μ1 =>
  if (rd μ1 0 0 26) = 0 then (
    bnd (M_next μ1) fun μ4 =>
    some (x1, μ4))
  else (
    some (x1, μ1))
set_option maxHeartbeats 4000000 in
set_option maxRecDepth 100000 in
theorem M_atom_71_ok {φ : Fr} {d : Nat} (F : Fx φ ΩB cX10_atom RX10 2 (some .int)) (hd : 5 ≤ d) {rc : Nat → Mem → Option (Int32 × Mem)} (hrc : ∀ (w : Nat) (μ : Mem) (r : Int32) (μ' : Mem), rc w μ = some (r, μ') → M_recG φ.1.2.1 (gl φ) d w μ (some (.int r), μ')) {x1 : Int32} {μ : Mem} {r : Int32} {μ' : Mem} (h : M_atom_71 rc x1 μ = some (r, μ')) : V φ ΩB 2 (d + 1) 71 [some (rf φ 0 0), some (.int x1)] [] μ (some (.int r), μ') := by
  unfold M_atom_71 at h
  refine V.rload_n F dX10_atom_71 rfl rfl ?_
  refine V.dup F dX10_atom_72 rfl ?_
  refine gf_RX10_178 F dX10_atom_73 ?_
  refine V.iconst (v := 1) F dX10_atom_76 (by decide) ?_
  refine V.isub F dX10_atom_77 ?_
  obtain ⟨μ1, eμ1, h⟩ := nm_out h
  refine pf_RX10_178 F eμ1 dX10_atom_78 ?_
  refine V.rload_n F dX10_atom_81 rfl rfl ?_
  refine gf_RX10_167 F dX10_atom_82 ?_
  refine V.if_ne (tgt := 161) F dX10_atom_85 (by decide) (fun c2 => ?_) (fun c2 => ?_)
  · have h := f_out h c2
    refine V.iload_n F dX10_atom_161 rfl rfl ?_
    obtain ⟨rfl, rfl⟩ := r2_out h
    exact V.iret F dX10_atom_162
  · have h := t_out h c2
    refine V.rload_n F dX10_atom_88 rfl rfl ?_
    obtain ⟨μ4, e3, h⟩ := bnd_out h
    refine V.callVv (f := 0) (i := 0) (As := []) F ck_RX10_184 (M_next_ct e3) (by omega) (by decide) rfl mB0 rfl rfl rfl (Nat.le_of_ble_eq_true rfl) dX10_atom_89 ?_
    refine V.goto (tgt := 161) F dX10_atom_92 (by decide) ?_
    refine V.iload_n F dX10_atom_161 rfl rfl ?_
    obtain ⟨rfl, rfl⟩ := r2_out h
    exact V.iret F dX10_atom_162
def M_atom (rc : Nat → Mem → Option (Int32 × Mem)) (μ : Mem) : Option (Int32 × Mem) :=
  nm (M_isSign 45 μ) fun r2 =>
  if r2 = 0 then (
    nm (M_isSign 40 μ) fun r5 =>
    if r5 = 0 then (
      if (rd μ 0 0 26) = 0 then (
        if (rd μ 0 0 22) = 2 then (
          nm (Int64.toInt32 (rdL μ)) fun a9 =>
          bnd (M_next μ) fun μ11 =>
          some (a9, μ11))
        else (
          M_atom_123 rc 0 μ))
      else (
        M_atom_123 rc 0 μ))
    else (
      bnd2 (M_opens μ) fun r13 μ14 =>
      if r13 = 0 then (
        some (0, μ14))
      else (
        bnd2 (rc 0 μ14) fun r17 μ18 =>
        nm (M_isSign 41 μ18) fun r20 =>
        if r20 = 0 then (
          nm (M_fail μ18) fun μ23 =>
          M_atom_71 rc r17 μ23)
        else (
          M_atom_71 rc r17 μ18))))
  else (
    bnd2 (M_opens μ) fun r25 μ26 =>
    if r25 = 0 then (
      some (0, μ26))
    else (
      bnd2 (rc 5 μ26) fun r29 μ30 =>
      nm (-r29) fun a31 =>
      nm (up μ30 0 0 25 ((rd μ30 0 0 25) - 1)) fun μ32 =>
      some (a31, μ32)))
set_option maxHeartbeats 4000000 in
set_option maxRecDepth 100000 in
theorem M_atom_ok {φ : Fr} {d : Nat} (F : Fx φ ΩB cX10_atom RX10 2 (some .int)) (hd : 5 ≤ d) {rc : Nat → Mem → Option (Int32 × Mem)} (hrc : ∀ (w : Nat) (μ : Mem) (r : Int32) (μ' : Mem), rc w μ = some (r, μ') → M_recG φ.1.2.1 (gl φ) d w μ (some (.int r), μ')) {μ : Mem} {r : Int32} {μ' : Mem} (h : M_atom rc μ = some (r, μ')) : V φ ΩB 2 (d + 1) 0 [some (rf φ 0 0), none] [] μ (some (.int r), μ') := by
  unfold M_atom at h
  refine V.iconst (v := 0) F dX10_atom_0 (by decide) ?_
  refine V.istore_n (L' := [some (rf φ 0 0), some (.int 0)]) F dX10_atom_1 rfl (by decide) rfl rfl rfl ?_
  refine V.rload_n F dX10_atom_2 rfl rfl ?_
  refine V.bipush (v := 45) F dX10_atom_3 (by decide) ?_
  obtain ⟨r2, e1, h⟩ := nm_out h
  refine V.callVi (f := 0) (i := 0) (As := [.int 45]) F ck_RX10_209 (M_isSign_ct e1) (by omega) (by decide) rfl mB0 rfl rfl rfl (Nat.le_of_ble_eq_true rfl) dX10_atom_5 ?_
  refine V.if_eq (tgt := 37) F dX10_atom_8 (by decide) (fun c3 => ?_) (fun c3 => ?_)
  · have h := t_out h c3
    refine V.rload_n F dX10_atom_37 rfl rfl ?_
    refine V.bipush (v := 40) F dX10_atom_38 (by decide) ?_
    obtain ⟨r5, e4, h⟩ := nm_out h
    refine V.callVi (f := 0) (i := 0) (As := [.int 40]) F ck_RX10_209 (M_isSign_ct e4) (by omega) (by decide) rfl mB0 rfl rfl rfl (Nat.le_of_ble_eq_true rfl) dX10_atom_40 ?_
    refine V.if_eq (tgt := 95) F dX10_atom_43 (by decide) (fun c6 => ?_) (fun c6 => ?_)
    · have h := t_out h c6
      refine V.rload_n F dX10_atom_95 rfl rfl ?_
      refine gf_RX10_167 F dX10_atom_96 ?_
      refine V.if_ne (tgt := 123) F dX10_atom_99 (by decide) (fun c7 => ?_) (fun c7 => ?_)
      · have h := f_out h c7
        exact M_atom_123_ok F hd hrc h
      · have h := t_out h c7
        refine V.rload_n F dX10_atom_102 rfl rfl ?_
        refine gf_RX10_152 F dX10_atom_103 ?_
        refine V.iconst (v := 2) F dX10_atom_106 (by decide) ?_
        refine V.icmp_ne (tgt := 123) F dX10_atom_107 (by decide) (fun c8 => ?_) (fun c8 => ?_)
        · have h := f_out h c8
          exact M_atom_123_ok F hd hrc h
        · have h := t_out h c8
          refine V.rload_n F dX10_atom_110 rfl rfl ?_
          refine gf_RX10_163 F dX10_atom_111 ?_
          refine V.l2i F dX10_atom_114 ?_
          obtain ⟨a9, ea9, h⟩ := nm_out h
          refine V.istore_n (L' := [some (rf φ 0 0), some (.int a9)]) F dX10_atom_115 rfl (by decide) rfl ea9 rfl ?_
          refine V.rload_n F dX10_atom_116 rfl rfl ?_
          obtain ⟨μ11, e10, h⟩ := bnd_out h
          refine V.callVv (f := 0) (i := 0) (As := []) F ck_RX10_184 (M_next_ct e10) (by omega) (by decide) rfl mB0 rfl rfl rfl (Nat.le_of_ble_eq_true rfl) dX10_atom_117 ?_
          refine V.goto (tgt := 161) F dX10_atom_120 (by decide) ?_
          refine V.iload_n F dX10_atom_161 rfl rfl ?_
          obtain ⟨rfl, rfl⟩ := r2_out h
          exact V.iret F dX10_atom_162
    · have h := f_out h c6
      refine V.rload_n F dX10_atom_46 rfl rfl ?_
      obtain ⟨r13, μ14, e12, h⟩ := bnd2_out h
      refine V.callVi (f := 0) (i := 0) (As := []) F ck_RX10_212 (M_opens_ct e12) (by omega) (by decide) rfl mB0 rfl rfl rfl (Nat.le_of_ble_eq_true rfl) dX10_atom_47 ?_
      refine V.if_eq (tgt := 161) F dX10_atom_50 (by decide) (fun c15 => ?_) (fun c15 => ?_)
      · have h := t_out h c15
        refine V.iload_n F dX10_atom_161 rfl rfl ?_
        obtain ⟨rfl, rfl⟩ := r2_out h
        exact V.iret F dX10_atom_162
      · have h := f_out h c15
        refine V.rload_n F dX10_atom_53 rfl rfl ?_
        obtain ⟨r17, μ18, e16, h⟩ := bnd2_out h
        refine V.callVi (f := 0) (i := 0) (As := []) F ck_RX10_220 (hrc 0 _ _ _ e16) (by omega) (by decide) rfl mB0 rfl rfl rfl (Nat.le_of_ble_eq_true rfl) dX10_atom_54 ?_
        refine V.istore_n (L' := [some (rf φ 0 0), some (.int r17)]) F dX10_atom_57 rfl (by decide) rfl rfl rfl ?_
        refine V.rload_n F dX10_atom_58 rfl rfl ?_
        refine V.bipush (v := 41) F dX10_atom_59 (by decide) ?_
        obtain ⟨r20, e19, h⟩ := nm_out h
        refine V.callVi (f := 0) (i := 0) (As := [.int 41]) F ck_RX10_209 (M_isSign_ct e19) (by omega) (by decide) rfl mB0 rfl rfl rfl (Nat.le_of_ble_eq_true rfl) dX10_atom_61 ?_
        refine V.if_ne (tgt := 71) F dX10_atom_64 (by decide) (fun c21 => ?_) (fun c21 => ?_)
        · have h := f_out h c21
          exact M_atom_71_ok F hd hrc h
        · have h := t_out h c21
          refine V.rload_n F dX10_atom_67 rfl rfl ?_
          obtain ⟨μ23, e22, h⟩ := nm_out h
          refine V.callVv (f := 0) (i := 0) (As := []) F ck_RX10_181 (M_fail_ct e22) (by omega) (by decide) rfl mB0 rfl rfl rfl (Nat.le_of_ble_eq_true rfl) dX10_atom_68 ?_
          exact M_atom_71_ok F hd hrc h
  · have h := f_out h c3
    refine V.rload_n F dX10_atom_11 rfl rfl ?_
    obtain ⟨r25, μ26, e24, h⟩ := bnd2_out h
    refine V.callVi (f := 0) (i := 0) (As := []) F ck_RX10_212 (M_opens_ct e24) (by omega) (by decide) rfl mB0 rfl rfl rfl (Nat.le_of_ble_eq_true rfl) dX10_atom_12 ?_
    refine V.if_eq (tgt := 161) F dX10_atom_15 (by decide) (fun c27 => ?_) (fun c27 => ?_)
    · have h := t_out h c27
      refine V.iload_n F dX10_atom_161 rfl rfl ?_
      obtain ⟨rfl, rfl⟩ := r2_out h
      exact V.iret F dX10_atom_162
    · have h := f_out h c27
      refine V.rload_n F dX10_atom_18 rfl rfl ?_
      obtain ⟨r29, μ30, e28, h⟩ := bnd2_out h
      refine V.callVi (f := 0) (i := 0) (As := []) F ck_RX10_216 (hrc 5 _ _ _ e28) (by omega) (by decide) rfl mB0 rfl rfl rfl (Nat.le_of_ble_eq_true rfl) dX10_atom_19 ?_
      refine V.ineg F dX10_atom_22 ?_
      obtain ⟨a31, ea31, h⟩ := nm_out h
      refine V.istore_n (L' := [some (rf φ 0 0), some (.int a31)]) F dX10_atom_23 rfl (by decide) rfl ea31 rfl ?_
      refine V.rload_n F dX10_atom_24 rfl rfl ?_
      refine V.dup F dX10_atom_25 rfl ?_
      refine gf_RX10_178 F dX10_atom_26 ?_
      refine V.iconst (v := 1) F dX10_atom_29 (by decide) ?_
      refine V.isub F dX10_atom_30 ?_
      obtain ⟨μ32, eμ32, h⟩ := nm_out h
      refine pf_RX10_178 F eμ32 dX10_atom_31 ?_
      refine V.goto (tgt := 161) F dX10_atom_34 (by decide) ?_
      refine V.iload_n F dX10_atom_161 rfl rfl ?_
      obtain ⟨rfl, rfl⟩ := r2_out h
      exact V.iret F dX10_atom_162
def M_rec : Nat → Nat → Mem → Option (Int32 × Mem)
  | 0 => fun _ _ => none
  | n + 1 => fun w μ => match w with
    | 0 => M_either (M_rec n) μ
    | 1 => M_both (M_rec n) μ
    | 2 => M_not (M_rec n) μ
    | 3 => M_added (M_rec n) μ
    | 4 => M_term (M_rec n) μ
    | 5 => M_atom (M_rec n) μ
    | _ => none
set_option maxHeartbeats 4000000 in
set_option maxRecDepth 100000 in
theorem M_rec_ct {l : Launch} {G : Glo} : ∀ (n w : Nat) (μ : Mem) (r : Int32) (μ' : Mem), M_rec n w μ = some (r, μ') → M_recG l G (5 + n) w μ (some (.int r), μ') := by
  intro n
  induction n with
  | zero => intro w μ r μ' h; cases h
  | succ n ih =>
    intro w μ r μ' h
    match w, h with
    | 0, h =>
      refine Ct.intro (y := yX10_either) (by decide) (Nat.le_of_ble_eq_true rfl) ?_
      intro φ hl hG F
      subst hl; subst hG
      exact M_either_ok F (Nat.le_add_right _ _) ih h
    | 1, h =>
      refine Ct.intro (y := yX10_both) (by decide) (Nat.le_of_ble_eq_true rfl) ?_
      intro φ hl hG F
      subst hl; subst hG
      exact M_both_ok F (Nat.le_add_right _ _) ih h
    | 2, h =>
      refine Ct.intro (y := yX10_not) (by decide) (Nat.le_of_ble_eq_true rfl) ?_
      intro φ hl hG F
      subst hl; subst hG
      exact M_not_ok F (Nat.le_add_right _ _) ih h
    | 3, h =>
      refine Ct.intro (y := yX10_added) (by decide) (Nat.le_of_ble_eq_true rfl) ?_
      intro φ hl hG F
      subst hl; subst hG
      exact M_added_ok F (Nat.le_add_right _ _) ih h
    | 4, h =>
      refine Ct.intro (y := yX10_term) (by decide) (Nat.le_of_ble_eq_true rfl) ?_
      intro φ hl hG F
      subst hl; subst hG
      exact M_term_ok F (Nat.le_add_right _ _) ih h
    | 5, h =>
      refine Ct.intro (y := yX10_atom) (by decide) (Nat.le_of_ble_eq_true rfl) ?_
      intro φ hl hG F
      subst hl; subst hG
      exact M_atom_ok F (Nat.le_add_right _ _) ih h
    | _ + 6, h => cases h
def M_part_48 (x2 : Int32) (μ : Mem) : Option (Int32 × Mem) :=
  if (rd μ 0 0 26) = 0 then (
    bnd (M_next μ) fun μ3 =>
    some (x2, μ3))
  else (
    some (x2, μ))
set_option maxHeartbeats 4000000 in
set_option maxRecDepth 100000 in
theorem M_part_48_ok {φ : Fr} {d : Nat} (F : Fx φ ΩB cX10_part RX10 3 (some .int)) (hd : 106 ≤ d) {x2 : Int32} {μ : Mem} {r : Int32} {μ' : Mem} (h : M_part_48 x2 μ = some (r, μ')) : V φ ΩB 3 d 48 [some (rf φ 0 0), none, some (.int x2)] [] μ (some (.int r), μ') := by
  unfold M_part_48 at h
  refine V.rload_n F dX10_part_48 rfl rfl ?_
  refine gf_RX10_167 F dX10_part_49 ?_
  refine V.if_ne (tgt := 59) F dX10_part_52 (by decide) (fun c1 => ?_) (fun c1 => ?_)
  · have h := f_out h c1
    refine V.iload_n F dX10_part_59 rfl rfl ?_
    obtain ⟨rfl, rfl⟩ := r2_out h
    exact V.iret F dX10_part_60
  · have h := t_out h c1
    refine V.rload_n F dX10_part_55 rfl rfl ?_
    obtain ⟨μ3, e2, h⟩ := bnd_out h
    refine V.callVv (f := 0) (i := 0) (As := []) F ck_RX10_184 (M_next_ct e2) (by omega) (by decide) rfl mB0 rfl rfl rfl (Nat.le_of_ble_eq_true rfl) dX10_part_56 ?_
    refine V.iload_n F dX10_part_59 rfl rfl ?_
    obtain ⟨rfl, rfl⟩ := r2_out h
    exact V.iret F dX10_part_60
def M_part_34 (y0 : Int32) (μ : Mem) : Option (Int32 × Mem) :=
  nm (M_isSign 59 μ) fun r2 =>
  if r2 = 0 then (
    nm (M_fail μ) fun μ5 =>
    M_part_48 y0 μ5)
  else (
    M_part_48 y0 μ)
set_option maxHeartbeats 4000000 in
set_option maxRecDepth 100000 in
theorem M_part_34_ok {φ : Fr} {d : Nat} (F : Fx φ ΩB cX10_part RX10 3 (some .int)) (hd : 106 ≤ d) {y0 : Int32} {μ : Mem} {r : Int32} {μ' : Mem} (h : M_part_34 y0 μ = some (r, μ')) : V φ ΩB 3 d 34 [some (rf φ 0 0), none, none] [.int y0] μ (some (.int r), μ') := by
  unfold M_part_34 at h
  refine V.istore_n (L' := [some (rf φ 0 0), none, some (.int y0)]) F dX10_part_34 rfl (by decide) rfl rfl rfl ?_
  refine V.rload_n F dX10_part_35 rfl rfl ?_
  refine V.bipush (v := 59) F dX10_part_36 (by decide) ?_
  obtain ⟨r2, e1, h⟩ := nm_out h
  refine V.callVi (f := 0) (i := 0) (As := [.int 59]) F ck_RX10_209 (M_isSign_ct e1) (by omega) (by decide) rfl mB0 rfl rfl rfl (Nat.le_of_ble_eq_true rfl) dX10_part_38 ?_
  refine V.if_ne (tgt := 48) F dX10_part_41 (by decide) (fun c3 => ?_) (fun c3 => ?_)
  · have h := f_out h c3
    exact M_part_48_ok F hd h
  · have h := t_out h c3
    refine V.rload_n F dX10_part_44 rfl rfl ?_
    obtain ⟨μ5, e4, h⟩ := nm_out h
    refine V.callVv (f := 0) (i := 0) (As := []) F ck_RX10_181 (M_fail_ct e4) (by omega) (by decide) rfl mB0 rfl rfl rfl (Nat.le_of_ble_eq_true rfl) dX10_part_45 ?_
    exact M_part_48_ok F hd h
def M_part_19 (μ : Mem) : Option (Int32 × Mem) :=
  if (rd μ 0 0 26) = 0 then (
    bnd2 (M_rec 100 0 μ) fun r3 μ4 =>
    M_part_34 r3 μ4)
  else (
    M_part_34 0 μ)
set_option maxHeartbeats 4000000 in
set_option maxRecDepth 100000 in
theorem M_part_19_ok {φ : Fr} {d : Nat} (F : Fx φ ΩB cX10_part RX10 3 (some .int)) (hd : 106 ≤ d) {μ : Mem} {r : Int32} {μ' : Mem} (h : M_part_19 μ = some (r, μ')) : V φ ΩB 3 d 19 [some (rf φ 0 0), none, none] [] μ (some (.int r), μ') := by
  unfold M_part_19 at h
  refine V.rload_n F dX10_part_19 rfl rfl ?_
  refine gf_RX10_167 F dX10_part_20 ?_
  refine V.if_eq (tgt := 30) F dX10_part_23 (by decide) (fun c1 => ?_) (fun c1 => ?_)
  · have h := t_out h c1
    refine V.rload_n F dX10_part_30 rfl rfl ?_
    obtain ⟨r3, μ4, e2, h⟩ := bnd2_out h
    refine V.callVi (f := 0) (i := 0) (As := []) F ck_RX10_220 (M_rec_ct 100 0 _ _ _ e2) (by omega) (by decide) rfl mB0 rfl rfl rfl (Nat.le_of_ble_eq_true rfl) dX10_part_31 ?_
    exact M_part_34_ok F hd h
  · have h := f_out h c1
    refine V.iconst (v := 0) F dX10_part_26 (by decide) ?_
    refine V.goto (tgt := 34) F dX10_part_27 (by decide) ?_
    exact M_part_34_ok F hd h
def M_part_8 (μ : Mem) : Option (Int32 × Mem) :=
  if (rd μ 0 0 26) = 0 then (
    bnd (M_next μ) fun μ3 =>
    M_part_19 μ3)
  else (
    M_part_19 μ)
set_option maxHeartbeats 4000000 in
set_option maxRecDepth 100000 in
theorem M_part_8_ok {φ : Fr} {d : Nat} (F : Fx φ ΩB cX10_part RX10 3 (some .int)) (hd : 106 ≤ d) {μ : Mem} {r : Int32} {μ' : Mem} (h : M_part_8 μ = some (r, μ')) : V φ ΩB 3 d 8 [some (rf φ 0 0), none, none] [] μ (some (.int r), μ') := by
  unfold M_part_8 at h
  refine V.rload_n F dX10_part_8 rfl rfl ?_
  refine gf_RX10_167 F dX10_part_9 ?_
  refine V.if_ne (tgt := 19) F dX10_part_12 (by decide) (fun c1 => ?_) (fun c1 => ?_)
  · have h := f_out h c1
    exact M_part_19_ok F hd h
  · have h := t_out h c1
    refine V.rload_n F dX10_part_15 rfl rfl ?_
    obtain ⟨μ3, e2, h⟩ := bnd_out h
    refine V.callVv (f := 0) (i := 0) (As := []) F ck_RX10_184 (M_next_ct e2) (by omega) (by decide) rfl mB0 rfl rfl rfl (Nat.le_of_ble_eq_true rfl) dX10_part_16 ?_
    exact M_part_19_ok F hd h
def M_part (x1 : Int32) (μ : Mem) : Option (Int32 × Mem) :=
  if x1 = 0 then (
    nm (M_fail μ) fun μ3 =>
    M_part_8 μ3)
  else (
    M_part_8 μ)
set_option maxHeartbeats 4000000 in
set_option maxRecDepth 100000 in
theorem M_part_ok {φ : Fr} {d : Nat} (F : Fx φ ΩB cX10_part RX10 3 (some .int)) (hd : 106 ≤ d) {x1 : Int32} {μ : Mem} {r : Int32} {μ' : Mem} (h : M_part x1 μ = some (r, μ')) : V φ ΩB 3 d 0 [some (rf φ 0 0), some (.int x1), none] [] μ (some (.int r), μ') := by
  unfold M_part at h
  refine V.iload_n F dX10_part_0 rfl rfl ?_
  refine V.if_ne (tgt := 8) F dX10_part_1 (by decide) (fun c1 => ?_) (fun c1 => ?_)
  · have h := f_out h c1
    refine V.msk (L' := [some (rf φ 0 0), none, none]) [true, false, false] rfl ?_
    exact M_part_8_ok F hd h
  · have h := t_out h c1
    refine V.rload_n F dX10_part_4 rfl rfl ?_
    obtain ⟨μ3, e2, h⟩ := nm_out h
    refine V.callVv (f := 0) (i := 0) (As := []) F ck_RX10_181 (M_fail_ct e2) (by omega) (by decide) rfl mB0 rfl rfl rfl (Nat.le_of_ble_eq_true rfl) dX10_part_5 ?_
    refine V.msk (L' := [some (rf φ 0 0), none, none]) [true, false, false] rfl ?_
    exact M_part_8_ok F hd h
set_option maxHeartbeats 4000000 in
set_option maxRecDepth 100000 in
theorem M_part_ct {l : Launch} {G : Glo} {x1 : Int32} {μ : Mem} {r : Int32} {μ' : Mem} (h : M_part x1 μ = some (r, μ')) : Ct l ΩB G 106 yX10_part cX10_part 3 (some .int) [.ref (G.1 0 0), .int x1] μ (some (.int r), μ') := by
  refine Ct.intro (by decide) (Nat.le_of_ble_eq_true rfl) ?_
  intro φ hl hG F
  subst hl; subst hG
  exact M_part_ok F (Nat.le_refl _) h
def M_read_146 (x2 : Int32) (x3 : Int32) (x4 : Int32) (x5 : Int32) (μ : Mem) : Option (Int32 × Mem) :=
  if x2 = 0 then (
    some (x3, μ))
  else (
    if x2 = 1 then (
      some (x4, μ))
    else (
      some (x5, μ)))
set_option maxHeartbeats 4000000 in
set_option maxRecDepth 100000 in
theorem M_read_146_ok {φ : Fr} {d : Nat} (F : Fx φ ΩB cX10_read RX10 6 (some .int)) (hd : 107 ≤ d) {x2 : Int32} {x3 : Int32} {x4 : Int32} {x5 : Int32} {μ : Mem} {r : Int32} {μ' : Mem} (h : M_read_146 x2 x3 x4 x5 μ = some (r, μ')) : V φ ΩB 6 d 146 [none, none, some (.int x2), some (.int x3), some (.int x4), some (.int x5)] [] μ (some (.int r), μ') := by
  unfold M_read_146 at h
  refine V.iload_n F dX10_read_146 rfl rfl ?_
  refine V.if_ne (tgt := 154) F dX10_read_147 (by decide) (fun c1 => ?_) (fun c1 => ?_)
  · have h := f_out h c1
    refine V.iload_n F dX10_read_154 rfl rfl ?_
    refine V.iconst (v := 1) F dX10_read_155 (by decide) ?_
    refine V.icmp_ne (tgt := 164) F dX10_read_156 (by decide) (fun c2 => ?_) (fun c2 => ?_)
    · have h := f_out h c2
      refine V.iload F dX10_read_164 rfl ?_
      obtain ⟨rfl, rfl⟩ := r2_out h
      exact V.iret F dX10_read_166
    · have h := t_out h c2
      refine V.iload F dX10_read_159 rfl ?_
      refine V.goto (tgt := 166) F dX10_read_161 (by decide) ?_
      obtain ⟨rfl, rfl⟩ := r2_out h
      exact V.iret F dX10_read_166
  · have h := t_out h c1
    refine V.iload_n F dX10_read_150 rfl rfl ?_
    refine V.goto (tgt := 166) F dX10_read_151 (by decide) ?_
    obtain ⟨rfl, rfl⟩ := r2_out h
    exact V.iret F dX10_read_166
def M_read_126 (x2 : Int32) (x3 : Int32) (x4 : Int32) (y0 : Int32) (μ : Mem) : Option (Int32 × Mem) :=
  if (rd μ 0 0 26) = 0 then (
    if (rd μ 0 0 22) = 0 then (
      M_read_146 x2 x3 x4 y0 μ)
    else (
      nm (M_fail μ) fun μ4 =>
      M_read_146 x2 x3 x4 y0 μ4))
  else (
    M_read_146 x2 x3 x4 y0 μ)
set_option maxHeartbeats 4000000 in
set_option maxRecDepth 100000 in
theorem M_read_126_ok {φ : Fr} {d : Nat} (F : Fx φ ΩB cX10_read RX10 6 (some .int)) (hd : 107 ≤ d) {x2 : Int32} {x3 : Int32} {x4 : Int32} {y0 : Int32} {μ : Mem} {r : Int32} {μ' : Mem} (h : M_read_126 x2 x3 x4 y0 μ = some (r, μ')) : V φ ΩB 6 d 126 [some (rf φ 0 0), none, some (.int x2), some (.int x3), some (.int x4), none] [.int y0] μ (some (.int r), μ') := by
  unfold M_read_126 at h
  refine V.istore (L' := [some (rf φ 0 0), none, some (.int x2), some (.int x3), some (.int x4), some (.int y0)]) F dX10_read_126 (by decide) rfl rfl rfl ?_
  refine V.rload_n F dX10_read_128 rfl rfl ?_
  refine gf_RX10_167 F dX10_read_129 ?_
  refine V.if_ne (tgt := 146) F dX10_read_132 (by decide) (fun c1 => ?_) (fun c1 => ?_)
  · have h := f_out h c1
    refine V.msk (L' := [none, none, some (.int x2), some (.int x3), some (.int x4), some (.int y0)]) [false, false, true, true, true, true] rfl ?_
    exact M_read_146_ok F hd h
  · have h := t_out h c1
    refine V.rload_n F dX10_read_135 rfl rfl ?_
    refine gf_RX10_152 F dX10_read_136 ?_
    refine V.if_eq (tgt := 146) F dX10_read_139 (by decide) (fun c2 => ?_) (fun c2 => ?_)
    · have h := t_out h c2
      refine V.msk (L' := [none, none, some (.int x2), some (.int x3), some (.int x4), some (.int y0)]) [false, false, true, true, true, true] rfl ?_
      exact M_read_146_ok F hd h
    · have h := f_out h c2
      refine V.rload_n F dX10_read_142 rfl rfl ?_
      obtain ⟨μ4, e3, h⟩ := nm_out h
      refine V.callVv (f := 0) (i := 0) (As := []) F ck_RX10_181 (M_fail_ct e3) (by omega) (by decide) rfl mB0 rfl rfl rfl (Nat.le_of_ble_eq_true rfl) dX10_read_143 ?_
      refine V.msk (L' := [none, none, some (.int x2), some (.int x3), some (.int x4), some (.int y0)]) [false, false, true, true, true, true] rfl ?_
      exact M_read_146_ok F hd h
def M_read_92 (x2 : Int32) (x3 : Int32) (y0 : Int32) (μ : Mem) : Option (Int32 × Mem) :=
  if (rd μ 0 0 26) = 0 then (
    bnd (M_isWord 102 101 101 108 115 0 0 0 μ) fun r3 =>
    bnd2 (M_part r3 μ) fun r5 μ6 =>
    M_read_126 x2 x3 y0 r5 μ6)
  else (
    M_read_126 x2 x3 y0 0 μ)
set_option maxHeartbeats 4000000 in
set_option maxRecDepth 100000 in
theorem M_read_92_ok {φ : Fr} {d : Nat} (F : Fx φ ΩB cX10_read RX10 6 (some .int)) (hd : 107 ≤ d) {x2 : Int32} {x3 : Int32} {y0 : Int32} {μ : Mem} {r : Int32} {μ' : Mem} (h : M_read_92 x2 x3 y0 μ = some (r, μ')) : V φ ΩB 6 d 92 [some (rf φ 0 0), none, some (.int x2), some (.int x3), none, none] [.int y0] μ (some (.int r), μ') := by
  unfold M_read_92 at h
  refine V.istore (L' := [some (rf φ 0 0), none, some (.int x2), some (.int x3), some (.int y0), none]) F dX10_read_92 (by decide) rfl rfl rfl ?_
  refine V.rload_n F dX10_read_94 rfl rfl ?_
  refine gf_RX10_167 F dX10_read_95 ?_
  refine V.if_eq (tgt := 105) F dX10_read_98 (by decide) (fun c1 => ?_) (fun c1 => ?_)
  · have h := t_out h c1
    refine V.rload_n F dX10_read_105 rfl rfl ?_
    refine V.rload_n F dX10_read_106 rfl rfl ?_
    refine V.bipush (v := 102) F dX10_read_107 (by decide) ?_
    refine V.bipush (v := 101) F dX10_read_109 (by decide) ?_
    refine V.bipush (v := 101) F dX10_read_111 (by decide) ?_
    refine V.bipush (v := 108) F dX10_read_113 (by decide) ?_
    refine V.bipush (v := 115) F dX10_read_115 (by decide) ?_
    refine V.iconst (v := 0) F dX10_read_117 (by decide) ?_
    refine V.iconst (v := 0) F dX10_read_118 (by decide) ?_
    refine V.iconst (v := 0) F dX10_read_119 (by decide) ?_
    obtain ⟨r3, e2, h⟩ := bnd_out h
    refine V.callVi (f := 0) (i := 0) (As := [.int 102, .int 101, .int 101, .int 108, .int 115, .int 0, .int 0, .int 0]) F ck_RX10_187 (M_isWord_ct e2) (by omega) (by decide) rfl mB0 rfl rfl rfl (Nat.le_of_ble_eq_true rfl) dX10_read_120 ?_
    obtain ⟨r5, μ6, e4, h⟩ := bnd2_out h
    refine V.callVi (f := 0) (i := 0) (As := [.int r3]) F ck_RX10_242 (M_part_ct e4) (by omega) (by decide) rfl mB0 rfl rfl rfl (Nat.le_of_ble_eq_true rfl) dX10_read_123 ?_
    exact M_read_126_ok F hd h
  · have h := f_out h c1
    refine V.iconst (v := 0) F dX10_read_101 (by decide) ?_
    refine V.goto (tgt := 126) F dX10_read_102 (by decide) ?_
    exact M_read_126_ok F hd h
def M_read (x1 : Int32) (x2 : Int32) (μ : Mem) : Option (Int32 × Mem) :=
  nm (up μ 0 0 19 (160 * x1)) fun μ1 =>
  chk (inb x1 6) <|
  nm (up μ1 0 0 20 (rd μ1 2 0 (ix x1))) fun μ3 =>
  nm (up μ3 0 0 21 0) fun μ4 =>
  nm (up μ4 0 0 25 0) fun μ5 =>
  nm (up μ5 0 0 26 0) fun μ6 =>
  bnd (M_next μ6) fun μ8 =>
  bnd (M_isWord 104 101 97 116 115 0 0 0 μ8) fun r10 =>
  bnd2 (M_part r10 μ8) fun r12 μ13 =>
  if (rd μ13 0 0 26) = 0 then (
    bnd (M_isWord 99 97 108 109 115 0 0 0 μ13) fun r16 =>
    bnd2 (M_part r16 μ13) fun r18 μ19 =>
    M_read_92 x2 r12 r18 μ19)
  else (
    M_read_92 x2 r12 0 μ13)
set_option maxHeartbeats 4000000 in
set_option maxRecDepth 100000 in
theorem M_read_ok {φ : Fr} {d : Nat} (F : Fx φ ΩB cX10_read RX10 6 (some .int)) (hd : 107 ≤ d) {x1 : Int32} {x2 : Int32} {μ : Mem} {r : Int32} {μ' : Mem} (h : M_read x1 x2 μ = some (r, μ')) : V φ ΩB 6 d 0 [some (rf φ 0 0), some (.int x1), some (.int x2), none, none, none] [] μ (some (.int r), μ') := by
  unfold M_read at h
  refine V.rload_n F dX10_read_0 rfl rfl ?_
  refine V.sipush (v := 160) F dX10_read_1 (by decide) ?_
  refine V.iload_n F dX10_read_4 rfl rfl ?_
  refine V.imul F dX10_read_5 ?_
  obtain ⟨μ1, eμ1, h⟩ := nm_out h
  refine pf_RX10_140 F eμ1 dX10_read_6 ?_
  refine V.rload_n F dX10_read_9 rfl rfl ?_
  refine V.rload_n F dX10_read_10 rfl rfl ?_
  refine gf_RX10_17 F dX10_read_11 ?_
  refine V.iload_n F dX10_read_14 rfl rfl ?_
  obtain ⟨c2, h⟩ := chk_out h
  refine V.iald (t0 := 0) (n := 6) F mB2 rfl rfl c2 dX10_read_15 ?_
  obtain ⟨μ3, eμ3, h⟩ := nm_out h
  refine pf_RX10_137 F eμ3 dX10_read_16 ?_
  refine V.rload_n F dX10_read_19 rfl rfl ?_
  refine V.iconst (v := 0) F dX10_read_20 (by decide) ?_
  obtain ⟨μ4, eμ4, h⟩ := nm_out h
  refine pf_RX10_143 F eμ4 dX10_read_21 ?_
  refine V.rload_n F dX10_read_24 rfl rfl ?_
  refine V.iconst (v := 0) F dX10_read_25 (by decide) ?_
  obtain ⟨μ5, eμ5, h⟩ := nm_out h
  refine pf_RX10_178 F eμ5 dX10_read_26 ?_
  refine V.rload_n F dX10_read_29 rfl rfl ?_
  refine V.iconst (v := 0) F dX10_read_30 (by decide) ?_
  obtain ⟨μ6, eμ6, h⟩ := nm_out h
  refine pf_RX10_167 (by decide) F eμ6 dX10_read_31 ?_
  refine V.rload_n F dX10_read_34 rfl rfl ?_
  obtain ⟨μ8, e7, h⟩ := bnd_out h
  refine V.callVv (f := 0) (i := 0) (As := []) F ck_RX10_184 (M_next_ct e7) (by omega) (by decide) rfl mB0 rfl rfl rfl (Nat.le_of_ble_eq_true rfl) dX10_read_35 ?_
  refine V.rload_n F dX10_read_38 rfl rfl ?_
  refine V.rload_n F dX10_read_39 rfl rfl ?_
  refine V.bipush (v := 104) F dX10_read_40 (by decide) ?_
  refine V.bipush (v := 101) F dX10_read_42 (by decide) ?_
  refine V.bipush (v := 97) F dX10_read_44 (by decide) ?_
  refine V.bipush (v := 116) F dX10_read_46 (by decide) ?_
  refine V.bipush (v := 115) F dX10_read_48 (by decide) ?_
  refine V.iconst (v := 0) F dX10_read_50 (by decide) ?_
  refine V.iconst (v := 0) F dX10_read_51 (by decide) ?_
  refine V.iconst (v := 0) F dX10_read_52 (by decide) ?_
  obtain ⟨r10, e9, h⟩ := bnd_out h
  refine V.callVi (f := 0) (i := 0) (As := [.int 104, .int 101, .int 97, .int 116, .int 115, .int 0, .int 0, .int 0]) F ck_RX10_187 (M_isWord_ct e9) (by omega) (by decide) rfl mB0 rfl rfl rfl (Nat.le_of_ble_eq_true rfl) dX10_read_53 ?_
  obtain ⟨r12, μ13, e11, h⟩ := bnd2_out h
  refine V.callVi (f := 0) (i := 0) (As := [.int r10]) F ck_RX10_242 (M_part_ct e11) (by omega) (by decide) rfl mB0 rfl rfl rfl (Nat.le_of_ble_eq_true rfl) dX10_read_56 ?_
  refine V.istore_n (L' := [some (rf φ 0 0), some (.int x1), some (.int x2), some (.int r12), none, none]) F dX10_read_59 rfl (by decide) rfl rfl rfl ?_
  refine V.rload_n F dX10_read_60 rfl rfl ?_
  refine gf_RX10_167 F dX10_read_61 ?_
  refine V.if_eq (tgt := 71) F dX10_read_64 (by decide) (fun c14 => ?_) (fun c14 => ?_)
  · have h := t_out h c14
    refine V.rload_n F dX10_read_71 rfl rfl ?_
    refine V.rload_n F dX10_read_72 rfl rfl ?_
    refine V.bipush (v := 99) F dX10_read_73 (by decide) ?_
    refine V.bipush (v := 97) F dX10_read_75 (by decide) ?_
    refine V.bipush (v := 108) F dX10_read_77 (by decide) ?_
    refine V.bipush (v := 109) F dX10_read_79 (by decide) ?_
    refine V.bipush (v := 115) F dX10_read_81 (by decide) ?_
    refine V.iconst (v := 0) F dX10_read_83 (by decide) ?_
    refine V.iconst (v := 0) F dX10_read_84 (by decide) ?_
    refine V.iconst (v := 0) F dX10_read_85 (by decide) ?_
    obtain ⟨r16, e15, h⟩ := bnd_out h
    refine V.callVi (f := 0) (i := 0) (As := [.int 99, .int 97, .int 108, .int 109, .int 115, .int 0, .int 0, .int 0]) F ck_RX10_187 (M_isWord_ct e15) (by omega) (by decide) rfl mB0 rfl rfl rfl (Nat.le_of_ble_eq_true rfl) dX10_read_86 ?_
    obtain ⟨r18, μ19, e17, h⟩ := bnd2_out h
    refine V.callVi (f := 0) (i := 0) (As := [.int r16]) F ck_RX10_242 (M_part_ct e17) (by omega) (by decide) rfl mB0 rfl rfl rfl (Nat.le_of_ble_eq_true rfl) dX10_read_89 ?_
    refine V.msk (L' := [some (rf φ 0 0), none, some (.int x2), some (.int r12), none, none]) [true, false, true, true, false, false] rfl ?_
    exact M_read_92_ok F hd h
  · have h := f_out h c14
    refine V.iconst (v := 0) F dX10_read_67 (by decide) ?_
    refine V.goto (tgt := 92) F dX10_read_68 (by decide) ?_
    refine V.msk (L' := [some (rf φ 0 0), none, some (.int x2), some (.int r12), none, none]) [true, false, true, true, false, false] rfl ?_
    exact M_read_92_ok F hd h
set_option maxHeartbeats 4000000 in
set_option maxRecDepth 100000 in
theorem M_read_ct {l : Launch} {G : Glo} {x1 : Int32} {x2 : Int32} {μ : Mem} {r : Int32} {μ' : Mem} (h : M_read x1 x2 μ = some (r, μ')) : Ct l ΩB G 107 yX10_read cX10_read 6 (some .int) [.ref (G.1 0 0), .int x1, .int x2] μ (some (.int r), μ') := by
  refine Ct.intro (by decide) (Nat.le_of_ble_eq_true rfl) ?_
  intro φ hl hG F
  subst hl; subst hG
  exact M_read_ok F (Nat.le_refl _) h
def M_thingOf (x1 : Int32) (μ : Mem) : Option Int32 :=
  chk (inb ((3 * x1) + 1) 18) <|
  some (rd μ 5 0 (ix ((3 * x1) + 1)))
set_option maxHeartbeats 4000000 in
set_option maxRecDepth 100000 in
theorem M_thingOf_ok {φ : Fr} {d : Nat} (F : Fx φ ΩB cX10_thingOf RX10 2 (some .int)) (hd : 1 ≤ d) {x1 : Int32} {μ : Mem} {r : Int32} (h : M_thingOf x1 μ = some r) : V φ ΩB 2 d 0 [some (rf φ 0 0), some (.int x1)] [] μ (some (.int r), μ) := by
  unfold M_thingOf at h
  refine V.rload_n F dX10_thingOf_0 rfl rfl ?_
  refine gf_RX10_29 F dX10_thingOf_1 ?_
  refine V.iconst (v := 3) F dX10_thingOf_4 (by decide) ?_
  refine V.iload_n F dX10_thingOf_5 rfl rfl ?_
  refine V.imul F dX10_thingOf_6 ?_
  refine V.iconst (v := 1) F dX10_thingOf_7 (by decide) ?_
  refine V.iadd F dX10_thingOf_8 ?_
  obtain ⟨c1, h⟩ := chk_out h
  refine V.iald (t0 := 0) (n := 18) F mB5 rfl rfl c1 dX10_thingOf_9 ?_
  obtain rfl := r1_out h
  exact V.iret F dX10_thingOf_10
set_option maxHeartbeats 4000000 in
set_option maxRecDepth 100000 in
theorem M_thingOf_ct {l : Launch} {G : Glo} {x1 : Int32} {μ : Mem} {r : Int32} (h : M_thingOf x1 μ = some r) : Ct l ΩB G 1 yX10_thingOf cX10_thingOf 2 (some .int) [.ref (G.1 0 0), .int x1] μ (some (.int r), μ) := by
  refine Ct.intro (by decide) (Nat.le_of_ble_eq_true rfl) ?_
  intro φ hl hG F
  subst hl; subst hG
  exact M_thingOf_ok F (Nat.le_refl _) h
def M_says_83 (x1 : Int32) (y1 : Int32) (μ : Mem) : Option (Int32 × Mem) :=
  nm (up μ 0 0 18 y1) fun μ1 =>
  bnd2 (M_read (rd μ1 0 0 4) x1 μ1) fun r3 μ4 =>
  nm (M_within r3 0 99) fun r6 =>
  some (r6, μ4)
set_option maxHeartbeats 4000000 in
set_option maxRecDepth 100000 in
theorem M_says_83_ok {φ : Fr} {d : Nat} (F : Fx φ ΩB cX10_says RX10 5 (some .int)) (hd : 108 ≤ d) {x1 : Int32} {y1 : Int32} {μ : Mem} {r : Int32} {μ' : Mem} (h : M_says_83 x1 y1 μ = some (r, μ')) : V φ ΩB 5 d 83 [some (rf φ 0 0), some (.int x1), none, none, none] [.int y1, rf φ 0 0] μ (some (.int r), μ') := by
  unfold M_says_83 at h
  obtain ⟨μ1, eμ1, h⟩ := nm_out h
  refine pf_RX10_206 F eμ1 dX10_says_83 ?_
  refine V.rload_n F dX10_says_86 rfl rfl ?_
  refine V.rload_n F dX10_says_87 rfl rfl ?_
  refine gf_RX10_104 F dX10_says_88 ?_
  refine V.iload_n F dX10_says_91 rfl rfl ?_
  obtain ⟨r3, μ4, e2, h⟩ := bnd2_out h
  refine V.callVi (f := 0) (i := 0) (As := [.int (rd μ1 0 0 4), .int x1]) F ck_RX10_246 (M_read_ct e2) (by omega) (by decide) rfl mB0 rfl rfl rfl (Nat.le_of_ble_eq_true rfl) dX10_says_92 ?_
  refine V.iconst (v := 0) F dX10_says_95 (by decide) ?_
  refine V.bipush (v := 99) F dX10_says_96 (by decide) ?_
  obtain ⟨r6, e5, h⟩ := nm_out h
  refine V.callSi (As := [.int r3, .int 0, .int 99]) F ck_RX10_249 (M_within_ct e5) (by omega) (by decide) rfl rfl (Nat.le_of_ble_eq_true rfl) dX10_says_98 ?_
  obtain ⟨rfl, rfl⟩ := r2_out h
  exact V.iret F dX10_says_101
def M_says_64 (x1 : Int32) (x2 : Int32) (x3 : Int32) (y1 : Int32) (μ : Mem) : Option (Int32 × Mem) :=
  nm (up μ 0 0 17 y1) fun μ1 =>
  if x1 = 2 then (
    M_says_83 x1 0 μ1)
  else (
    if x3 = x2 then (
      M_says_83 x1 1 μ1)
    else (
      M_says_83 x1 0 μ1))
set_option maxHeartbeats 4000000 in
set_option maxRecDepth 100000 in
theorem M_says_64_ok {φ : Fr} {d : Nat} (F : Fx φ ΩB cX10_says RX10 5 (some .int)) (hd : 108 ≤ d) {x1 : Int32} {x2 : Int32} {x3 : Int32} {y1 : Int32} {μ : Mem} {r : Int32} {μ' : Mem} (h : M_says_64 x1 x2 x3 y1 μ = some (r, μ')) : V φ ΩB 5 d 64 [some (rf φ 0 0), some (.int x1), some (.int x2), some (.int x3), none] [.int y1, rf φ 0 0] μ (some (.int r), μ') := by
  unfold M_says_64 at h
  obtain ⟨μ1, eμ1, h⟩ := nm_out h
  refine pf_RX10_203 F eμ1 dX10_says_64 ?_
  refine V.rload_n F dX10_says_67 rfl rfl ?_
  refine V.iload_n F dX10_says_68 rfl rfl ?_
  refine V.iconst (v := 2) F dX10_says_69 (by decide) ?_
  refine V.icmp_eq (tgt := 82) F dX10_says_70 (by decide) (fun c2 => ?_) (fun c2 => ?_)
  · have h := t_out h c2
    refine V.iconst (v := 0) F dX10_says_82 (by decide) ?_
    refine V.msk (L' := [some (rf φ 0 0), some (.int x1), none, none, none]) [true, true, false, false, false] rfl ?_
    exact M_says_83_ok F hd h
  · have h := f_out h c2
    refine V.iload_n F dX10_says_73 rfl rfl ?_
    refine V.iload_n F dX10_says_74 rfl rfl ?_
    refine V.icmp_ne (tgt := 82) F dX10_says_75 (by decide) (fun c3 => ?_) (fun c3 => ?_)
    · have h := f_out h c3
      refine V.iconst (v := 0) F dX10_says_82 (by decide) ?_
      refine V.msk (L' := [some (rf φ 0 0), some (.int x1), none, none, none]) [true, true, false, false, false] rfl ?_
      exact M_says_83_ok F hd h
    · have h := t_out h c3
      refine V.iconst (v := 1) F dX10_says_78 (by decide) ?_
      refine V.goto (tgt := 83) F dX10_says_79 (by decide) ?_
      refine V.msk (L' := [some (rf φ 0 0), some (.int x1), none, none, none]) [true, true, false, false, false] rfl ?_
      exact M_says_83_ok F hd h
def M_says_50 (x1 : Int32) (x2 : Int32) (x3 : Int32) (y1 : Int32) (μ : Mem) : Option (Int32 × Mem) :=
  nm (up μ 0 0 16 y1) fun μ1 =>
  if x1 = 2 then (
    M_says_64 x1 x2 x3 0 μ1)
  else (
    M_says_64 x1 x2 x3 x3 μ1)
set_option maxHeartbeats 4000000 in
set_option maxRecDepth 100000 in
theorem M_says_50_ok {φ : Fr} {d : Nat} (F : Fx φ ΩB cX10_says RX10 5 (some .int)) (hd : 108 ≤ d) {x1 : Int32} {x2 : Int32} {x3 : Int32} {y1 : Int32} {μ : Mem} {r : Int32} {μ' : Mem} (h : M_says_50 x1 x2 x3 y1 μ = some (r, μ')) : V φ ΩB 5 d 50 [some (rf φ 0 0), some (.int x1), some (.int x2), some (.int x3), none] [.int y1, rf φ 0 0] μ (some (.int r), μ') := by
  unfold M_says_50 at h
  obtain ⟨μ1, eμ1, h⟩ := nm_out h
  refine pf_RX10_200 F eμ1 dX10_says_50 ?_
  refine V.rload_n F dX10_says_53 rfl rfl ?_
  refine V.iload_n F dX10_says_54 rfl rfl ?_
  refine V.iconst (v := 2) F dX10_says_55 (by decide) ?_
  refine V.icmp_ne (tgt := 63) F dX10_says_56 (by decide) (fun c2 => ?_) (fun c2 => ?_)
  · have h := f_out h c2
    refine V.iload_n F dX10_says_63 rfl rfl ?_
    exact M_says_64_ok F hd h
  · have h := t_out h c2
    refine V.iconst (v := 0) F dX10_says_59 (by decide) ?_
    refine V.goto (tgt := 64) F dX10_says_60 (by decide) ?_
    exact M_says_64_ok F hd h
def M_says_21 (x1 : Int32) (x2 : Int32) (x3 : Int32) (y1 : Int32) (μ : Mem) : Option (Int32 × Mem) :=
  nm (up μ 0 0 14 y1) fun μ1 =>
  chk (inb (3 * x2) 18) <|
  nm (up μ1 0 0 15 (rd μ1 5 0 (ix (3 * x2)))) fun μ3 =>
  if x1 = 2 then (
    M_says_50 x1 x2 x3 0 μ3)
  else (
    M_says_50 x1 x2 x3 (rd μ3 0 0 7) μ3)
set_option maxHeartbeats 4000000 in
set_option maxRecDepth 100000 in
theorem M_says_21_ok {φ : Fr} {d : Nat} (F : Fx φ ΩB cX10_says RX10 5 (some .int)) (hd : 108 ≤ d) {x1 : Int32} {x2 : Int32} {x3 : Int32} {y1 : Int32} {μ : Mem} {r : Int32} {μ' : Mem} (h : M_says_21 x1 x2 x3 y1 μ = some (r, μ')) : V φ ΩB 5 d 21 [some (rf φ 0 0), some (.int x1), some (.int x2), some (.int x3), none] [.int y1, rf φ 0 0] μ (some (.int r), μ') := by
  unfold M_says_21 at h
  obtain ⟨μ1, eμ1, h⟩ := nm_out h
  refine pf_RX10_194 F eμ1 dX10_says_21 ?_
  refine V.rload_n F dX10_says_24 rfl rfl ?_
  refine V.rload_n F dX10_says_25 rfl rfl ?_
  refine gf_RX10_29 F dX10_says_26 ?_
  refine V.iconst (v := 3) F dX10_says_29 (by decide) ?_
  refine V.iload_n F dX10_says_30 rfl rfl ?_
  refine V.imul F dX10_says_31 ?_
  obtain ⟨c2, h⟩ := chk_out h
  refine V.iald (t0 := 0) (n := 18) F mB5 rfl rfl c2 dX10_says_32 ?_
  obtain ⟨μ3, eμ3, h⟩ := nm_out h
  refine pf_RX10_197 F eμ3 dX10_says_33 ?_
  refine V.rload_n F dX10_says_36 rfl rfl ?_
  refine V.iload_n F dX10_says_37 rfl rfl ?_
  refine V.iconst (v := 2) F dX10_says_38 (by decide) ?_
  refine V.icmp_ne (tgt := 46) F dX10_says_39 (by decide) (fun c4 => ?_) (fun c4 => ?_)
  · have h := f_out h c4
    refine V.rload_n F dX10_says_46 rfl rfl ?_
    refine gf_RX10_101 F dX10_says_47 ?_
    exact M_says_50_ok F hd h
  · have h := t_out h c4
    refine V.iconst (v := 0) F dX10_says_42 (by decide) ?_
    refine V.goto (tgt := 50) F dX10_says_43 (by decide) ?_
    exact M_says_50_ok F hd h
def M_says (x1 : Int32) (x2 : Int32) (x3 : Int32) (x4 : Int32) (μ : Mem) : Option (Int32 × Mem) :=
  bnd (M_thingOf x3 μ) fun r2 =>
  nm (up μ 0 0 13 r2) fun μ3 =>
  if x1 = 2 then (
    M_says_21 x1 x2 x3 0 μ3)
  else (
    M_says_21 x1 x2 x3 x4 μ3)
set_option maxHeartbeats 4000000 in
set_option maxRecDepth 100000 in
theorem M_says_ok {φ : Fr} {d : Nat} (F : Fx φ ΩB cX10_says RX10 5 (some .int)) (hd : 108 ≤ d) {x1 : Int32} {x2 : Int32} {x3 : Int32} {x4 : Int32} {μ : Mem} {r : Int32} {μ' : Mem} (h : M_says x1 x2 x3 x4 μ = some (r, μ')) : V φ ΩB 5 d 0 [some (rf φ 0 0), some (.int x1), some (.int x2), some (.int x3), some (.int x4)] [] μ (some (.int r), μ') := by
  unfold M_says at h
  refine V.rload_n F dX10_says_0 rfl rfl ?_
  refine V.rload_n F dX10_says_1 rfl rfl ?_
  refine V.iload_n F dX10_says_2 rfl rfl ?_
  obtain ⟨r2, e1, h⟩ := bnd_out h
  refine V.callVi (f := 0) (i := 0) (As := [.int x3]) F ck_RX10_119 (M_thingOf_ct e1) (by omega) (by decide) rfl mB0 rfl rfl rfl (Nat.le_of_ble_eq_true rfl) dX10_says_3 ?_
  obtain ⟨μ3, eμ3, h⟩ := nm_out h
  refine pf_RX10_191 F eμ3 dX10_says_6 ?_
  refine V.rload_n F dX10_says_9 rfl rfl ?_
  refine V.iload_n F dX10_says_10 rfl rfl ?_
  refine V.iconst (v := 2) F dX10_says_11 (by decide) ?_
  refine V.icmp_ne (tgt := 19) F dX10_says_12 (by decide) (fun c4 => ?_) (fun c4 => ?_)
  · have h := f_out h c4
    refine V.iload F dX10_says_19 rfl ?_
    refine V.msk (L' := [some (rf φ 0 0), some (.int x1), some (.int x2), some (.int x3), none]) [true, true, true, true, false] rfl ?_
    exact M_says_21_ok F hd h
  · have h := t_out h c4
    refine V.iconst (v := 0) F dX10_says_15 (by decide) ?_
    refine V.goto (tgt := 21) F dX10_says_16 (by decide) ?_
    refine V.msk (L' := [some (rf φ 0 0), some (.int x1), some (.int x2), some (.int x3), none]) [true, true, true, true, false] rfl ?_
    exact M_says_21_ok F hd h
set_option maxHeartbeats 4000000 in
set_option maxRecDepth 100000 in
theorem M_says_ct {l : Launch} {G : Glo} {x1 : Int32} {x2 : Int32} {x3 : Int32} {x4 : Int32} {μ : Mem} {r : Int32} {μ' : Mem} (h : M_says x1 x2 x3 x4 μ = some (r, μ')) : Ct l ΩB G 108 yX10_says cX10_says 5 (some .int) [.ref (G.1 0 0), .int x1, .int x2, .int x3, .int x4] μ (some (.int r), μ') := by
  refine Ct.intro (by decide) (Nat.le_of_ble_eq_true rfl) ?_
  intro φ hl hG F
  subst hl; subst hG
  exact M_says_ok F (Nat.le_refl _) h
def M_calmsOf_131 (y0 : Int32) (μ : Mem) : Option (Int32 × Mem) :=
  nm (M_within y0 0 99) fun r2 =>
  some (r2, μ)
set_option maxHeartbeats 4000000 in
set_option maxRecDepth 100000 in
theorem M_calmsOf_131_ok {φ : Fr} {d : Nat} (F : Fx φ ΩB cX10_calmsOf RX10 9 (some .int)) (hd : 109 ≤ d) {y0 : Int32} {μ : Mem} {r : Int32} {μ' : Mem} (h : M_calmsOf_131 y0 μ = some (r, μ')) : V φ ΩB 9 d 131 [none, none, none, none, none, none, none, none, none] [.int y0] μ (some (.int r), μ') := by
  unfold M_calmsOf_131 at h
  refine V.istore (L' := [none, none, none, none, none, none, none, none, some (.int y0)]) F dX10_calmsOf_131 (by decide) rfl rfl rfl ?_
  refine V.iload F dX10_calmsOf_133 rfl ?_
  refine V.iconst (v := 0) F dX10_calmsOf_135 (by decide) ?_
  refine V.bipush (v := 99) F dX10_calmsOf_136 (by decide) ?_
  obtain ⟨r2, e1, h⟩ := nm_out h
  refine V.callSi (As := [.int y0, .int 0, .int 99]) F ck_RX10_249 (M_within_ct e1) (by omega) (by decide) rfl rfl (Nat.le_of_ble_eq_true rfl) dX10_calmsOf_138 ?_
  obtain ⟨rfl, rfl⟩ := r2_out h
  exact V.iret F dX10_calmsOf_141
def M_calmsOf_41 (x1 : Int32) (x4 : Int32) (x5 : Int32) (x6 : Int32) (y0 : Int32) (μ : Mem) : Option (Int32 × Mem) :=
  if x4 = 1 then (
    M_calmsOf_131 y0 μ)
  else (
    if x4 = 3 then (
      chk (inb (3 * x1) 18) <|
      M_calmsOf_131 (y0 + (rd μ 5 0 (ix (3 * x1)))) μ)
    else (
      if x4 = 2 then (
        M_calmsOf_131 (x6 + 2) μ)
      else (
        if x4 = 4 then (
          if x5 = 7 then (
            M_calmsOf_131 0 μ)
          else (
            if x5 = 13 then (
              M_calmsOf_131 0 μ)
            else (
              M_calmsOf_131 (x6 + 2) μ)))
        else (
          if x4 = 5 then (
            M_calmsOf_131 x5 μ)
          else (
            M_calmsOf_131 x6 μ)))))
set_option maxHeartbeats 4000000 in
set_option maxRecDepth 100000 in
theorem M_calmsOf_41_ok {φ : Fr} {d : Nat} (F : Fx φ ΩB cX10_calmsOf RX10 9 (some .int)) (hd : 109 ≤ d) {x1 : Int32} {x4 : Int32} {x5 : Int32} {x6 : Int32} {y0 : Int32} {μ : Mem} {r : Int32} {μ' : Mem} (h : M_calmsOf_41 x1 x4 x5 x6 y0 μ = some (r, μ')) : V φ ΩB 9 d 41 [some (rf φ 0 0), some (.int x1), none, none, some (.int x4), some (.int x5), some (.int x6), none, none] [.int y0] μ (some (.int r), μ') := by
  unfold M_calmsOf_41 at h
  refine V.istore (L' := [some (rf φ 0 0), some (.int x1), none, none, some (.int x4), some (.int x5), some (.int x6), some (.int y0), none]) F dX10_calmsOf_41 (by decide) rfl rfl rfl ?_
  refine V.iload F dX10_calmsOf_43 rfl ?_
  refine V.iconst (v := 1) F dX10_calmsOf_45 (by decide) ?_
  refine V.icmp_ne (tgt := 54) F dX10_calmsOf_46 (by decide) (fun c1 => ?_) (fun c1 => ?_)
  · have h := f_out h c1
    refine V.iload F dX10_calmsOf_54 rfl ?_
    refine V.iconst (v := 3) F dX10_calmsOf_56 (by decide) ?_
    refine V.icmp_ne (tgt := 74) F dX10_calmsOf_57 (by decide) (fun c2 => ?_) (fun c2 => ?_)
    · have h := f_out h c2
      refine V.iload F dX10_calmsOf_74 rfl ?_
      refine V.iconst (v := 2) F dX10_calmsOf_76 (by decide) ?_
      refine V.icmp_ne (tgt := 87) F dX10_calmsOf_77 (by decide) (fun c3 => ?_) (fun c3 => ?_)
      · have h := f_out h c3
        refine V.iload F dX10_calmsOf_87 rfl ?_
        refine V.iconst (v := 4) F dX10_calmsOf_89 (by decide) ?_
        refine V.icmp_ne (tgt := 118) F dX10_calmsOf_90 (by decide) (fun c4 => ?_) (fun c4 => ?_)
        · have h := f_out h c4
          refine V.iload F dX10_calmsOf_118 rfl ?_
          refine V.iconst (v := 5) F dX10_calmsOf_120 (by decide) ?_
          refine V.icmp_ne (tgt := 129) F dX10_calmsOf_121 (by decide) (fun c5 => ?_) (fun c5 => ?_)
          · have h := f_out h c5
            refine V.iload F dX10_calmsOf_129 rfl ?_
            refine V.msk (L' := [none, none, none, none, none, none, none, none, none]) [false, false, false, false, false, false, false, false, false] rfl ?_
            exact M_calmsOf_131_ok F hd h
          · have h := t_out h c5
            refine V.iload F dX10_calmsOf_124 rfl ?_
            refine V.goto (tgt := 131) F dX10_calmsOf_126 (by decide) ?_
            refine V.msk (L' := [none, none, none, none, none, none, none, none, none]) [false, false, false, false, false, false, false, false, false] rfl ?_
            exact M_calmsOf_131_ok F hd h
        · have h := t_out h c4
          refine V.iload F dX10_calmsOf_93 rfl ?_
          refine V.bipush (v := 7) F dX10_calmsOf_95 (by decide) ?_
          refine V.icmp_eq (tgt := 107) F dX10_calmsOf_97 (by decide) (fun c6 => ?_) (fun c6 => ?_)
          · have h := t_out h c6
            refine V.iconst (v := 0) F dX10_calmsOf_107 (by decide) ?_
            refine V.goto (tgt := 131) F dX10_calmsOf_108 (by decide) ?_
            refine V.msk (L' := [none, none, none, none, none, none, none, none, none]) [false, false, false, false, false, false, false, false, false] rfl ?_
            exact M_calmsOf_131_ok F hd h
          · have h := f_out h c6
            refine V.iload F dX10_calmsOf_100 rfl ?_
            refine V.bipush (v := 13) F dX10_calmsOf_102 (by decide) ?_
            refine V.icmp_ne (tgt := 111) F dX10_calmsOf_104 (by decide) (fun c7 => ?_) (fun c7 => ?_)
            · have h := f_out h c7
              refine V.iload F dX10_calmsOf_111 rfl ?_
              refine V.iconst (v := 2) F dX10_calmsOf_113 (by decide) ?_
              refine V.iadd F dX10_calmsOf_114 ?_
              refine V.goto (tgt := 131) F dX10_calmsOf_115 (by decide) ?_
              refine V.msk (L' := [none, none, none, none, none, none, none, none, none]) [false, false, false, false, false, false, false, false, false] rfl ?_
              exact M_calmsOf_131_ok F hd h
            · have h := t_out h c7
              refine V.iconst (v := 0) F dX10_calmsOf_107 (by decide) ?_
              refine V.goto (tgt := 131) F dX10_calmsOf_108 (by decide) ?_
              refine V.msk (L' := [none, none, none, none, none, none, none, none, none]) [false, false, false, false, false, false, false, false, false] rfl ?_
              exact M_calmsOf_131_ok F hd h
      · have h := t_out h c3
        refine V.iload F dX10_calmsOf_80 rfl ?_
        refine V.iconst (v := 2) F dX10_calmsOf_82 (by decide) ?_
        refine V.iadd F dX10_calmsOf_83 ?_
        refine V.goto (tgt := 131) F dX10_calmsOf_84 (by decide) ?_
        refine V.msk (L' := [none, none, none, none, none, none, none, none, none]) [false, false, false, false, false, false, false, false, false] rfl ?_
        exact M_calmsOf_131_ok F hd h
    · have h := t_out h c2
      refine V.iload F dX10_calmsOf_60 rfl ?_
      refine V.rload_n F dX10_calmsOf_62 rfl rfl ?_
      refine gf_RX10_29 F dX10_calmsOf_63 ?_
      refine V.iconst (v := 3) F dX10_calmsOf_66 (by decide) ?_
      refine V.iload_n F dX10_calmsOf_67 rfl rfl ?_
      refine V.imul F dX10_calmsOf_68 ?_
      obtain ⟨c8, h⟩ := chk_out h
      refine V.iald (t0 := 0) (n := 18) F mB5 rfl rfl c8 dX10_calmsOf_69 ?_
      refine V.iadd F dX10_calmsOf_70 ?_
      refine V.goto (tgt := 131) F dX10_calmsOf_71 (by decide) ?_
      refine V.msk (L' := [none, none, none, none, none, none, none, none, none]) [false, false, false, false, false, false, false, false, false] rfl ?_
      exact M_calmsOf_131_ok F hd h
  · have h := t_out h c1
    refine V.iload F dX10_calmsOf_49 rfl ?_
    refine V.goto (tgt := 131) F dX10_calmsOf_51 (by decide) ?_
    refine V.msk (L' := [none, none, none, none, none, none, none, none, none]) [false, false, false, false, false, false, false, false, false] rfl ?_
    exact M_calmsOf_131_ok F hd h
def M_calmsOf (x1 : Int32) (x2 : Int32) (x3 : Int32) (μ : Mem) : Option (Int32 × Mem) :=
  chk (inb x1 6) <|
  nm (rd μ 4 0 (ix x1)) fun a2 =>
  bnd (M_thingOf x2 μ) fun r4 =>
  bnd2 (M_says 1 x1 x2 x3 μ) fun r6 μ7 =>
  if (irm r4 2) = 0 then (
    M_calmsOf_41 x1 a2 r4 r6 r6 μ7)
  else (
    M_calmsOf_41 x1 a2 r4 r6 (r6 / 2) μ7)
set_option maxHeartbeats 4000000 in
set_option maxRecDepth 100000 in
theorem M_calmsOf_ok {φ : Fr} {d : Nat} (F : Fx φ ΩB cX10_calmsOf RX10 9 (some .int)) (hd : 109 ≤ d) {x1 : Int32} {x2 : Int32} {x3 : Int32} {μ : Mem} {r : Int32} {μ' : Mem} (h : M_calmsOf x1 x2 x3 μ = some (r, μ')) : V φ ΩB 9 d 0 [some (rf φ 0 0), some (.int x1), some (.int x2), some (.int x3), none, none, none, none, none] [] μ (some (.int r), μ') := by
  unfold M_calmsOf at h
  refine V.rload_n F dX10_calmsOf_0 rfl rfl ?_
  refine gf_RX10_26 F dX10_calmsOf_1 ?_
  refine V.iload_n F dX10_calmsOf_4 rfl rfl ?_
  obtain ⟨c1, h⟩ := chk_out h
  refine V.iald (t0 := 0) (n := 6) F mB4 rfl rfl c1 dX10_calmsOf_5 ?_
  obtain ⟨a2, ea2, h⟩ := nm_out h
  refine V.istore (L' := [some (rf φ 0 0), some (.int x1), some (.int x2), some (.int x3), some (.int a2), none, none, none, none]) F dX10_calmsOf_6 (by decide) rfl ea2 rfl ?_
  refine V.rload_n F dX10_calmsOf_8 rfl rfl ?_
  refine V.iload_n F dX10_calmsOf_9 rfl rfl ?_
  obtain ⟨r4, e3, h⟩ := bnd_out h
  refine V.callVi (f := 0) (i := 0) (As := [.int x2]) F ck_RX10_119 (M_thingOf_ct e3) (by omega) (by decide) rfl mB0 rfl rfl rfl (Nat.le_of_ble_eq_true rfl) dX10_calmsOf_10 ?_
  refine V.istore (L' := [some (rf φ 0 0), some (.int x1), some (.int x2), some (.int x3), some (.int a2), some (.int r4), none, none, none]) F dX10_calmsOf_13 (by decide) rfl rfl rfl ?_
  refine V.rload_n F dX10_calmsOf_15 rfl rfl ?_
  refine V.iconst (v := 1) F dX10_calmsOf_16 (by decide) ?_
  refine V.iload_n F dX10_calmsOf_17 rfl rfl ?_
  refine V.iload_n F dX10_calmsOf_18 rfl rfl ?_
  refine V.iload_n F dX10_calmsOf_19 rfl rfl ?_
  obtain ⟨r6, μ7, e5, h⟩ := bnd2_out h
  refine V.callVi (f := 0) (i := 0) (As := [.int 1, .int x1, .int x2, .int x3]) F ck_RX10_252 (M_says_ct e5) (by omega) (by decide) rfl mB0 rfl rfl rfl (Nat.le_of_ble_eq_true rfl) dX10_calmsOf_20 ?_
  refine V.istore (L' := [some (rf φ 0 0), some (.int x1), some (.int x2), some (.int x3), some (.int a2), some (.int r4), some (.int r6), none, none]) F dX10_calmsOf_23 (by decide) rfl rfl rfl ?_
  refine V.iload F dX10_calmsOf_25 rfl ?_
  refine V.iconst (v := 2) F dX10_calmsOf_27 (by decide) ?_
  refine V.irem F dX10_calmsOf_28 (by decide) ?_
  refine V.if_ne (tgt := 37) F dX10_calmsOf_29 (by decide) (fun c8 => ?_) (fun c8 => ?_)
  · have h := f_out h c8
    refine V.iload F dX10_calmsOf_37 rfl ?_
    refine V.iconst (v := 2) F dX10_calmsOf_39 (by decide) ?_
    refine V.idiv F dX10_calmsOf_40 (by decide) ?_
    refine V.msk (L' := [some (rf φ 0 0), some (.int x1), none, none, some (.int a2), some (.int r4), some (.int r6), none, none]) [true, true, false, false, true, true, true, false, false] rfl ?_
    exact M_calmsOf_41_ok F hd h
  · have h := t_out h c8
    refine V.iload F dX10_calmsOf_32 rfl ?_
    refine V.goto (tgt := 41) F dX10_calmsOf_34 (by decide) ?_
    refine V.msk (L' := [some (rf φ 0 0), some (.int x1), none, none, some (.int a2), some (.int r4), some (.int r6), none, none]) [true, true, false, false, true, true, true, false, false] rfl ?_
    exact M_calmsOf_41_ok F hd h
set_option maxHeartbeats 4000000 in
set_option maxRecDepth 100000 in
theorem M_calmsOf_ct {l : Launch} {G : Glo} {x1 : Int32} {x2 : Int32} {x3 : Int32} {μ : Mem} {r : Int32} {μ' : Mem} (h : M_calmsOf x1 x2 x3 μ = some (r, μ')) : Ct l ΩB G 109 yX10_calmsOf cX10_calmsOf 9 (some .int) [.ref (G.1 0 0), .int x1, .int x2, .int x3] μ (some (.int r), μ') := by
  refine Ct.intro (by decide) (Nat.le_of_ble_eq_true rfl) ?_
  intro φ hl hG F
  subst hl; subst hG
  exact M_calmsOf_ok F (Nat.le_refl _) h
def M_feelsOf_74 (y0 : Int32) (μ : Mem) : Option (Int32 × Mem) :=
  nm (M_within y0 0 99) fun r2 =>
  some (r2, μ)
set_option maxHeartbeats 4000000 in
set_option maxRecDepth 100000 in
theorem M_feelsOf_74_ok {φ : Fr} {d : Nat} (F : Fx φ ΩB cX10_feelsOf RX10 6 (some .int)) (hd : 109 ≤ d) {y0 : Int32} {μ : Mem} {r : Int32} {μ' : Mem} (h : M_feelsOf_74 y0 μ = some (r, μ')) : V φ ΩB 6 d 74 [none, none, none, none, none, none] [.int y0] μ (some (.int r), μ') := by
  unfold M_feelsOf_74 at h
  refine V.istore (L' := [none, none, none, none, none, some (.int y0)]) F dX10_feelsOf_74 (by decide) rfl rfl rfl ?_
  refine V.iload F dX10_feelsOf_76 rfl ?_
  refine V.iconst (v := 0) F dX10_feelsOf_78 (by decide) ?_
  refine V.bipush (v := 99) F dX10_feelsOf_79 (by decide) ?_
  obtain ⟨r2, e1, h⟩ := nm_out h
  refine V.callSi (As := [.int y0, .int 0, .int 99]) F ck_RX10_249 (M_within_ct e1) (by omega) (by decide) rfl rfl (Nat.le_of_ble_eq_true rfl) dX10_feelsOf_81 ?_
  obtain ⟨rfl, rfl⟩ := r2_out h
  exact V.iret F dX10_feelsOf_84
def M_feelsOf (x1 : Int32) (x2 : Int32) (μ : Mem) : Option (Int32 × Mem) :=
  chk (inb x1 6) <|
  nm (rd μ 4 0 (ix x1)) fun a2 =>
  bnd2 (M_says 2 x1 x2 0 μ) fun r4 μ5 =>
  if a2 = 2 then (
    M_feelsOf_74 (irm r4 10) μ5)
  else (
    if a2 = 4 then (
      M_feelsOf_74 ((irm r4 10) + 1) μ5)
    else (
      if a2 = 3 then (
        M_feelsOf_74 (2 * r4) μ5)
      else (
        if a2 = 5 then (
          if r4 < 5 then (
            M_feelsOf_74 0 μ5)
          else (
            M_feelsOf_74 r4 μ5))
        else (
          M_feelsOf_74 r4 μ5))))
set_option maxHeartbeats 4000000 in
set_option maxRecDepth 100000 in
theorem M_feelsOf_ok {φ : Fr} {d : Nat} (F : Fx φ ΩB cX10_feelsOf RX10 6 (some .int)) (hd : 109 ≤ d) {x1 : Int32} {x2 : Int32} {μ : Mem} {r : Int32} {μ' : Mem} (h : M_feelsOf x1 x2 μ = some (r, μ')) : V φ ΩB 6 d 0 [some (rf φ 0 0), some (.int x1), some (.int x2), none, none, none] [] μ (some (.int r), μ') := by
  unfold M_feelsOf at h
  refine V.rload_n F dX10_feelsOf_0 rfl rfl ?_
  refine gf_RX10_26 F dX10_feelsOf_1 ?_
  refine V.iload_n F dX10_feelsOf_4 rfl rfl ?_
  obtain ⟨c1, h⟩ := chk_out h
  refine V.iald (t0 := 0) (n := 6) F mB4 rfl rfl c1 dX10_feelsOf_5 ?_
  obtain ⟨a2, ea2, h⟩ := nm_out h
  refine V.istore_n (L' := [some (rf φ 0 0), some (.int x1), some (.int x2), some (.int a2), none, none]) F dX10_feelsOf_6 rfl (by decide) rfl ea2 rfl ?_
  refine V.rload_n F dX10_feelsOf_7 rfl rfl ?_
  refine V.iconst (v := 2) F dX10_feelsOf_8 (by decide) ?_
  refine V.iload_n F dX10_feelsOf_9 rfl rfl ?_
  refine V.iload_n F dX10_feelsOf_10 rfl rfl ?_
  refine V.iconst (v := 0) F dX10_feelsOf_11 (by decide) ?_
  obtain ⟨r4, μ5, e3, h⟩ := bnd2_out h
  refine V.callVi (f := 0) (i := 0) (As := [.int 2, .int x1, .int x2, .int 0]) F ck_RX10_252 (M_says_ct e3) (by omega) (by decide) rfl mB0 rfl rfl rfl (Nat.le_of_ble_eq_true rfl) dX10_feelsOf_12 ?_
  refine V.istore (L' := [some (rf φ 0 0), some (.int x1), some (.int x2), some (.int a2), some (.int r4), none]) F dX10_feelsOf_15 (by decide) rfl rfl rfl ?_
  refine V.iload_n F dX10_feelsOf_17 rfl rfl ?_
  refine V.iconst (v := 2) F dX10_feelsOf_18 (by decide) ?_
  refine V.icmp_ne (tgt := 30) F dX10_feelsOf_19 (by decide) (fun c6 => ?_) (fun c6 => ?_)
  · have h := f_out h c6
    refine V.iload_n F dX10_feelsOf_30 rfl rfl ?_
    refine V.iconst (v := 4) F dX10_feelsOf_31 (by decide) ?_
    refine V.icmp_ne (tgt := 45) F dX10_feelsOf_32 (by decide) (fun c7 => ?_) (fun c7 => ?_)
    · have h := f_out h c7
      refine V.iload_n F dX10_feelsOf_45 rfl rfl ?_
      refine V.iconst (v := 3) F dX10_feelsOf_46 (by decide) ?_
      refine V.icmp_ne (tgt := 57) F dX10_feelsOf_47 (by decide) (fun c8 => ?_) (fun c8 => ?_)
      · have h := f_out h c8
        refine V.iload_n F dX10_feelsOf_57 rfl rfl ?_
        refine V.iconst (v := 5) F dX10_feelsOf_58 (by decide) ?_
        refine V.icmp_ne (tgt := 72) F dX10_feelsOf_59 (by decide) (fun c9 => ?_) (fun c9 => ?_)
        · have h := f_out h c9
          refine V.iload F dX10_feelsOf_72 rfl ?_
          refine V.msk (L' := [none, none, none, none, none, none]) [false, false, false, false, false, false] rfl ?_
          exact M_feelsOf_74_ok F hd h
        · have h := t_out h c9
          refine V.iload F dX10_feelsOf_62 rfl ?_
          refine V.iconst (v := 5) F dX10_feelsOf_64 (by decide) ?_
          refine V.icmp_ge (tgt := 72) F dX10_feelsOf_65 (by decide) (fun c10 => ?_) (fun c10 => ?_)
          · have h := f_out h c10
            refine V.iload F dX10_feelsOf_72 rfl ?_
            refine V.msk (L' := [none, none, none, none, none, none]) [false, false, false, false, false, false] rfl ?_
            exact M_feelsOf_74_ok F hd h
          · have h := t_out h c10
            refine V.iconst (v := 0) F dX10_feelsOf_68 (by decide) ?_
            refine V.goto (tgt := 74) F dX10_feelsOf_69 (by decide) ?_
            refine V.msk (L' := [none, none, none, none, none, none]) [false, false, false, false, false, false] rfl ?_
            exact M_feelsOf_74_ok F hd h
      · have h := t_out h c8
        refine V.iconst (v := 2) F dX10_feelsOf_50 (by decide) ?_
        refine V.iload F dX10_feelsOf_51 rfl ?_
        refine V.imul F dX10_feelsOf_53 ?_
        refine V.goto (tgt := 74) F dX10_feelsOf_54 (by decide) ?_
        refine V.msk (L' := [none, none, none, none, none, none]) [false, false, false, false, false, false] rfl ?_
        exact M_feelsOf_74_ok F hd h
    · have h := t_out h c7
      refine V.iload F dX10_feelsOf_35 rfl ?_
      refine V.bipush (v := 10) F dX10_feelsOf_37 (by decide) ?_
      refine V.irem F dX10_feelsOf_39 (by decide) ?_
      refine V.iconst (v := 1) F dX10_feelsOf_40 (by decide) ?_
      refine V.iadd F dX10_feelsOf_41 ?_
      refine V.goto (tgt := 74) F dX10_feelsOf_42 (by decide) ?_
      refine V.msk (L' := [none, none, none, none, none, none]) [false, false, false, false, false, false] rfl ?_
      exact M_feelsOf_74_ok F hd h
  · have h := t_out h c6
    refine V.iload F dX10_feelsOf_22 rfl ?_
    refine V.bipush (v := 10) F dX10_feelsOf_24 (by decide) ?_
    refine V.irem F dX10_feelsOf_26 (by decide) ?_
    refine V.goto (tgt := 74) F dX10_feelsOf_27 (by decide) ?_
    refine V.msk (L' := [none, none, none, none, none, none]) [false, false, false, false, false, false] rfl ?_
    exact M_feelsOf_74_ok F hd h
set_option maxHeartbeats 4000000 in
set_option maxRecDepth 100000 in
theorem M_feelsOf_ct {l : Launch} {G : Glo} {x1 : Int32} {x2 : Int32} {μ : Mem} {r : Int32} {μ' : Mem} (h : M_feelsOf x1 x2 μ = some (r, μ')) : Ct l ΩB G 109 yX10_feelsOf cX10_feelsOf 6 (some .int) [.ref (G.1 0 0), .int x1, .int x2] μ (some (.int r), μ') := by
  refine Ct.intro (by decide) (Nat.le_of_ble_eq_true rfl) ?_
  intro φ hl hG F
  subst hl; subst hG
  exact M_feelsOf_ok F (Nat.le_refl _) h
def M_heatsOf_108 (y0 : Int32) (μ : Mem) : Option (Int32 × Mem) :=
  nm (M_within y0 0 99) fun r2 =>
  some (r2, μ)
set_option maxHeartbeats 4000000 in
set_option maxRecDepth 100000 in
theorem M_heatsOf_108_ok {φ : Fr} {d : Nat} (F : Fx φ ΩB cX10_heatsOf RX10 7 (some .int)) (hd : 109 ≤ d) {y0 : Int32} {μ : Mem} {r : Int32} {μ' : Mem} (h : M_heatsOf_108 y0 μ = some (r, μ')) : V φ ΩB 7 d 108 [none, none, none, none, none, none, none] [.int y0] μ (some (.int r), μ') := by
  unfold M_heatsOf_108 at h
  refine V.istore (L' := [none, none, none, none, none, none, some (.int y0)]) F dX10_heatsOf_108 (by decide) rfl rfl rfl ?_
  refine V.iload F dX10_heatsOf_110 rfl ?_
  refine V.iconst (v := 0) F dX10_heatsOf_112 (by decide) ?_
  refine V.bipush (v := 99) F dX10_heatsOf_113 (by decide) ?_
  obtain ⟨r2, e1, h⟩ := nm_out h
  refine V.callSi (As := [.int y0, .int 0, .int 99]) F ck_RX10_249 (M_within_ct e1) (by omega) (by decide) rfl rfl (Nat.le_of_ble_eq_true rfl) dX10_heatsOf_115 ?_
  obtain ⟨rfl, rfl⟩ := r2_out h
  exact V.iret F dX10_heatsOf_118
def M_heatsOf (x1 : Int32) (x2 : Int32) (x3 : Int32) (μ : Mem) : Option (Int32 × Mem) :=
  chk (inb x1 6) <|
  nm (rd μ 4 0 (ix x1)) fun a2 =>
  bnd2 (M_says 0 x1 x2 x3 μ) fun r4 μ5 =>
  if a2 = 1 then (
    M_heatsOf_108 (r4 + 3) μ5)
  else (
    if a2 = 3 then (
      if (irm (rd μ5 0 0 7) 4) = 1 then (
        M_heatsOf_108 0 μ5)
      else (
        M_heatsOf_108 (r4 + 3) μ5))
    else (
      if a2 = 2 then (
        M_heatsOf_108 (r4 / 2) μ5)
      else (
        if a2 = 4 then (
          chk (inb (3 * x1) 18) <|
          M_heatsOf_108 ((r4 / 2) - (rd μ5 5 0 (ix (3 * x1)))) μ5)
        else (
          if a2 = 5 then (
            M_heatsOf_108 (2 * r4) μ5)
          else (
            M_heatsOf_108 r4 μ5)))))
set_option maxHeartbeats 4000000 in
set_option maxRecDepth 100000 in
theorem M_heatsOf_ok {φ : Fr} {d : Nat} (F : Fx φ ΩB cX10_heatsOf RX10 7 (some .int)) (hd : 109 ≤ d) {x1 : Int32} {x2 : Int32} {x3 : Int32} {μ : Mem} {r : Int32} {μ' : Mem} (h : M_heatsOf x1 x2 x3 μ = some (r, μ')) : V φ ΩB 7 d 0 [some (rf φ 0 0), some (.int x1), some (.int x2), some (.int x3), none, none, none] [] μ (some (.int r), μ') := by
  unfold M_heatsOf at h
  refine V.rload_n F dX10_heatsOf_0 rfl rfl ?_
  refine gf_RX10_26 F dX10_heatsOf_1 ?_
  refine V.iload_n F dX10_heatsOf_4 rfl rfl ?_
  obtain ⟨c1, h⟩ := chk_out h
  refine V.iald (t0 := 0) (n := 6) F mB4 rfl rfl c1 dX10_heatsOf_5 ?_
  obtain ⟨a2, ea2, h⟩ := nm_out h
  refine V.istore (L' := [some (rf φ 0 0), some (.int x1), some (.int x2), some (.int x3), some (.int a2), none, none]) F dX10_heatsOf_6 (by decide) rfl ea2 rfl ?_
  refine V.rload_n F dX10_heatsOf_8 rfl rfl ?_
  refine V.iconst (v := 0) F dX10_heatsOf_9 (by decide) ?_
  refine V.iload_n F dX10_heatsOf_10 rfl rfl ?_
  refine V.iload_n F dX10_heatsOf_11 rfl rfl ?_
  refine V.iload_n F dX10_heatsOf_12 rfl rfl ?_
  obtain ⟨r4, μ5, e3, h⟩ := bnd2_out h
  refine V.callVi (f := 0) (i := 0) (As := [.int 0, .int x1, .int x2, .int x3]) F ck_RX10_252 (M_says_ct e3) (by omega) (by decide) rfl mB0 rfl rfl rfl (Nat.le_of_ble_eq_true rfl) dX10_heatsOf_13 ?_
  refine V.istore (L' := [some (rf φ 0 0), some (.int x1), some (.int x2), some (.int x3), some (.int a2), some (.int r4), none]) F dX10_heatsOf_16 (by decide) rfl rfl rfl ?_
  refine V.iload F dX10_heatsOf_18 rfl ?_
  refine V.iconst (v := 1) F dX10_heatsOf_20 (by decide) ?_
  refine V.icmp_ne (tgt := 31) F dX10_heatsOf_21 (by decide) (fun c6 => ?_) (fun c6 => ?_)
  · have h := f_out h c6
    refine V.iload F dX10_heatsOf_31 rfl ?_
    refine V.iconst (v := 3) F dX10_heatsOf_33 (by decide) ?_
    refine V.icmp_ne (tgt := 58) F dX10_heatsOf_34 (by decide) (fun c7 => ?_) (fun c7 => ?_)
    · have h := f_out h c7
      refine V.iload F dX10_heatsOf_58 rfl ?_
      refine V.iconst (v := 2) F dX10_heatsOf_60 (by decide) ?_
      refine V.icmp_ne (tgt := 71) F dX10_heatsOf_61 (by decide) (fun c8 => ?_) (fun c8 => ?_)
      · have h := f_out h c8
        refine V.iload F dX10_heatsOf_71 rfl ?_
        refine V.iconst (v := 4) F dX10_heatsOf_73 (by decide) ?_
        refine V.icmp_ne (tgt := 93) F dX10_heatsOf_74 (by decide) (fun c9 => ?_) (fun c9 => ?_)
        · have h := f_out h c9
          refine V.iload F dX10_heatsOf_93 rfl ?_
          refine V.iconst (v := 5) F dX10_heatsOf_95 (by decide) ?_
          refine V.icmp_ne (tgt := 106) F dX10_heatsOf_96 (by decide) (fun c10 => ?_) (fun c10 => ?_)
          · have h := f_out h c10
            refine V.iload F dX10_heatsOf_106 rfl ?_
            refine V.msk (L' := [none, none, none, none, none, none, none]) [false, false, false, false, false, false, false] rfl ?_
            exact M_heatsOf_108_ok F hd h
          · have h := t_out h c10
            refine V.iconst (v := 2) F dX10_heatsOf_99 (by decide) ?_
            refine V.iload F dX10_heatsOf_100 rfl ?_
            refine V.imul F dX10_heatsOf_102 ?_
            refine V.goto (tgt := 108) F dX10_heatsOf_103 (by decide) ?_
            refine V.msk (L' := [none, none, none, none, none, none, none]) [false, false, false, false, false, false, false] rfl ?_
            exact M_heatsOf_108_ok F hd h
        · have h := t_out h c9
          refine V.iload F dX10_heatsOf_77 rfl ?_
          refine V.iconst (v := 2) F dX10_heatsOf_79 (by decide) ?_
          refine V.idiv F dX10_heatsOf_80 (by decide) ?_
          refine V.rload_n F dX10_heatsOf_81 rfl rfl ?_
          refine gf_RX10_29 F dX10_heatsOf_82 ?_
          refine V.iconst (v := 3) F dX10_heatsOf_85 (by decide) ?_
          refine V.iload_n F dX10_heatsOf_86 rfl rfl ?_
          refine V.imul F dX10_heatsOf_87 ?_
          obtain ⟨c11, h⟩ := chk_out h
          refine V.iald (t0 := 0) (n := 18) F mB5 rfl rfl c11 dX10_heatsOf_88 ?_
          refine V.isub F dX10_heatsOf_89 ?_
          refine V.goto (tgt := 108) F dX10_heatsOf_90 (by decide) ?_
          refine V.msk (L' := [none, none, none, none, none, none, none]) [false, false, false, false, false, false, false] rfl ?_
          exact M_heatsOf_108_ok F hd h
      · have h := t_out h c8
        refine V.iload F dX10_heatsOf_64 rfl ?_
        refine V.iconst (v := 2) F dX10_heatsOf_66 (by decide) ?_
        refine V.idiv F dX10_heatsOf_67 (by decide) ?_
        refine V.goto (tgt := 108) F dX10_heatsOf_68 (by decide) ?_
        refine V.msk (L' := [none, none, none, none, none, none, none]) [false, false, false, false, false, false, false] rfl ?_
        exact M_heatsOf_108_ok F hd h
    · have h := t_out h c7
      refine V.rload_n F dX10_heatsOf_37 rfl rfl ?_
      refine gf_RX10_101 F dX10_heatsOf_38 ?_
      refine V.iconst (v := 4) F dX10_heatsOf_41 (by decide) ?_
      refine V.irem F dX10_heatsOf_42 (by decide) ?_
      refine V.iconst (v := 1) F dX10_heatsOf_43 (by decide) ?_
      refine V.icmp_ne (tgt := 51) F dX10_heatsOf_44 (by decide) (fun c12 => ?_) (fun c12 => ?_)
      · have h := f_out h c12
        refine V.iload F dX10_heatsOf_51 rfl ?_
        refine V.iconst (v := 3) F dX10_heatsOf_53 (by decide) ?_
        refine V.iadd F dX10_heatsOf_54 ?_
        refine V.goto (tgt := 108) F dX10_heatsOf_55 (by decide) ?_
        refine V.msk (L' := [none, none, none, none, none, none, none]) [false, false, false, false, false, false, false] rfl ?_
        exact M_heatsOf_108_ok F hd h
      · have h := t_out h c12
        refine V.iconst (v := 0) F dX10_heatsOf_47 (by decide) ?_
        refine V.goto (tgt := 108) F dX10_heatsOf_48 (by decide) ?_
        refine V.msk (L' := [none, none, none, none, none, none, none]) [false, false, false, false, false, false, false] rfl ?_
        exact M_heatsOf_108_ok F hd h
  · have h := t_out h c6
    refine V.iload F dX10_heatsOf_24 rfl ?_
    refine V.iconst (v := 3) F dX10_heatsOf_26 (by decide) ?_
    refine V.iadd F dX10_heatsOf_27 ?_
    refine V.goto (tgt := 108) F dX10_heatsOf_28 (by decide) ?_
    refine V.msk (L' := [none, none, none, none, none, none, none]) [false, false, false, false, false, false, false] rfl ?_
    exact M_heatsOf_108_ok F hd h
set_option maxHeartbeats 4000000 in
set_option maxRecDepth 100000 in
theorem M_heatsOf_ct {l : Launch} {G : Glo} {x1 : Int32} {x2 : Int32} {x3 : Int32} {μ : Mem} {r : Int32} {μ' : Mem} (h : M_heatsOf x1 x2 x3 μ = some (r, μ')) : Ct l ΩB G 109 yX10_heatsOf cX10_heatsOf 7 (some .int) [.ref (G.1 0 0), .int x1, .int x2, .int x3] μ (some (.int r), μ') := by
  refine Ct.intro (by decide) (Nat.le_of_ble_eq_true rfl) ?_
  intro φ hl hG F
  subst hl; subst hG
  exact M_heatsOf_ok F (Nat.le_refl _) h
def M_told_28 (x1 : Int32) (x2 : Int32) (μ : Mem) : Option (Int32 × Mem) :=
  if x2 < 5 then (
    if x2 = 0 then (
      some (rd μ 0 0 7, μ))
    else (
      if x2 = 1 then (
        some (rd μ 0 0 8, μ))
      else (
        chk (inb (((3 * x1) + x2) - 2) 18) <|
        some (rd μ 5 0 (ix (((3 * x1) + x2) - 2)), μ))))
  else (
    if x2 < 8 then (
      if x2 = 5 then (
        chk (inb x1 6) <|
        some (rd μ 4 0 (ix x1), μ))
      else (
        if x2 = 6 then (
          chk (inb x1 6) <|
          some (rd μ 6 0 (ix x1), μ))
        else (
          chk (inb x1 6) <|
          bnd (M_thingOf (rd μ 6 0 (ix x1)) μ) fun r22 =>
          some (r22, μ))))
    else (
      chk (inb x1 6) <|
      nm (rd μ 6 0 (ix x1)) fun a4 =>
      if x2 = 8 then (
        chk (inb ((3 * x1) + 2) 18) <|
        bnd2 (M_heatsOf x1 a4 (rd μ 5 0 (ix ((3 * x1) + 2))) μ) fun r16 μ17 =>
        some (r16, μ17))
      else (
        if x2 = 9 then (
          chk (inb ((3 * x1) + 2) 18) <|
          bnd2 (M_calmsOf x1 a4 (rd μ 5 0 (ix ((3 * x1) + 2))) μ) fun r12 μ13 =>
          some (r12, μ13))
        else (
          bnd2 (M_feelsOf x1 a4 μ) fun r8 μ9 =>
          some (r8, μ9)))))
set_option maxHeartbeats 4000000 in
set_option maxRecDepth 100000 in
theorem M_told_28_ok {φ : Fr} {d : Nat} (F : Fx φ ΩB cX10_told RX10 4 (some .int)) (hd : 110 ≤ d) {x1 : Int32} {x2 : Int32} {μ : Mem} {r : Int32} {μ' : Mem} (h : M_told_28 x1 x2 μ = some (r, μ')) : V φ ΩB 4 d 28 [some (rf φ 0 0), some (.int x1), some (.int x2), none] [] μ (some (.int r), μ') := by
  unfold M_told_28 at h
  refine V.iload_n F dX10_told_28 rfl rfl ?_
  refine V.iconst (v := 5) F dX10_told_29 (by decide) ?_
  refine V.icmp_ge (tgt := 69) F dX10_told_30 (by decide) (fun c1 => ?_) (fun c1 => ?_)
  · have h := f_out h c1
    refine V.iload_n F dX10_told_69 rfl rfl ?_
    refine V.bipush (v := 8) F dX10_told_70 (by decide) ?_
    refine V.icmp_ge (tgt := 115) F dX10_told_72 (by decide) (fun c2 => ?_) (fun c2 => ?_)
    · have h := f_out h c2
      refine V.rload_n F dX10_told_115 rfl rfl ?_
      refine gf_RX10_32 F dX10_told_116 ?_
      refine V.iload_n F dX10_told_119 rfl rfl ?_
      obtain ⟨c3, h⟩ := chk_out h
      refine V.iald (t0 := 0) (n := 6) F mB6 rfl rfl c3 dX10_told_120 ?_
      obtain ⟨a4, ea4, h⟩ := nm_out h
      refine V.istore_n (L' := [some (rf φ 0 0), some (.int x1), some (.int x2), some (.int a4)]) F dX10_told_121 rfl (by decide) rfl ea4 rfl ?_
      refine V.iload_n F dX10_told_122 rfl rfl ?_
      refine V.bipush (v := 8) F dX10_told_123 (by decide) ?_
      refine V.icmp_ne (tgt := 147) F dX10_told_125 (by decide) (fun c5 => ?_) (fun c5 => ?_)
      · have h := f_out h c5
        refine V.iload_n F dX10_told_147 rfl rfl ?_
        refine V.bipush (v := 9) F dX10_told_148 (by decide) ?_
        refine V.icmp_ne (tgt := 172) F dX10_told_150 (by decide) (fun c6 => ?_) (fun c6 => ?_)
        · have h := f_out h c6
          refine V.rload_n F dX10_told_172 rfl rfl ?_
          refine V.iload_n F dX10_told_173 rfl rfl ?_
          refine V.iload_n F dX10_told_174 rfl rfl ?_
          obtain ⟨r8, μ9, e7, h⟩ := bnd2_out h
          refine V.callVi (f := 0) (i := 0) (As := [.int x1, .int a4]) F ck_RX10_129 (M_feelsOf_ct e7) (by omega) (by decide) rfl mB0 rfl rfl rfl (Nat.le_of_ble_eq_true rfl) dX10_told_175 ?_
          obtain ⟨rfl, rfl⟩ := r2_out h
          exact V.iret F dX10_told_178
        · have h := t_out h c6
          refine V.rload_n F dX10_told_153 rfl rfl ?_
          refine V.iload_n F dX10_told_154 rfl rfl ?_
          refine V.iload_n F dX10_told_155 rfl rfl ?_
          refine V.rload_n F dX10_told_156 rfl rfl ?_
          refine gf_RX10_29 F dX10_told_157 ?_
          refine V.iconst (v := 3) F dX10_told_160 (by decide) ?_
          refine V.iload_n F dX10_told_161 rfl rfl ?_
          refine V.imul F dX10_told_162 ?_
          refine V.iconst (v := 2) F dX10_told_163 (by decide) ?_
          refine V.iadd F dX10_told_164 ?_
          obtain ⟨c10, h⟩ := chk_out h
          refine V.iald (t0 := 0) (n := 18) F mB5 rfl rfl c10 dX10_told_165 ?_
          obtain ⟨r12, μ13, e11, h⟩ := bnd2_out h
          refine V.callVi (f := 0) (i := 0) (As := [.int x1, .int a4, .int (rd μ 5 0 (ix ((3 * x1) + 2)))]) F ck_RX10_126 (M_calmsOf_ct e11) (by omega) (by decide) rfl mB0 rfl rfl rfl (Nat.le_of_ble_eq_true rfl) dX10_told_166 ?_
          refine V.goto (tgt := 178) F dX10_told_169 (by decide) ?_
          obtain ⟨rfl, rfl⟩ := r2_out h
          exact V.iret F dX10_told_178
      · have h := t_out h c5
        refine V.rload_n F dX10_told_128 rfl rfl ?_
        refine V.iload_n F dX10_told_129 rfl rfl ?_
        refine V.iload_n F dX10_told_130 rfl rfl ?_
        refine V.rload_n F dX10_told_131 rfl rfl ?_
        refine gf_RX10_29 F dX10_told_132 ?_
        refine V.iconst (v := 3) F dX10_told_135 (by decide) ?_
        refine V.iload_n F dX10_told_136 rfl rfl ?_
        refine V.imul F dX10_told_137 ?_
        refine V.iconst (v := 2) F dX10_told_138 (by decide) ?_
        refine V.iadd F dX10_told_139 ?_
        obtain ⟨c14, h⟩ := chk_out h
        refine V.iald (t0 := 0) (n := 18) F mB5 rfl rfl c14 dX10_told_140 ?_
        obtain ⟨r16, μ17, e15, h⟩ := bnd2_out h
        refine V.callVi (f := 0) (i := 0) (As := [.int x1, .int a4, .int (rd μ 5 0 (ix ((3 * x1) + 2)))]) F ck_RX10_122 (M_heatsOf_ct e15) (by omega) (by decide) rfl mB0 rfl rfl rfl (Nat.le_of_ble_eq_true rfl) dX10_told_141 ?_
        refine V.goto (tgt := 178) F dX10_told_144 (by decide) ?_
        obtain ⟨rfl, rfl⟩ := r2_out h
        exact V.iret F dX10_told_178
    · have h := t_out h c2
      refine V.iload_n F dX10_told_75 rfl rfl ?_
      refine V.iconst (v := 5) F dX10_told_76 (by decide) ?_
      refine V.icmp_ne (tgt := 89) F dX10_told_77 (by decide) (fun c18 => ?_) (fun c18 => ?_)
      · have h := f_out h c18
        refine V.iload_n F dX10_told_89 rfl rfl ?_
        refine V.bipush (v := 6) F dX10_told_90 (by decide) ?_
        refine V.icmp_ne (tgt := 104) F dX10_told_92 (by decide) (fun c19 => ?_) (fun c19 => ?_)
        · have h := f_out h c19
          refine V.rload_n F dX10_told_104 rfl rfl ?_
          refine V.rload_n F dX10_told_105 rfl rfl ?_
          refine gf_RX10_32 F dX10_told_106 ?_
          refine V.iload_n F dX10_told_109 rfl rfl ?_
          obtain ⟨c20, h⟩ := chk_out h
          refine V.iald (t0 := 0) (n := 6) F mB6 rfl rfl c20 dX10_told_110 ?_
          obtain ⟨r22, e21, h⟩ := bnd_out h
          refine V.callVi (f := 0) (i := 0) (As := [.int (rd μ 6 0 (ix x1))]) F ck_RX10_119 (M_thingOf_ct e21) (by omega) (by decide) rfl mB0 rfl rfl rfl (Nat.le_of_ble_eq_true rfl) dX10_told_111 ?_
          obtain ⟨rfl, rfl⟩ := r2_out h
          exact V.iret F dX10_told_114
        · have h := t_out h c19
          refine V.rload_n F dX10_told_95 rfl rfl ?_
          refine gf_RX10_32 F dX10_told_96 ?_
          refine V.iload_n F dX10_told_99 rfl rfl ?_
          obtain ⟨c23, h⟩ := chk_out h
          refine V.iald (t0 := 0) (n := 6) F mB6 rfl rfl c23 dX10_told_100 ?_
          refine V.goto (tgt := 114) F dX10_told_101 (by decide) ?_
          obtain ⟨rfl, rfl⟩ := r2_out h
          exact V.iret F dX10_told_114
      · have h := t_out h c18
        refine V.rload_n F dX10_told_80 rfl rfl ?_
        refine gf_RX10_26 F dX10_told_81 ?_
        refine V.iload_n F dX10_told_84 rfl rfl ?_
        obtain ⟨c24, h⟩ := chk_out h
        refine V.iald (t0 := 0) (n := 6) F mB4 rfl rfl c24 dX10_told_85 ?_
        refine V.goto (tgt := 114) F dX10_told_86 (by decide) ?_
        obtain ⟨rfl, rfl⟩ := r2_out h
        exact V.iret F dX10_told_114
  · have h := t_out h c1
    refine V.iload_n F dX10_told_33 rfl rfl ?_
    refine V.if_ne (tgt := 44) F dX10_told_34 (by decide) (fun c25 => ?_) (fun c25 => ?_)
    · have h := f_out h c25
      refine V.iload_n F dX10_told_44 rfl rfl ?_
      refine V.iconst (v := 1) F dX10_told_45 (by decide) ?_
      refine V.icmp_ne (tgt := 56) F dX10_told_46 (by decide) (fun c26 => ?_) (fun c26 => ?_)
      · have h := f_out h c26
        refine V.rload_n F dX10_told_56 rfl rfl ?_
        refine gf_RX10_29 F dX10_told_57 ?_
        refine V.iconst (v := 3) F dX10_told_60 (by decide) ?_
        refine V.iload_n F dX10_told_61 rfl rfl ?_
        refine V.imul F dX10_told_62 ?_
        refine V.iload_n F dX10_told_63 rfl rfl ?_
        refine V.iadd F dX10_told_64 ?_
        refine V.iconst (v := 2) F dX10_told_65 (by decide) ?_
        refine V.isub F dX10_told_66 ?_
        obtain ⟨c27, h⟩ := chk_out h
        refine V.iald (t0 := 0) (n := 18) F mB5 rfl rfl c27 dX10_told_67 ?_
        obtain ⟨rfl, rfl⟩ := r2_out h
        exact V.iret F dX10_told_68
      · have h := t_out h c26
        refine V.rload_n F dX10_told_49 rfl rfl ?_
        refine gf_RX10_23 F dX10_told_50 ?_
        refine V.goto (tgt := 68) F dX10_told_53 (by decide) ?_
        obtain ⟨rfl, rfl⟩ := r2_out h
        exact V.iret F dX10_told_68
    · have h := t_out h c25
      refine V.rload_n F dX10_told_37 rfl rfl ?_
      refine gf_RX10_101 F dX10_told_38 ?_
      refine V.goto (tgt := 68) F dX10_told_41 (by decide) ?_
      obtain ⟨rfl, rfl⟩ := r2_out h
      exact V.iret F dX10_told_68
def M_told (x1 : Int32) (x2 : Int32) (μ : Mem) : Option (Int32 × Mem) :=
  nm (M_in (Int32.toInt64 x2) 0 10) fun r2 =>
  if r2 = 0 then (
    some ((-2), μ))
  else (
    if 1 < x2 then (
      bnd (M_isOne x1 μ) fun r6 =>
      if r6 = 0 then (
        some ((-2), μ))
      else (
        M_told_28 x1 x2 μ))
    else (
      M_told_28 x1 x2 μ))
set_option maxHeartbeats 4000000 in
set_option maxRecDepth 100000 in
theorem M_told_ok {φ : Fr} {d : Nat} (F : Fx φ ΩB cX10_told RX10 4 (some .int)) (hd : 110 ≤ d) {x1 : Int32} {x2 : Int32} {μ : Mem} {r : Int32} {μ' : Mem} (h : M_told x1 x2 μ = some (r, μ')) : V φ ΩB 4 d 0 [some (rf φ 0 0), some (.int x1), some (.int x2), none] [] μ (some (.int r), μ') := by
  unfold M_told at h
  refine V.iload_n F dX10_told_0 rfl rfl ?_
  refine V.i2l F dX10_told_1 ?_
  refine V.lconst (v := 0) F dX10_told_2 (by decide) ?_
  refine V.ldc2 F kl_RX10_117 dX10_told_3 ?_
  obtain ⟨r2, e1, h⟩ := nm_out h
  refine V.callSi (As := [.long (Int32.toInt64 x2), .long 0, .long 10]) F ck_RX10_79 (M_in_ct e1) (by omega) (by decide) rfl rfl (Nat.le_of_ble_eq_true rfl) dX10_told_6 ?_
  refine V.if_eq (tgt := 25) F dX10_told_9 (by decide) (fun c3 => ?_) (fun c3 => ?_)
  · have h := t_out h c3
    refine V.bipush (v := (-2)) F dX10_told_25 (by decide) ?_
    obtain ⟨rfl, rfl⟩ := r2_out h
    exact V.iret F dX10_told_27
  · have h := f_out h c3
    refine V.iload_n F dX10_told_12 rfl rfl ?_
    refine V.iconst (v := 1) F dX10_told_13 (by decide) ?_
    refine V.icmp_le (tgt := 28) F dX10_told_14 (by decide) (fun c4 => ?_) (fun c4 => ?_)
    · have h := f_out h c4
      exact M_told_28_ok F hd h
    · have h := t_out h c4
      refine V.rload_n F dX10_told_17 rfl rfl ?_
      refine V.iload_n F dX10_told_18 rfl rfl ?_
      obtain ⟨r6, e5, h⟩ := bnd_out h
      refine V.callVi (f := 0) (i := 0) (As := [.int x1]) F ck_RX10_85 (M_isOne_ct e5) (by omega) (by decide) rfl mB0 rfl rfl rfl (Nat.le_of_ble_eq_true rfl) dX10_told_19 ?_
      refine V.if_ne (tgt := 28) F dX10_told_22 (by decide) (fun c7 => ?_) (fun c7 => ?_)
      · have h := f_out h c7
        exact M_told_28_ok F hd h
      · have h := t_out h c7
        refine V.bipush (v := (-2)) F dX10_told_25 (by decide) ?_
        obtain ⟨rfl, rfl⟩ := r2_out h
        exact V.iret F dX10_told_27
set_option maxHeartbeats 4000000 in
set_option maxRecDepth 100000 in
theorem M_told_ct {l : Launch} {G : Glo} {x1 : Int32} {x2 : Int32} {μ : Mem} {r : Int32} {μ' : Mem} (h : M_told x1 x2 μ = some (r, μ')) : Ct l ΩB G 110 yX10_told cX10_told 4 (some .int) [.ref (G.1 0 0), .int x1, .int x2] μ (some (.int r), μ') := by
  refine Ct.intro (by decide) (Nat.le_of_ble_eq_true rfl) ?_
  intro φ hl hG F
  subst hl; subst hG
  exact M_told_ok F (Nat.le_refl _) h
