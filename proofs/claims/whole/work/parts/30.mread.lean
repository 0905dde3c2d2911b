/-! ===== the reference reads a whole text ===== -/
theorem nI_mul (a b : Nat) : nI a * nI b = nI (a * b) := by
  induction b with
  | zero => show nI a * 0 = 0; exact Int32.mul_zero
  | succ b ih =>
    rw [Nat.mul_succ, ← nI_add (a * b) a, ← ih, ← nI_add b 1, Int32.mul_add, show nI a * nI 1 = nI a from Int32.mul_one (nI a)]
def JR : List Nat := [19, 20, 21, 22, 23, 25, 26, 27]
theorem M_part_sp {B : Nat → Int32} {z t N k p : Nat} {ν : Mem} (hT : TokN (tkT B z) (tkV B z) N) (hS : MS B z t k 0 ν) (hk : k < N) (hp : p < 3) : ∃ r v ν', gPart (tkT B z) (tkV B z) p k = some r ∧ M_part (if tkT B z k = nI (6 + p) then 1 else 0) ν = some (v, ν') ∧ NX [21, 22, 23, 25, 26, 27] ν ν' ∧ match r.2 with
    | none => MF B z r.1 ν'
    | some cs => MS B z t r.1 0 ν' ∧ ∀ st, exc (nmM ν) cs st = v :: st := by
  have hN := hT.2.1
  have n13 : (13 : Int32) = nI 13 := rfl
  have n14 : (14 : Int32) = nI 14 := rfl
  unfold gPart M_part
  by_cases h : tkT B z k = nI (6 + p)
  · rw [if_pos h, if_pos h, if_neg (by decide)]
    have hg : goodT B z k := ⟨by rw [h, n13]; exact nI_lit_ne (by omega) (by omega) (by omega), by rw [h, n14]; exact nI_lit_ne (by omega) (by omega) (by omega)⟩
    have hk1 : k + 1 < N := hT.lt hk hg.1 hg.2
    obtain ⟨m1, s1, s2, s3⟩ := M_next_ms hS hg
    obtain ⟨r1, e1⟩ := grm_total hT 2000 0 0 (k + 1) hk1 (by decide) (by have : rkG 0 = 7 := rfl; omega)
    obtain ⟨g1, g2, g3⟩ := grm_ok hT 2000 0 0 (k + 1) r1 hk1 e1
    obtain ⟨v, m2, q1, q2, q3⟩ := M_sp hT 2000 0 0 (k + 1) 100 1000 0 r1 m1 hk1 (by decide) (by decide) e1 s2 (by decide) (by omega)
    have q1 : M_rec 100 0 m1 = some (v, m2) := q1
    have e8 : M_part_8 ν = M_part_34 v m2 := by
      unfold M_part_8
      rw [if_pos hS.2.1, bnd_of s1]
      unfold M_part_19
      rw [if_pos s2.2.1, bnd2_of q1]
    have nx : NX [21, 22, 23, 25, 26, 27] ν m2 := (s3.mono (by decide)).tr q2
    rw [e1, e8]
    unfold M_part_34
    simp only [nm_eq]
    match r1, g1, g2, g3, q3 with
    | (k1, none), g1, g2, g3, q3 =>
      have q3 : MF B z k1 m2 := q3
      have hb : ¬ rd m2 0 0 26 = 0 := by rw [q3.1]; decide
      rw [M_isSign_no hb, if_pos rfl, M_fail_mf q3]
      unfold M_part_48
      rw [if_neg hb]
      exact ⟨_, v, m2, rfl, rfl, nx, q3⟩
    | (k1, some cs), g1, g2, g3, q3 =>
      obtain ⟨q3, q4⟩ : MS B z t k1 0 m2 ∧ ∀ st, exc (nmM m1) cs ([] ++ st) = v :: st := q3
      have q5 : ∀ st, exc (nmM ν) cs st = v :: st := fun st => by
        have := q4 st
        rw [exc_nx s3 (by decide)] at this
        exact this
      rw [M_isSign_sp q3 (c := 59) (by decide)]
      show ∃ r v' ν', (if tkT B z k1 = 59 then some (k1 + 1, some cs) else some (k1, none)) = some r ∧ _
      by_cases h2 : tkT B z k1 = 59
      · rw [if_pos h2, if_pos h2, if_neg (by decide)]
        obtain ⟨m3, t1, t2, t3⟩ := M_next_ms q3 (show goodT B z k1 from ⟨by rw [h2]; decide, by rw [h2]; decide⟩)
        unfold M_part_48
        rw [if_pos q3.2.1, bnd_of t1]
        exact ⟨_, v, m3, rfl, rfl, nx.tr (t3.mono (by decide)), t2, q5⟩
      · rw [if_neg h2, if_neg h2, if_pos rfl]
        obtain ⟨f1, f2⟩ := M_fail_ms q3
        unfold M_part_48
        rw [if_neg (by rw [f1.1]; decide)]
        exact ⟨_, v, _, rfl, rfl, nx.tr (f2.mono (by decide)), f1⟩
  · rw [if_neg h, if_neg h, if_pos rfl]
    simp only [nm_eq]
    obtain ⟨f1, f2⟩ := M_fail_ms hS
    have hb : ¬ rd (M_fail ν) 0 0 26 = 0 := by rw [f1.1]; decide
    unfold M_part_8
    rw [if_neg hb]
    unfold M_part_19
    rw [if_neg hb]
    unfold M_part_34
    simp only [nm_eq]
    rw [M_isSign_no hb, if_pos rfl, M_fail_mf f1]
    unfold M_part_48
    rw [if_neg hb]
    exact ⟨_, 0, _, rfl, rfl, f2.mono (by decide), f1⟩
theorem read146 (x a b c : Int32) (ν : Mem) : M_read_146 x a b c ν = some (if x = 0 then a else if x = 1 then b else c, ν) := by
  unfold M_read_146
  split
  · rfl
  · split <;> rfl
/-- the text lies in the reference's bytes -/
def TB (B : Nat → Int32) (z t : Nat) (ν : Mem) : Prop := t < 6 ∧ z ≤ 160 ∧ rd ν 2 0 t = nI z ∧ (∀ i, i < z → rd ν 1 0 (160 * t + i) = B i) ∧ ∀ i, i < z → ¬ B i < 0
def pick3 {α : Type} (w : Nat) (x : α × α × α) : α := match w with
  | 0 => x.1
  | 1 => x.2.1
  | _ => x.2.2
theorem M_read_sp {B : Nat → Int32} {z t w : Nat} {ν : Mem} (hB : TB B z t ν) (hw : w < 3) : ∃ r v ν', gText (tkT B z) (tkV B z) = some r ∧ M_read (nI t) (nI w) ν = some (v, ν') ∧ NX JR ν ν' ∧ match r.2 with
    | none => rd ν' 0 0 26 = 1 ∧ rd ν' 0 0 27 = nI (posK B z r.1)
    | some x => rd ν' 0 0 26 = 0 ∧ ∀ st, exc (nmM ν) (pick3 w x) st = v :: st := by
  obtain ⟨ht, hz, h2, h3, h4⟩ := hB
  have hT : ∃ N, TokN (tkT B z) (tkV B z) N := by
    obtain ⟨μ, hμ⟩ : ∃ μ : Mem, TapeA B z μ := ⟨(fun f i j => if f = 11 then (B j) else if f = 10 ∧ j = 1 then nI z else 0, 0), by
      refine ⟨hz, ?_, ?_⟩
      · rfl
      · exact fun i hi => rfl⟩
    obtain ⟨m1, c1, c2, c3, n, c4, c5, c6, c7⟩ := Ta_cut_sp hμ
    exact ⟨n, cut_TokN c5 c6 c7 hz⟩
  obtain ⟨N, hT⟩ := hT
  obtain ⟨m0, em0⟩ : ∃ m, m = up (up (up (up (up ν 0 0 19 (nI (160 * t))) 0 0 20 (nI z)) 0 0 21 0) 0 0 25 0) 0 0 26 0 := ⟨_, rfl⟩
  have nx0 : NX JR ν m0 := by
    rw [em0]
    exact ((((NX.rf.wr' (by decide)).wr' (by decide)).wr' (by decide)).wr' (by decide)).wr' (by decide)
  have hX : TX B z t m0 := by
    refine ⟨ht, hz, ?_, ?_, fun i hi => ?_, h4⟩
    · rw [em0, rd_up_j (by decide), rd_up_j (by decide), rd_up_j (by decide), rd_up_j (by decide), rd_up_s]
    · rw [em0, rd_up_j (by decide), rd_up_j (by decide), rd_up_j (by decide), rd_up_s]
    · rw [nx0.rd (by decide)]; exact h3 i hi
  have h21 : rd m0 0 0 21 = nI 0 := by rw [em0, rd_up_j (by decide), rd_up_j (by decide), rd_up_s]; rfl
  obtain ⟨m1, s1, s2, s3⟩ := M_next_sp (B := B) (z := z) (t := t) (z - 0) 0 1000 rfl (by omega) (Nat.zero_le _) hX h21
  have s1 : M_next m0 = some m1 := s1
  have hS : MS B z t 0 0 m1 := by
    refine ⟨hX.nx s2 (by decide) (by decide), ?_, ?_, s3⟩
    · rw [s2.2 26 (by decide), em0, rd_up_s]
    · rw [s2.2 25 (by decide), em0, rd_up_j (by decide), rd_up_s]; rfl
  have nx1 : NX JR ν m1 := nx0.tr (s2.mono (by decide))
  have W0 := M_isWord_ms hS (v := 6) (by decide) (a := 104) (b := 101) (c := 97) (d := 116) (e := 115) (f := 0) (g := 0) (i := 0) (by decide)
  have start : M_read (nI t) (nI w) ν = (bnd2 (M_part (if tkT B z 0 = nI 6 then 1 else 0) m1) fun r12 μ13 => if (rd μ13 0 0 26) = 0 then ( bnd (M_isWord 99 97 108 109 115 0 0 0 μ13) fun r16 => bnd2 (M_part r16 μ13) fun r18 μ19 => M_read_92 (nI w) r12 r18 μ19) else ( M_read_92 (nI w) r12 0 μ13)) := by
    unfold M_read
    simp only [nm_eq]
    rw [chk_eq _ (inb_nI ht (by omega)), ix_nI (by omega), litI 160, nI_mul, rd_up_f (show (2 : Nat) ≠ 0 by decide), h2, ← em0, bnd_of s1, bnd_of W0]
  -- a fault stays a fault to the end
  have dead : ∀ (a b : Int32) (m : Mem) (k : Nat), MF B z k m → M_read_92 (nI w) a b m = some ((if nI w = 0 then a else if nI w = 1 then b else 0), m) := by
    intro a b m k h
    have hb : ¬ rd m 0 0 26 = 0 := by rw [h.1]; decide
    unfold M_read_92
    rw [if_neg hb]
    unfold M_read_126
    rw [if_neg hb, read146]
  have dead2 : ∀ (a b c : Int32) (m : Mem) (k : Nat), MF B z k m → M_read_126 (nI w) a b c m = some ((if nI w = 0 then a else if nI w = 1 then b else c), m) := by
    intro a b c m k h
    have hb : ¬ rd m 0 0 26 = 0 := by rw [h.1]; decide
    unfold M_read_126
    rw [if_neg hb, read146]
  rw [start]
  unfold gText
  obtain ⟨r0, v0, m2, e0, p0, n0, f0⟩ := M_part_sp hT hS hT.1 (p := 0) (by decide)
  have p0 : M_part (if tkT B z 0 = nI 6 then 1 else 0) m1 = some (v0, m2) := p0
  rw [e0, bnd2_of p0]
  have nx2 : NX JR ν m2 := nx1.tr (n0.mono (by decide))
  obtain ⟨r0', e0', a0, -⟩ := gPart_ok hT (p := 0) (k := 0) (by decide) hT.1
  rw [e0] at e0'; cases e0'
  match r0, a0, f0 with
  | (k0, none), a0, f0 =>
    have f0 : MF B z k0 m2 := f0
    rw [if_neg (by rw [f0.1]; decide), dead v0 0 m2 k0 f0]
    exact ⟨_, _, m2, rfl, rfl, nx2, f0⟩
  | (k0, some c0), a0, f0 =>
    obtain ⟨f0, x0⟩ : MS B z t k0 0 m2 ∧ ∀ st, exc (nmM m1) c0 st = v0 :: st := f0
    dsimp only at a0
    rw [if_pos f0.2.1, bnd_of (M_isWord_ms f0 (v := 7) (by decide) (a := 99) (b := 97) (c := 108) (d := 109) (e := 115) (f := 0) (g := 0) (i := 0) (by decide))]
    obtain ⟨r1, v1, m3, e1, p1, n1, f1⟩ := M_part_sp hT f0 a0 (p := 1) (by decide)
    have p1 : M_part (if tkT B z k0 = nI 7 then 1 else 0) m2 = some (v1, m3) := p1
    rw [bnd2_of p1]
    show ∃ r v ν', (sq2 (gPart (tkT B z) (tkV B z) 1 k0) fun k1 c1 => sq2 (gPart (tkT B z) (tkV B z) 2 k1) fun k2 c2 => if tkT B z k2 = 13 then some (k2, some (c0, c1, c2)) else some (k2, none)) = some r ∧ _
    rw [e1]
    have nx3 : NX JR ν m3 := nx2.tr (n1.mono (by decide))
    obtain ⟨r1', e1', a1, -⟩ := gPart_ok hT (p := 1) (k := k0) (by decide) a0
    rw [e1] at e1'; cases e1'
    match r1, a1, f1 with
    | (k1, none), a1, f1 =>
      have f1 : MF B z k1 m3 := f1
      rw [dead v0 v1 m3 k1 f1]
      exact ⟨_, _, m3, rfl, rfl, nx3, f1⟩
    | (k1, some c1), a1, f1 =>
      obtain ⟨f1, x1⟩ : MS B z t k1 0 m3 ∧ ∀ st, exc (nmM m2) c1 st = v1 :: st := f1
      dsimp only at a1
      unfold M_read_92
      rw [if_pos f1.2.1, bnd_of (M_isWord_ms f1 (v := 8) (by decide) (a := 102) (b := 101) (c := 101) (d := 108) (e := 115) (f := 0) (g := 0) (i := 0) (by decide))]
      obtain ⟨r2, v2, m4, e2, p2, n2, f2⟩ := M_part_sp hT f1 a1 (p := 2) (by decide)
      have p2 : M_part (if tkT B z k1 = nI 8 then 1 else 0) m3 = some (v2, m4) := p2
      rw [bnd2_of p2]
      show ∃ r v ν', (sq2 (gPart (tkT B z) (tkV B z) 2 k1) fun k2 c2 => if tkT B z k2 = 13 then some (k2, some (c0, c1, c2)) else some (k2, none)) = some r ∧ _
      rw [e2]
      have nx4 : NX JR ν m4 := nx3.tr (n2.mono (by decide))
      obtain ⟨r2', e2', a2, -⟩ := gPart_ok hT (p := 2) (k := k1) (by decide) a1
      rw [e2] at e2'; cases e2'
      match r2, a2, f2 with
      | (k2, none), a2, f2 =>
        have f2 : MF B z k2 m4 := f2
        rw [dead2 v0 v1 v2 m4 k2 f2]
        exact ⟨_, _, m4, rfl, rfl, nx4, f2⟩
      | (k2, some c2), a2, f2 =>
        obtain ⟨f2, x2⟩ : MS B z t k2 0 m4 ∧ ∀ st, exc (nmM m3) c2 st = v2 :: st := f2
        dsimp only at a2
        unfold M_read_126
        rw [if_pos f2.2.1]
        show ∃ r v ν', (if tkT B z k2 = 13 then some (k2, some (c0, c1, c2)) else some (k2, none)) = some r ∧ _
        by_cases h13 : tkT B z k2 = 13
        · have h22 : rd m4 0 0 22 = 0 := by
            rcases tok_sorts f2 with ⟨-, q⟩ | ⟨q, -⟩ | ⟨q, -⟩ | ⟨q, -⟩ | ⟨q, -⟩
            · exact q
            · exfalso
              rw [h13] at q
              rcases wordC_in B (posK B z k2) (sp isLe B z (posK B z k2)) with ⟨v, hv, e9⟩ | e9
              · rw [e9] at q
                exact nI_lit_ne (a := 13) (b := v) (by omega) (by omega) (by omega) q
              · rw [e9] at q
                exact absurd q (by decide)
            · rw [h13] at q; exact absurd q (by decide)
            · rw [h13] at q; exact absurd q (by decide)
            · rw [h13] at q; exact absurd q (by decide)
          rw [if_pos h13, if_pos h22, read146]
          refine ⟨_, _, m4, rfl, rfl, nx4, f2.2.1, fun st => ?_⟩
          have js : ∀ j ∈ JR, 19 ≤ j := by decide
          have y0 := x0 st
          have y1 := x1 st
          rw [exc_nx n0 js_ok] at y1
          have y2 := x2 st
          rw [exc_nx n1 js_ok, exc_nx n0 js_ok] at y2
          rw [exc_nx nx1 js] at y0 y1 y2
          clear start dead dead2 x0 x1 x2
          obtain rfl | rfl | rfl : w = 0 ∨ w = 1 ∨ w = 2 := by omega
          · exact y0
          · exact y1
          · exact y2
        · have h22 : ¬ rd m4 0 0 22 = 0 := by
            rcases tok_sorts f2 with ⟨q, -⟩ | ⟨-, -, -, q, -⟩ | ⟨-, q, -⟩ | ⟨-, q, -⟩ | ⟨-, q⟩
            · exact absurd q h13
            · rw [q]; decide
            · rw [q]; decide
            · rw [q]; decide
            · rw [q]; decide
          obtain ⟨g1, g2⟩ := M_fail_ms f2
          rw [if_neg h13, if_neg h22, nm_eq, read146]
          exact ⟨_, _, _, rfl, rfl, nx4.tr (g2.mono (by decide)), g1⟩
