/-! ===== the reference reads and reckons by the grammar ===== -/
def lessM (rc : Nat → Mem → Option (Int32 × Mem)) (ν : Mem) : Option (Int32 × Mem) := bnd2 (rc 3 ν) fun r5 μ6 => nm (M_isSign 60 μ6) fun r8 => if r8 = 0 then (nm (M_isSign 61 μ6) fun r11 => if r11 = 0 then some (r5, μ6) else M_not_77 rc r5 μ6) else M_not_77 rc r5 μ6
def clM (F L : Nat) (x : Int32) (w : Nat) (ν : Mem) : Option (Int32 × Mem) := match w with
  | 0 => M_rec F 0 ν
  | 1 => M_rec F 1 ν
  | 2 => M_rec F 2 ν
  | 3 => lessM (M_rec F) ν
  | 4 => M_rec F 3 ν
  | 5 => M_rec F 4 ν
  | 6 => M_rec F 5 ν
  | 7 => M_either_5L (M_rec F) L x ν
  | 8 => M_both_5L (M_rec F) L x ν
  | 9 => M_added_5L (M_rec F) L x ν
  | 10 => M_term_5L (M_rec F) L x ν
  | _ => none
def rkM (w o : Nat) : Nat := match w with
  | 0 => 6 * (5 - o) + 5
  | 1 => 6 * (5 - o) + 4
  | 2 => 6 * (5 - o) + 3
  | 3 => 6 * (5 - o) + 2
  | 4 => 6 * (5 - o) + 2
  | 5 => 6 * (5 - o) + 1
  | 6 => 6 * (5 - o)
  | 7 => 6 * (5 - o) + 4
  | 8 => 6 * (5 - o) + 3
  | 9 => 6 * (5 - o) + 1
  | _ => 6 * (5 - o)
/-- the names as the reference was told -/
def nmM (ν : Mem) : Nat → Int32 := fun i => rd ν 0 0 (13 + i)
def MP (B : Nat → Int32) (z t o : Nat) (ν : Mem) (pre : List Int32) (r : Nat × Option (List Int32)) (v : Int32) (ν' : Mem) : Prop := NX [21, 22, 23, 25, 26, 27] ν ν' ∧ match r.2 with
  | none => MF B z r.1 ν'
  | some cs => MS B z t r.1 o ν' ∧ ∀ st, exc (nmM ν) cs (pre ++ st) = v :: st
def preM (w : Nat) (x : Int32) : List Int32 := if w < 7 then [] else [x]
/-- codes name the first six names alone -/
theorem nmM_same {js : List Nat} {ν ν' : Mem} (h : NX js ν ν') (hj : ∀ j ∈ js, 19 ≤ j) : ∀ i, i < 6 → nmM ν' i = nmM ν i := fun i hi => h.2 (13 + i) (fun q => by have := hj _ q; omega)
/-- what a name says -/
theorem M_name_sp {B : Nat → Int32} {z t k o : Nat} {ν : Mem} (h : MS B z t k o ν) : (∃ v, v < 6 ∧ tkT B z k = nI v ∧ M_name ν = some (rd ν 0 0 (13 + v), ν)) ∨ ((∀ v, v < 6 → tkT B z k ≠ nI v) ∧ M_name ν = some (0, M_fail ν)) := by
  have W0 := M_isWord_ms h (v := 0) (by decide) (a := 116) (b := 104) (c := 105) (d := 110) (e := 103) (f := 0) (g := 0) (i := 0) (by decide)
  have W1 := M_isWord_ms h (v := 1) (by decide) (a := 116) (b := 101) (c := 109) (d := 112) (e := 101) (f := 114) (g := 0) (i := 0) (by decide)
  have W2 := M_isWord_ms h (v := 2) (by decide) (a := 110) (b := 117) (c := 109) (d := 98) (e := 101) (f := 114) (g := 0) (i := 0) (by decide)
  have W3 := M_isWord_ms h (v := 3) (by decide) (a := 100) (b := 97) (c := 121) (d := 0) (e := 0) (f := 0) (g := 0) (i := 0) (by decide)
  have W4 := M_isWord_ms h (v := 4) (by decide) (a := 99) (b := 111) (c := 97) (d := 116) (e := 0) (f := 0) (g := 0) (i := 0) (by decide)
  have W5 := M_isWord_ms h (v := 5) (by decide) (a := 111) (b := 119) (c := 110) (d := 0) (e := 0) (f := 0) (g := 0) (i := 0) (by decide)
  unfold M_name
  rw [bnd_of W0]
  by_cases e0 : tkT B z k = nI 0
  · rw [if_pos e0, if_neg (by decide)]; exact Or.inl ⟨0, by decide, e0, rfl⟩
  · rw [if_neg e0, if_pos rfl, bnd_of W1]
    by_cases e1 : tkT B z k = nI 1
    · rw [if_pos e1, if_neg (by decide)]; exact Or.inl ⟨1, by decide, e1, rfl⟩
    · rw [if_neg e1, if_pos rfl, bnd_of W2]
      by_cases e2 : tkT B z k = nI 2
      · rw [if_pos e2, if_neg (by decide)]; exact Or.inl ⟨2, by decide, e2, rfl⟩
      · rw [if_neg e2, if_pos rfl, bnd_of W3]
        by_cases e3 : tkT B z k = nI 3
        · rw [if_pos e3, if_neg (by decide)]; exact Or.inl ⟨3, by decide, e3, rfl⟩
        · rw [if_neg e3, if_pos rfl, bnd_of W4]
          by_cases e4 : tkT B z k = nI 4
          · rw [if_pos e4, if_neg (by decide)]; exact Or.inl ⟨4, by decide, e4, rfl⟩
          · rw [if_neg e4, if_pos rfl, bnd_of W5]
            by_cases e5 : tkT B z k = nI 5
            · rw [if_pos e5, if_neg (by decide)]; exact Or.inl ⟨5, by decide, e5, rfl⟩
            · rw [if_neg e5, if_pos rfl]
              refine Or.inr ⟨fun v hv => ?_, rfl⟩
              match v, hv with
              | 0, _ => exact e0
              | 1, _ => exact e1
              | 2, _ => exact e2
              | 3, _ => exact e3
              | 4, _ => exact e4
              | 5, _ => exact e5
/-- after a fault the loops stop at once -/
theorem loops_mf {B : Nat → Int32} {z k : Nat} {ν : Mem} (h : MF B z k ν) (F L : Nat) (x : Int32) {w : Nat} (hw : 7 ≤ w) (hw2 : w ≤ 10) : clM F (L + 1) x w ν = some (x, ν) := by
  have hb : rd ν 0 0 26 ≠ 0 := by rw [h.1]; decide
  match w, hw, hw2 with
  | 7, _, _ =>
    show M_either_5 _ _ _ _ = _
    unfold M_either_5
    rw [bnd_of (M_isWord_no (Or.inl hb) _ _ _ _ _ _ _ _), if_pos rfl]
  | 8, _, _ =>
    show M_both_5 _ _ _ _ = _
    unfold M_both_5
    rw [bnd_of (M_isWord_no (Or.inl hb) _ _ _ _ _ _ _ _), if_pos rfl]
  | 9, _, _ =>
    show M_added_5 _ _ _ _ = _
    unfold M_added_5
    rw [M_isSign_no hb, nm_eq, if_pos rfl, M_isSign_no hb, nm_eq, if_pos rfl]
  | 10, _, _ =>
    show M_term_5 _ _ _ _ = _
    unfold M_term_5
    rw [M_isSign_no hb, nm_eq, if_pos rfl]
theorem exc_cong {f g : Nat → Int32} : ∀ (cs st : List Int32), (∀ c ∈ cs, ¬ c < -6 → c < 0 → f (ix ((-1) - c)) = g (ix ((-1) - c))) → exc f cs st = exc g cs st
  | [], _, _ => rfl
  | c :: cs, st, h => by
    show exc f cs (stp f c st) = exc g cs (stp g c st)
    have e : stp f c st = stp g c st := by
      unfold stp
      by_cases h1 : c < -6
      · rw [if_pos h1, if_pos h1]
      · rw [if_neg h1, if_neg h1]
        by_cases h2 : c < 0
        · rw [if_pos h2, if_pos h2, h c List.mem_cons_self h1 h2]
        · rw [if_neg h2, if_neg h2]
    rw [e]
    exact exc_cong cs _ (fun x hx => h x (List.mem_cons_of_mem _ hx))
theorem ix_name {c : Int32} (h1 : ¬ c < -6) (h2 : c < 0) : ix ((-1) - c) < 6 := by
  have a1 : ¬ c.toInt < -6 := fun q => h1 (Int32.lt_iff_toInt_lt.mpr (by rw [show (-6 : Int32).toInt = -6 from by decide]; exact q))
  have a2 := toI_neg h2
  have key : ∀ v : Nat, v < 6 → ix ((-1) - Int32.ofInt (-1 - (v : Int))) < 6 := by decide +kernel
  obtain ⟨v, hv, ev⟩ : ∃ v : Nat, v < 6 ∧ c.toInt = -1 - (v : Int) := ⟨(-1 - c.toInt).toNat, by omega, by omega⟩
  have e : c = Int32.ofInt (-1 - (v : Int)) := by rw [← ev, Int32.ofInt_toInt]
  rw [e]
  exact key v hv
theorem exc_nx {js : List Nat} {ν ν' : Mem} (h : NX js ν ν') (hj : ∀ j ∈ js, 19 ≤ j) (cs st : List Int32) : exc (nmM ν') cs st = exc (nmM ν) cs st := exc_cong cs st (fun c _ h1 h2 => nmM_same h hj _ (ix_name h1 h2))
theorem js_ok : ∀ j ∈ ([21, 22, 23, 25, 26, 27] : List Nat), 19 ≤ j := by decide
set_option maxHeartbeats 2000000 in
theorem M_sp {B : Nat → Int32} {z t N : Nat} (hT : TokN (tkT B z) (tkV B z) N) : ∀ (n w o k F L : Nat) (x : Int32) (r : Nat × Option (List Int32)) (ν : Mem), k < N → o ≤ 5 → w ≤ 10 → gr (tkT B z) (tkV B z) n w o k = some r → MS B z t k o ν → rkM w o < F → N - k < L → ∃ v ν', clM F L x w ν = some (v, ν') ∧ MP B z t o ν (preM w x) r v ν' := by
  have hN : N ≤ 161 := hT.2.1
  intro n
  induction n with
  | zero => intro w o k F L x r ν h1 h2 h3 h; cases h
  | succ n ih =>
    intro w o k F L x r ν hk ho hw h hS hF hL
    have good : ∀ {c : Int32}, tkT B z k = c → c ≠ 13 → c ≠ 14 → goodT B z k := fun e h1 h2 => ⟨by rw [e]; exact h1, by rw [e]; exact h2⟩
    have nxt : ∀ {c : Int32}, tkT B z k = c → c ≠ 13 → c ≠ 14 → k + 1 < N := fun e h1 h2 => hT.lt hk (by rw [e]; exact h1) (by rw [e]; exact h2)
    have two : ∀ {a b : Nat} (M : Option (Int32 × Mem)), a < 7 → 7 ≤ b → b ≤ 10 → w < 7 → rkM a o < F - 1 → rkM b o < F - 1 →
        M = (bnd2 (clM (F - 1) 1000 0 a ν) fun r2 μ3 => clM (F - 1) 1000 r2 b μ3) →
        (sq (gr (tkT B z) (tkV B z) n a o k) fun k1 c1 => sq (gr (tkT B z) (tkV B z) n b o k1) fun k2 c2 => some (k2, some (c1 ++ c2))) = some r → ∃ v ν', M = some (v, ν') ∧ MP B z t o ν (preM w x) r v ν' := by
      intro a b M ha hb hb2 hw7 hra hrb hM h
      have pw : preM w x = [] := if_pos hw7
      have pa : ∀ y, preM a y = [] := fun y => if_pos ha
      have pb : ∀ y, preM b y = [y] := fun y => if_neg (by omega)
      rw [hM, pw]
      rcases sq_some h with ⟨k1, e1, rfl⟩ | ⟨k1, c1, e1, h⟩
      · obtain ⟨v1, m1, q1, q2, q3⟩ := ih a o k (F - 1) 1000 0 _ ν hk ho (by omega) e1 hS hra (by omega)
        refine ⟨v1, m1, ?_, q2, q3⟩
        rw [bnd2_of q1]
        exact loops_mf q3 (F - 1) 999 v1 hb hb2
      · obtain ⟨g1, g2, g3⟩ := grm_ok hT n a o k _ hk e1
        dsimp only at g1 g2
        obtain ⟨v1, m1, q1, q2, q3, q4⟩ := ih a o k (F - 1) 1000 0 _ ν hk ho (by omega) e1 hS hra (by omega)
        rw [bnd2_of q1]
        rw [pa] at q4
        rcases sq_some h with ⟨k2, e2, rfl⟩ | ⟨k2, c2, e2, h⟩
        · obtain ⟨v2, m2, p1, p2, p3⟩ := ih b o k1 (F - 1) 1000 v1 _ m1 g1 ho hb2 e2 q3 hrb (by omega)
          exact ⟨v2, m2, p1, q2.tr p2, p3⟩
        · obtain ⟨v2, m2, p1, p2, p3, p4⟩ := ih b o k1 (F - 1) 1000 v1 _ m1 g1 ho hb2 e2 q3 hrb (by omega)
          cases h
          rw [pb] at p4
          refine ⟨v2, m2, p1, q2.tr p2, p3, fun st => ?_⟩
          rw [exc_app, q4 st, ← exc_nx q2 js_ok]
          exact p4 st
    have round : ∀ {a : Nat} {c : Int32} (J : Int32 → Int32) (M : Option (Int32 × Mem)), a < 7 → 7 ≤ w → isJ c → (∀ v, Te_joined (-c) x v = J v) → rkM a o < F → 1 < L → k + 1 < N → goodT B z k →
        M = (bnd (M_next ν) fun μ5 => bnd2 (clM F 1000 0 a μ5) fun r7 μ8 => clM F (L - 1) (J r7) w μ8) →
        (sq (gr (tkT B z) (tkV B z) n a o (k + 1)) fun k1 c1 => sq (gr (tkT B z) (tkV B z) n w o k1) fun k2 c2 => some (k2, some (c1 ++ ([c] ++ c2)))) = some r → ∃ v ν', M = some (v, ν') ∧ MP B z t o ν (preM w x) r v ν' := by
      intro a c J M ha hw7 hc hJ hra hL0 hk1 hg hM h
      have pw : ∀ y, preM w y = [y] := fun y => if_neg (by omega)
      have pa : ∀ y, preM a y = [] := fun y => if_pos ha
      rw [hM, pw]
      obtain ⟨m0, p0, hS0, k0⟩ := M_next_ms hS hg
      have k0' : NX [21, 22, 23, 25, 26, 27] ν m0 := k0.mono (by decide)
      rw [bnd_of p0]
      rcases sq_some h with ⟨k1, e1, rfl⟩ | ⟨k1, c1, e1, h⟩
      · obtain ⟨v1, m1, q1, q2, q3⟩ := ih a o (k + 1) F 1000 0 _ m0 hk1 ho (by omega) e1 hS0 hra (by omega)
        refine ⟨J v1, m1, ?_, k0'.tr q2, q3⟩
        rw [bnd2_of q1]
        have := loops_mf q3 F (L - 2) (J v1) hw7 hw
        rwa [show L - 2 + 1 = L - 1 by omega] at this
      · obtain ⟨g1, g2, g3⟩ := grm_ok hT n a o (k + 1) _ hk1 e1
        dsimp only at g1 g2
        obtain ⟨v1, m1, q1, q2, q3, q4⟩ := ih a o (k + 1) F 1000 0 _ m0 hk1 ho (by omega) e1 hS0 hra (by omega)
        rw [bnd2_of q1]
        rw [pa] at q4
        have q4' : ∀ st, exc (nmM ν) c1 st = v1 :: st := fun st => by rw [← exc_nx k0' js_ok]; exact q4 st
        rcases sq_some h with ⟨k2, e2, rfl⟩ | ⟨k2, c2, e2, h⟩
        · obtain ⟨v2, m2, p1, p2, p3⟩ := ih w o k1 F (L - 1) (J v1) _ m1 g1 ho hw e2 q3 hF (by omega)
          exact ⟨v2, m2, p1, (k0'.tr q2).tr p2, p3⟩
        · obtain ⟨v2, m2, p1, p2, p3, p4⟩ := ih w o k1 F (L - 1) (J v1) _ m1 g1 ho hw e2 q3 hF (by omega)
          cases h
          rw [pw] at p4
          refine ⟨v2, m2, p1, (k0'.tr q2).tr p2, p3, fun st => ?_⟩
          rw [exc_app, q4' ([x] ++ st)]
          show exc (nmM ν) c2 (stp (nmM ν) c (v1 :: x :: st)) = _
          rw [stp_J hc, hJ, ← exc_nx (k0'.tr q2) js_ok]
          exact p4 st
    have stay : 7 ≤ w → r = (k, some []) → MP B z t o ν (preM w x) r x ν := fun hw7 e => by
      subst e
      have pw : preM w x = [x] := if_neg (by omega)
      rw [pw]
      exact ⟨NX.rf, hS, fun st => rfl⟩
    match w, hw, h, hF, @two, @round, stay with
    | 0, hw, h, hF, two, round, stay =>
      obtain ⟨F, rfl⟩ : ∃ F', F = F' + 1 := ⟨F - 1, by omega⟩
      have e : rkM 0 o = 6 * (5 - o) + 5 := rfl
      exact two (a := 1) (b := 7) _ (by decide) (by decide) (by decide) (by decide) (by have : rkM 1 o = 6 * (5 - o) + 4 := rfl; omega) (by have : rkM 7 o = 6 * (5 - o) + 4 := rfl; omega) rfl h
    | 1, hw, h, hF, two, round, stay =>
      obtain ⟨F, rfl⟩ : ∃ F', F = F' + 1 := ⟨F - 1, by omega⟩
      have e : rkM 1 o = 6 * (5 - o) + 4 := rfl
      exact two (a := 2) (b := 8) _ (by decide) (by decide) (by decide) (by decide) (by have : rkM 2 o = 6 * (5 - o) + 3 := rfl; omega) (by have : rkM 8 o = 6 * (5 - o) + 3 := rfl; omega) rfl h
    | 4, hw, h, hF, two, round, stay =>
      obtain ⟨F, rfl⟩ : ∃ F', F = F' + 1 := ⟨F - 1, by omega⟩
      have e : rkM 4 o = 6 * (5 - o) + 2 := rfl
      exact two (a := 5) (b := 9) _ (by decide) (by decide) (by decide) (by decide) (by have : rkM 5 o = 6 * (5 - o) + 1 := rfl; omega) (by have : rkM 9 o = 6 * (5 - o) + 1 := rfl; omega) rfl h
    | 5, hw, h, hF, two, round, stay =>
      obtain ⟨F, rfl⟩ : ∃ F', F = F' + 1 := ⟨F - 1, by omega⟩
      have e : rkM 5 o = 6 * (5 - o) + 1 := rfl
      exact two (a := 6) (b := 10) _ (by decide) (by decide) (by decide) (by decide) (by have : rkM 6 o = 6 * (5 - o) := rfl; omega) (by have : rkM 10 o = 6 * (5 - o) := rfl; omega) rfl h
    | 2, hw, h, hF, two, round, stay =>
      obtain ⟨F, rfl⟩ : ∃ F', F = F' + 1 := ⟨F - 1, by omega⟩
      have e : rkM 2 o = 6 * (5 - o) + 3 := rfl
      replace h : (if tkT B z k = 11 then (if o < 5 then sq (gr (tkT B z) (tkV B z) n 2 (o + 1) (k + 1)) fun k1 c1 => some (k1, some (c1 ++ [-11])) else some (k, none)) else gr (tkT B z) (tkV B z) n 3 o k) = some r := h
      show ∃ v ν', M_not (M_rec F) ν = some (v, ν') ∧ MP B z t o ν [] r v ν'
      unfold M_not
      rw [bnd_of (M_isWord_ms hS (v := 11) (by decide) (by decide))]
      by_cases h1 : tkT B z k = 11
      · rw [if_pos h1] at h
        rw [if_pos (show tkT B z k = nI 11 from h1), if_neg (by decide)]
        rcases M_opens_ms hS (good h1 (by decide) (by decide)) ho with ⟨o5, m0, p0, hF0, k0⟩ | ⟨o5, m0, p0, hS0, k0⟩
        · rw [if_neg (by omega)] at h
          cases h
          rw [bnd2_of p0, if_pos rfl]
          exact ⟨0, m0, rfl, k0.mono (by decide), hF0⟩
        · rw [if_pos o5] at h
          have hk1 := nxt h1 (by decide) (by decide)
          have k0' : NX [21, 22, 23, 25, 26, 27] ν m0 := k0.mono (by decide)
          rw [bnd2_of p0, if_neg (by decide)]
          have er : rkM 2 (o + 1) = 6 * (5 - (o + 1)) + 3 := rfl
          rcases sq_some h with ⟨k1, e1, rfl⟩ | ⟨k1, c1, e1, h⟩
          · obtain ⟨v1, m1, q1, q2, q3⟩ := ih 2 (o + 1) (k + 1) F 1000 0 _ m0 hk1 (by omega) (by decide) e1 hS0 (by omega) (by omega)
            have q1 : M_rec F 2 m0 = some (v1, m1) := q1
            rw [bnd2_of q1]
            simp only [nm_eq]
            have hf : ∀ y, MF B z k1 (up m1 0 0 25 y) := fun y => ⟨by rw [rd_up_j (by decide)]; exact q3.1, by rw [rd_up_j (by decide)]; exact q3.2⟩
            split
            · exact ⟨_, _, rfl, (k0'.tr q2).wr' (by decide), hf _⟩
            · exact ⟨_, _, rfl, (k0'.tr q2).wr' (by decide), hf _⟩
          · obtain ⟨v1, m1, q1, q2, q3, q4⟩ := ih 2 (o + 1) (k + 1) F 1000 0 _ m0 hk1 (by omega) (by decide) e1 hS0 (by omega) (by omega)
            have q1 : M_rec F 2 m0 = some (v1, m1) := q1
            have q4' : ∀ st, exc (nmM ν) c1 st = v1 :: st := fun st => by rw [← exc_nx k0' js_ok]; exact q4 st
            cases h
            rw [bnd2_of q1]
            simp only [nm_eq]
            have n9 : NX [25] m1 (up m1 0 0 25 (rd m1 0 0 25 - 1)) := NX.wr (by decide)
            have hs : MS B z t k1 o (up m1 0 0 25 (rd m1 0 0 25 - 1)) := by
              refine ⟨q3.1.nx n9 (by decide) (by decide), by rw [n9.2 26 (by decide)]; exact q3.2.1, ?_, ?_⟩
              · rw [rd_up_s, q3.2.2.1, litI 1, nI_sub' (by omega), show o + 1 - 1 = o by omega]
              · unfold TokM
                rw [n9.2 23 (by decide), n9.2 22 (by decide), n9.2 21 (by decide), rdL_up]
                exact q3.2.2.2
            have hv : ∀ st, exc (nmM ν) (c1 ++ [-11]) ([] ++ st) = (if v1 = 0 then 1 else 0) :: st := fun st => by
              rw [exc_app, List.nil_append, q4' st]
              rfl
            by_cases hv0 : v1 = 0
            · rw [if_pos hv0] at hv ⊢
              exact ⟨1, _, rfl, (k0'.tr q2).wr' (by decide), hs, hv⟩
            · rw [if_neg hv0]
              simp only [if_neg hv0] at hv
              exact ⟨0, _, rfl, (k0'.tr q2).wr' (by decide), hs, hv⟩
      · rw [if_neg h1] at h
        rw [if_neg (show ¬ tkT B z k = nI 11 from h1), if_pos rfl]
        exact ih 3 o k F L x r ν hk ho (by decide) h hS (by have : rkM 3 o = 6 * (5 - o) + 2 := rfl; omega) hL
    | 3, hw, h, hF, two, round, stay =>
      have e : rkM 3 o = 6 * (5 - o) + 2 := rfl
      have e4 : rkM 4 o = 6 * (5 - o) + 2 := rfl
      show ∃ v ν', lessM (M_rec F) ν = some (v, ν') ∧ MP B z t o ν [] r v ν'
      unfold lessM
      rcases sq_some h with ⟨k1, e1, rfl⟩ | ⟨k1, c1, e1, h⟩
      · obtain ⟨v1, m1, q1, q2, q3⟩ := ih 4 o k F 1000 0 _ ν hk ho (by decide) e1 hS (by omega) (by omega)
        have q1 : M_rec F 3 ν = some (v1, m1) := q1
        have hb : rd m1 0 0 26 ≠ 0 := by rw [q3.1]; decide
        rw [bnd2_of q1, M_isSign_no hb, nm_eq, if_pos rfl, M_isSign_no hb, nm_eq, if_pos rfl]
        exact ⟨v1, m1, rfl, q2, q3⟩
      · obtain ⟨g1, g2, g3⟩ := grm_ok hT n 4 o k _ hk e1
        dsimp only at g1 g2
        obtain ⟨v1, m1, q1, q2, q3, q4⟩ := ih 4 o k F 1000 0 _ ν hk ho (by decide) e1 hS (by omega) (by omega)
        have q1 : M_rec F 3 ν = some (v1, m1) := q1
        have q4 : ∀ st, exc (nmM ν) c1 st = v1 :: st := q4
        rw [bnd2_of q1, M_isSign_sp q3 (c := 60) (by decide), nm_eq]
        have tail : (tkT B z k1 = 60 ∨ tkT B z k1 = 61) → ∃ v ν', M_not_77 (M_rec F) v1 m1 = some (v, ν') ∧ MP B z t o ν [] r v ν' := by
          intro h1
          rw [if_pos h1] at h
          have hk1 : k1 + 1 < N := hT.lt g1 (by rcases h1 with q | q <;> rw [q] <;> decide) (by rcases h1 with q | q <;> rw [q] <;> decide)
          have hg1 : goodT B z k1 := ⟨by rcases h1 with q | q <;> rw [q] <;> decide, by rcases h1 with q | q <;> rw [q] <;> decide⟩
          have hw1 : rdL m1 = (tkT B z k1).toInt64 := by
            rcases tok_sorts q3 with ⟨x1, x2⟩ | ⟨x1, -⟩ | ⟨x1, x2⟩ | ⟨x1, x2, x3, x4⟩ | ⟨x1, x2⟩
            · exact absurd x1 hg1.1
            · rcases h1 with q | q
              · exact absurd (x1.symm.trans q) (wordC_nsg B _ _ (by decide))
              · exact absurd (x1.symm.trans q) (wordC_nsg B _ _ (by decide))
            · rcases h1 with q | q <;> rw [q] at x1 <;> exact absurd x1 (by decide)
            · exact x4
            · exact absurd x1 hg1.2
          obtain ⟨m0, p0, hS0, k0⟩ := M_next_ms q3 hg1
          have k0' : NX [21, 22, 23, 25, 26, 27] ν m0 := q2.tr (k0.mono (by decide))
          have both : ∀ (y : Int32) (cmp : Int32 → Int32), (∀ (v2 : Int32) (m2 : Mem), (if y = 0 then (if v1 = v2 then some ((1 : Int32), m2) else some (0, m2)) else (if v1 < v2 then some (1, m2) else some (0, m2))) = some (cmp v2, m2)) → (∀ v2, Te_joined (tkT B z k1) v1 v2 = cmp v2) → ∃ v ν', M_not_93 (M_rec F) v1 y m1 = some (v, ν') ∧ MP B z t o ν [] r v ν' := by
            intro y cmp hy hJ
            unfold M_not_93
            rw [bnd_of p0]
            rcases sq_some h with ⟨k2, e2, rfl⟩ | ⟨k2, c2, e2, h⟩
            · obtain ⟨v2, m2, p1, p2, p3⟩ := ih 4 o (k1 + 1) F 1000 0 _ m0 hk1 ho (by decide) e2 hS0 (by omega) (by omega)
              have p1 : M_rec F 3 m0 = some (v2, m2) := p1
              rw [bnd2_of p1, hy v2 m2]
              exact ⟨_, m2, rfl, k0'.tr p2, p3⟩
            · obtain ⟨v2, m2, p1, p2, p3, p4⟩ := ih 4 o (k1 + 1) F 1000 0 _ m0 hk1 ho (by decide) e2 hS0 (by omega) (by omega)
              have p1 : M_rec F 3 m0 = some (v2, m2) := p1
              have p4' : ∀ st, exc (nmM ν) c2 st = v2 :: st := fun st => by rw [← exc_nx k0' js_ok]; exact p4 st
              cases h
              rw [bnd2_of p1, hy v2 m2]
              refine ⟨_, m2, rfl, k0'.tr p2, p3, fun st => ?_⟩
              rw [exc_app, List.nil_append, q4 st, exc_app, p4' (v1 :: st)]
              show stp (nmM ν) (-(tkT B z k1)) (v2 :: v1 :: st) = _
              rw [stp_J (isJ_s (by rcases h1 with q | q <;> simp [q])), Int32.neg_neg, hJ]
          unfold M_not_77
          rw [hw1, show (60 : Int64) = (60 : Int32).toInt64 from rfl]
          simp only [lg_cmp0, i64_inj]
          by_cases h60 : tkT B z k1 = 60
          · rw [if_pos h60]
            refine both 1 (fun v2 => if v1 < v2 then 1 else 0) (fun v2 m2 => ?_) (fun v2 => by rw [h60]; rfl)
            rw [if_neg (by decide)]
            split <;> rfl
          · rw [if_neg h60]
            have h61 := h1.resolve_left h60
            refine both 0 (fun v2 => if v1 = v2 then 1 else 0) (fun v2 m2 => ?_) (fun v2 => by rw [h61]; rfl)
            rw [if_pos rfl]
            split <;> rfl
        by_cases h60 : tkT B z k1 = 60
        · rw [if_pos h60, if_neg (by decide)]
          exact tail (Or.inl h60)
        · rw [if_neg h60, if_pos rfl, M_isSign_sp q3 (c := 61) (by decide), nm_eq]
          by_cases h61 : tkT B z k1 = 61
          · rw [if_pos h61, if_neg (by decide)]
            exact tail (Or.inr h61)
          · rw [if_neg h61, if_pos rfl]
            rw [if_neg (fun q => q.elim h60 h61)] at h
            cases h
            exact ⟨v1, m1, rfl, q2, q3, q4⟩
    | 6, hw, h, hF, two, round, stay =>
      obtain ⟨F, rfl⟩ : ∃ F', F = F' + 1 := ⟨F - 1, by omega⟩
      have e : rkM 6 o = 6 * (5 - o) := rfl
      replace h : (if tkT B z k = 12 then some (k + 1, some [nI (tkV B z k)])
        else if tkT B z k < 6 then some (k + 1, some [(-1) - tkT B z k])
        else if tkT B z k = 45 then (if o < 5 then sq (gr (tkT B z) (tkV B z) n 6 (o + 1) (k + 1)) fun k1 c1 => some (k1, some (c1 ++ [-100])) else some (k, none))
        else if tkT B z k = 40 then (if o < 5 then sq (gr (tkT B z) (tkV B z) n 0 (o + 1) (k + 1)) fun k1 c1 => (if tkT B z k1 = 41 then some (k1 + 1, some c1) else some (k1, none)) else some (k, none))
        else some (k, none)) = some r := h
      show ∃ v ν', M_atom (M_rec F) ν = some (v, ν') ∧ MP B z t o ν [] r v ν'
      unfold M_atom
      rw [M_isSign_sp hS (c := 45) (by decide), nm_eq, M_isSign_sp hS (c := 40) (by decide), nm_eq]
      by_cases h45 : tkT B z k = 45
      · rw [if_pos h45, if_neg (by decide)]
        rw [if_neg (by rw [h45]; decide), if_neg (by rw [h45]; decide), if_pos h45] at h
        rcases M_opens_ms hS (good h45 (by decide) (by decide)) ho with ⟨o5, m0, p0, hF0, k0⟩ | ⟨o5, m0, p0, hS0, k0⟩
        · rw [if_neg (by omega)] at h
          cases h
          rw [bnd2_of p0, if_pos rfl]
          exact ⟨0, m0, rfl, k0.mono (by decide), hF0⟩
        · rw [if_pos o5] at h
          have hk1 := nxt h45 (by decide) (by decide)
          have k0' : NX [21, 22, 23, 25, 26, 27] ν m0 := k0.mono (by decide)
          rw [bnd2_of p0, if_neg (by decide)]
          have er : rkM 6 (o + 1) = 6 * (5 - (o + 1)) := rfl
          rcases sq_some h with ⟨k1, e1, rfl⟩ | ⟨k1, c1, e1, h⟩
          · obtain ⟨v1, m1, q1, q2, q3⟩ := ih 6 (o + 1) (k + 1) F 1000 0 _ m0 hk1 (by omega) (by decide) e1 hS0 (by omega) (by omega)
            have q1 : M_rec F 5 m0 = some (v1, m1) := q1
            rw [bnd2_of q1]
            exact ⟨_, _, rfl, (k0'.tr q2).wr' (by decide), by rw [rd_up_j (by decide)]; exact q3.1, by rw [rd_up_j (by decide)]; exact q3.2⟩
          · obtain ⟨v1, m1, q1, q2, q3, q4⟩ := ih 6 (o + 1) (k + 1) F 1000 0 _ m0 hk1 (by omega) (by decide) e1 hS0 (by omega) (by omega)
            have q1 : M_rec F 5 m0 = some (v1, m1) := q1
            have q4' : ∀ st, exc (nmM ν) c1 st = v1 :: st := fun st => by rw [← exc_nx k0' js_ok]; exact q4 st
            cases h
            rw [bnd2_of q1]
            have n9 : NX [25] m1 (up m1 0 0 25 (rd m1 0 0 25 - 1)) := NX.wr (by decide)
            refine ⟨-v1, up m1 0 0 25 (rd m1 0 0 25 - 1), rfl, (k0'.tr q2).wr' (by decide), ⟨q3.1.nx n9 (by decide) (by decide), by rw [n9.2 26 (by decide)]; exact q3.2.1, ?_, ?_⟩, fun st => ?_⟩
            · rw [rd_up_s, q3.2.2.1, litI 1, nI_sub' (by omega), show o + 1 - 1 = o by omega]
            · unfold TokM
              rw [n9.2 23 (by decide), n9.2 22 (by decide), n9.2 21 (by decide), rdL_up]
              exact q3.2.2.2
            · rw [exc_app, List.nil_append, q4' st]
              rfl
      · rw [if_neg h45, if_pos rfl]
        by_cases h40 : tkT B z k = 40
        · rw [if_pos h40, if_neg (by decide)]
          rw [if_neg (by rw [h40]; decide), if_neg (by rw [h40]; decide), if_neg h45, if_pos h40] at h
          rcases M_opens_ms hS (good h40 (by decide) (by decide)) ho with ⟨o5, m0, p0, hF0, k0⟩ | ⟨o5, m0, p0, hS0, k0⟩
          · rw [if_neg (by omega)] at h
            cases h
            rw [bnd2_of p0, if_pos rfl]
            exact ⟨0, m0, rfl, k0.mono (by decide), hF0⟩
          · rw [if_pos o5] at h
            have hk1 := nxt h40 (by decide) (by decide)
            have k0' : NX [21, 22, 23, 25, 26, 27] ν m0 := k0.mono (by decide)
            rw [bnd2_of p0, if_neg (by decide)]
            have er : rkM 0 (o + 1) = 6 * (5 - (o + 1)) + 5 := rfl
            -- the end with a fault
            have endF : ∀ (k1 : Nat) (v1 : Int32) (m : Mem), MF B z k1 m → NX [21, 22, 23, 25, 26, 27] ν m → ∃ v ν', M_atom_71 (M_rec F) v1 m = some (v, ν') ∧ MP B z t o ν [] (k1, none) v ν' := by
              intro k1 v1 m hm hn
              unfold M_atom_71
              rw [nm_eq, rd_up_j (by decide), if_neg (by rw [hm.1]; decide)]
              exact ⟨v1, _, rfl, hn.wr' (by decide), by rw [rd_up_j (by decide)]; exact hm.1, by rw [rd_up_j (by decide)]; exact hm.2⟩
            rcases sq_some h with ⟨k1, e1, rfl⟩ | ⟨k1, c1, e1, h⟩
            · obtain ⟨v1, m1, q1, q2, q3⟩ := ih 0 (o + 1) (k + 1) F 1000 0 _ m0 hk1 (by omega) (by decide) e1 hS0 (by omega) (by omega)
              have q1 : M_rec F 0 m0 = some (v1, m1) := q1
              rw [bnd2_of q1, M_isSign_no (by rw [q3.1]; decide), nm_eq, if_pos rfl, nm_eq, M_fail_mf q3]
              exact endF k1 v1 m1 q3 (k0'.tr q2)
            · obtain ⟨g1, g2, g3⟩ := grm_ok hT n 0 (o + 1) (k + 1) _ hk1 e1
              dsimp only at g1 g2
              obtain ⟨v1, m1, q1, q2, q3, q4⟩ := ih 0 (o + 1) (k + 1) F 1000 0 _ m0 hk1 (by omega) (by decide) e1 hS0 (by omega) (by omega)
              have q1 : M_rec F 0 m0 = some (v1, m1) := q1
              have q4' : ∀ st, exc (nmM ν) c1 st = v1 :: st := fun st => by rw [← exc_nx k0' js_ok]; exact q4 st
              rw [bnd2_of q1, M_isSign_sp q3 (c := 41) (by decide), nm_eq]
              by_cases h41 : tkT B z k1 = 41
              · rw [if_pos h41] at h
                cases h
                rw [if_pos h41, if_neg (by decide)]
                unfold M_atom_71
                have n9 : NX [25] m1 (up m1 0 0 25 (rd m1 0 0 25 - 1)) := NX.wr (by decide)
                have hs : MS B z t k1 o (up m1 0 0 25 (rd m1 0 0 25 - 1)) := by
                  refine ⟨q3.1.nx n9 (by decide) (by decide), by rw [n9.2 26 (by decide)]; exact q3.2.1, ?_, ?_⟩
                  · rw [rd_up_s, q3.2.2.1, litI 1, nI_sub' (by omega), show o + 1 - 1 = o by omega]
                  · unfold TokM
                    rw [n9.2 23 (by decide), n9.2 22 (by decide), n9.2 21 (by decide), rdL_up]
                    exact q3.2.2.2
                obtain ⟨m2, s1, s2, s3⟩ := M_next_ms hs ⟨by rw [h41]; decide, by rw [h41]; decide⟩
                rw [nm_eq, if_pos hs.2.1, bnd_of s1]
                exact ⟨v1, m2, rfl, ((k0'.tr q2).wr' (by decide)).tr (s3.mono (by decide)), s2, q4'⟩
              · rw [if_neg h41] at h
                cases h
                rw [if_neg h41, if_pos rfl, nm_eq]
                obtain ⟨f1, f2⟩ := M_fail_ms q3
                exact endF k1 v1 _ f1 ((k0'.tr q2).tr (f2.mono (by decide)))
        · rw [if_neg h40, if_pos rfl, if_pos hS.2.1]
          -- a number, a name, or a fault
          have fault : ∀ {m : Mem}, m = M_fail ν → r = (k, none) → ∀ v, MP B z t o ν [] r v m := by
            intro m em er v
            subst em; subst er
            obtain ⟨f1, f2⟩ := M_fail_ms hS
            exact ⟨f2.mono (by decide), f1⟩
          have other : rd ν 0 0 22 ≠ 1 → r = (k, none) → ∃ v ν', M_atom_123 (M_rec F) 0 ν = some (v, ν') ∧ MP B z t o ν [] r v ν' := by
            intro h22 er
            unfold M_atom_123
            rw [if_pos hS.2.1, if_neg h22]
            unfold M_atom_157
            exact ⟨0, _, rfl, fault rfl er 0⟩
          rcases tok_sorts hS with ⟨x1, x2⟩ | ⟨x1, -, -, x2, -, -⟩ | ⟨x1, x2, x3, x4⟩ | ⟨x1, x2, x3, x4⟩ | ⟨x1, x2⟩
          · rw [x2, if_neg (by decide)]
            rw [if_neg (by rw [x1]; decide), if_neg (by rw [x1]; decide), if_neg h45, if_neg h40] at h
            cases h
            exact other (by rw [x2]; decide) rfl
          · rw [x2, if_neg (by decide)]
            unfold M_atom_123
            rw [if_pos hS.2.1, if_pos x2]
            rcases M_name_sp hS with ⟨v, hv, ev, en⟩ | ⟨nv, en⟩
            · have hlt : nI v < 6 := nI_lt (b := 6) hv (by omega)
              have n12 : ¬ tkT B z k = 12 := by rw [ev]; exact nI_lit_ne (b := 12) (by omega) (by omega) (by omega)
              rw [if_neg n12, ev, if_pos hlt] at h
              cases h
              have hg : goodT B z k := ⟨by rw [ev]; exact nI_lit_ne (b := 13) (by omega) (by omega) (by omega), by rw [ev]; exact nI_lit_ne (b := 14) (by omega) (by omega) (by omega)⟩
              obtain ⟨m2, s1, s2, s3⟩ := M_next_ms hS hg
              rw [bnd2_of en, if_pos hS.2.1, bnd_of s1]
              exact ⟨_, m2, rfl, s3.mono (by decide), s2, fun st => (One.name hv).2 (nmM ν) st⟩
            · have n12 : ¬ tkT B z k = 12 := by
                rw [x1]
                intro q
                rcases wordC_in B (posK B z k) (sp isLe B z (posK B z k)) with ⟨v, hv, e9⟩ | e9
                · rw [e9] at q
                  exact absurd q (nI_lit_ne (b := 12) (by omega) (by omega) (by omega))
                · rw [e9] at q
                  exact absurd q (by decide)
              have n6 : ¬ tkT B z k < 6 := by
                rw [x1]
                intro q
                rcases wordC_in B (posK B z k) (sp isLe B z (posK B z k)) with ⟨v, hv, e9⟩ | e9
                · rw [e9] at q
                  have : v < 6 := (nI_ltI (b := 6) (by omega) (by omega)).mp q
                  exact nv v this (x1.trans e9)
                · rw [e9] at q
                  exact absurd q (by decide)
              rw [if_neg n12, if_neg n6, if_neg h45, if_neg h40] at h
              cases h
              obtain ⟨f1, f2⟩ := M_fail_ms hS
              rw [bnd2_of en, if_neg (by rw [f1.1]; decide)]
              exact ⟨0, _, rfl, f2.mono (by decide), f1⟩
          · rw [if_pos x2, nm_eq]
            rw [if_pos x1] at h
            cases h
            obtain ⟨m2, s1, s2, s3⟩ := M_next_ms hS ⟨by rw [x1]; decide, by rw [x1]; decide⟩
            rw [bnd_of s1, x4]
            refine ⟨_, m2, rfl, s3.mono (by decide), s2, fun st => ?_⟩
            have hq := hT.2.2.2.1 k x1
            have h1 : ¬ nI (tkV B z k) < -6 := fun q => nI_pos (n := tkV B z k) (by omega) (Int32.lt_trans q (by decide))
            show stp (nmM ν) (nI (tkV B z k)) st = _
            unfold stp
            rw [if_neg h1, if_neg (nI_pos (by omega)), lN_i]
          · rw [x2, if_neg (by decide)]
            have n12 : ¬ tkT B z k = 12 := fun q => by rw [q] at x1; exact absurd x1 (by decide)
            have n6 : ¬ tkT B z k < 6 := fun q => by
              rcases (isSg_iff _).mp x1 with w | w | w | w | w | w | w | w <;> rw [w] at q <;> exact absurd q (by decide)
            rw [if_neg n12, if_neg n6, if_neg h45, if_neg h40] at h
            cases h
            exact other (by rw [x2]; decide) rfl
          · rw [x2, if_neg (by decide)]
            rw [if_neg (by rw [x1]; decide), if_neg (by rw [x1]; decide), if_neg h45, if_neg h40] at h
            cases h
            exact other (by rw [x2]; decide) rfl
    | 7, hw, h, hF, two, round, stay =>
      obtain ⟨L, rfl⟩ : ∃ L', L = L' + 1 := ⟨L - 1, by omega⟩
      have e : rkM 7 o = 6 * (5 - o) + 4 := rfl
      replace h : (if tkT B z k = 9 then sq (gr (tkT B z) (tkV B z) n 1 o (k + 1)) fun k1 c1 => sq (gr (tkT B z) (tkV B z) n 7 o k1) fun k2 c2 => some (k2, some (c1 ++ ([-9] ++ c2))) else some (k, some [])) = some r := h
      show ∃ v ν', M_either_5 (M_rec F) (M_either_5L (M_rec F) L) x ν = some (v, ν') ∧ _
      unfold M_either_5
      rw [bnd_of (M_isWord_ms hS (v := 9) (by decide) (by decide))]
      by_cases h1 : tkT B z k = 9
      · have hk1 := nxt h1 (by decide) (by decide)
        rw [if_pos h1] at h
        rw [if_pos (show tkT B z k = nI 9 from h1), if_neg (by decide)]
        refine round (a := 1) (c := -9) (fun v => if x = 0 then (if v = 0 then 0 else 1) else 1) _ (by decide) (by decide) isJ_9 (fun v => rfl) (by have : rkM 1 o = 6 * (5 - o) + 4 := rfl; omega) (by omega) hk1 (good h1 (by decide) (by decide)) ?_ h
        congr 1; funext μ5
        congr 1; funext r7 μ8
        by_cases c1 : x = 0
        · rw [if_pos c1, if_pos c1]
          by_cases c2 : r7 = 0
          · rw [if_pos c2, if_pos c2]; rfl
          · rw [if_neg c2, if_neg c2]; rfl
        · rw [if_neg c1, if_neg c1]; rfl
      · rw [if_neg h1] at h
        cases h
        rw [if_neg (show ¬ tkT B z k = nI 9 from h1), if_pos rfl]
        exact ⟨x, ν, rfl, stay (by decide) rfl⟩
    | 8, hw, h, hF, two, round, stay =>
      obtain ⟨L, rfl⟩ : ∃ L', L = L' + 1 := ⟨L - 1, by omega⟩
      have e : rkM 8 o = 6 * (5 - o) + 3 := rfl
      replace h : (if tkT B z k = 10 then sq (gr (tkT B z) (tkV B z) n 2 o (k + 1)) fun k1 c1 => sq (gr (tkT B z) (tkV B z) n 8 o k1) fun k2 c2 => some (k2, some (c1 ++ ([-10] ++ c2))) else some (k, some [])) = some r := h
      show ∃ v ν', M_both_5 (M_rec F) (M_both_5L (M_rec F) L) x ν = some (v, ν') ∧ _
      unfold M_both_5
      rw [bnd_of (M_isWord_ms hS (v := 10) (by decide) (by decide))]
      by_cases h1 : tkT B z k = 10
      · have hk1 := nxt h1 (by decide) (by decide)
        rw [if_pos h1] at h
        rw [if_pos (show tkT B z k = nI 10 from h1), if_neg (by decide)]
        refine round (a := 2) (c := -10) (fun v => if x = 0 then 0 else (if v = 0 then 0 else 1)) _ (by decide) (by decide) isJ_10 (fun v => rfl) (by have : rkM 2 o = 6 * (5 - o) + 3 := rfl; omega) (by omega) hk1 (good h1 (by decide) (by decide)) ?_ h
        congr 1; funext μ5
        congr 1; funext r7 μ8
        by_cases c1 : x = 0
        · rw [if_pos c1, if_pos c1]; rfl
        · rw [if_neg c1, if_neg c1]
          by_cases c2 : r7 = 0
          · rw [if_pos c2, if_pos c2]; rfl
          · rw [if_neg c2, if_neg c2]; rfl
      · rw [if_neg h1] at h
        cases h
        rw [if_neg (show ¬ tkT B z k = nI 10 from h1), if_pos rfl]
        exact ⟨x, ν, rfl, stay (by decide) rfl⟩
    | 9, hw, h, hF, two, round, stay =>
      obtain ⟨L, rfl⟩ : ∃ L', L = L' + 1 := ⟨L - 1, by omega⟩
      have e : rkM 9 o = 6 * (5 - o) + 1 := rfl
      replace h : (if tkT B z k = 43 ∨ tkT B z k = 45 then sq (gr (tkT B z) (tkV B z) n 5 o (k + 1)) fun k1 c1 => sq (gr (tkT B z) (tkV B z) n 9 o k1) fun k2 c2 => some (k2, some (c1 ++ ([-(tkT B z k)] ++ c2))) else some (k, some [])) = some r := h
      show ∃ v ν', M_added_5 (M_rec F) (M_added_5L (M_rec F) L) x ν = some (v, ν') ∧ _
      have go : (tkT B z k = 43 ∨ tkT B z k = 45) → ∃ v ν', M_added_23 (M_rec F) (M_added_5L (M_rec F) L) x ν = some (v, ν') ∧ MP B z t o ν (preM 9 x) r v ν' := by
        intro h1
        rw [if_pos h1] at h
        have hk1 : k + 1 < N := hT.lt hk (by rcases h1 with q | q <;> rw [q] <;> decide) (by rcases h1 with q | q <;> rw [q] <;> decide)
        have hg1 : goodT B z k := ⟨by rcases h1 with q | q <;> rw [q] <;> decide, by rcases h1 with q | q <;> rw [q] <;> decide⟩
        have hw1 : rdL ν = (tkT B z k).toInt64 := by
          rcases tok_sorts hS with ⟨x1, x2⟩ | ⟨x1, -⟩ | ⟨x1, x2⟩ | ⟨x1, x2, x3, x4⟩ | ⟨x1, x2⟩
          · exact absurd x1 hg1.1
          · rcases h1 with q | q
            · exact absurd (x1.symm.trans q) (wordC_nsg B _ _ (by decide))
            · exact absurd (x1.symm.trans q) (wordC_nsg B _ _ (by decide))
          · rcases h1 with q | q <;> rw [q] at x1 <;> exact absurd x1 (by decide)
          · exact x4
          · exact absurd x1 hg1.2
        unfold M_added_23
        rw [hw1, show (43 : Int64) = (43 : Int32).toInt64 from rfl]
        simp only [lg_cmp0, i64_inj]
        by_cases h43 : tkT B z k = 43
        · rw [if_pos h43]
          refine round (a := 5) (c := -(tkT B z k)) (fun v => x + v) _ (by decide) (by decide) (isJ_s (by rcases h1 with q | q <;> simp [q])) (fun v => by rw [Int32.neg_neg, h43]; rfl) (by have : rkM 5 o = 6 * (5 - o) + 1 := rfl; omega) (by omega) hk1 hg1 ?_ h
          unfold M_added_39
          congr 1
        · rw [if_neg h43]
          have h45 := h1.resolve_left h43
          refine round (a := 5) (c := -(tkT B z k)) (fun v => x - v) _ (by decide) (by decide) (isJ_s (by rcases h1 with q | q <;> simp [q])) (fun v => by rw [Int32.neg_neg, h45]; rfl) (by have : rkM 5 o = 6 * (5 - o) + 1 := rfl; omega) (by omega) hk1 hg1 ?_ h
          unfold M_added_39
          congr 1
      unfold M_added_5
      rw [M_isSign_sp hS (c := 43) (by decide), nm_eq, M_isSign_sp hS (c := 45) (by decide), nm_eq]
      by_cases h1 : tkT B z k = 43
      · rw [if_pos h1, if_neg (by decide)]
        exact go (Or.inl h1)
      · rw [if_neg h1, if_pos rfl]
        by_cases h2 : tkT B z k = 45
        · rw [if_pos h2, if_neg (by decide)]
          exact go (Or.inr h2)
        · rw [if_neg h2, if_pos rfl]
          rw [if_neg (fun q => q.elim h1 h2)] at h
          cases h
          exact ⟨x, ν, rfl, stay (by decide) rfl⟩
    | 10, hw, h, hF, two, round, stay =>
      obtain ⟨L, rfl⟩ : ∃ L', L = L' + 1 := ⟨L - 1, by omega⟩
      have e : rkM 10 o = 6 * (5 - o) := rfl
      replace h : (if tkT B z k = 42 then sq (gr (tkT B z) (tkV B z) n 6 o (k + 1)) fun k1 c1 => sq (gr (tkT B z) (tkV B z) n 10 o k1) fun k2 c2 => some (k2, some (c1 ++ ([-42] ++ c2))) else some (k, some [])) = some r := h
      show ∃ v ν', M_term_5 (M_rec F) (M_term_5L (M_rec F) L) x ν = some (v, ν') ∧ _
      unfold M_term_5
      rw [M_isSign_sp hS (c := 42) (by decide), nm_eq]
      by_cases h1 : tkT B z k = 42
      · have hk1 := nxt h1 (by decide) (by decide)
        rw [if_pos h1] at h
        rw [if_pos h1, if_neg (by decide)]
        refine round (a := 6) (c := -42) (fun v => x * v) _ (by decide) (by decide) isJ_42 (fun v => rfl) (by have : rkM 6 o = 6 * (5 - o) := rfl; omega) (by omega) hk1 (good h1 (by decide) (by decide)) rfl h
      · rw [if_neg h1] at h
        cases h
        rw [if_neg h1, if_pos rfl]
        exact ⟨x, ν, rfl, stay (by decide) rfl⟩
    | w + 11, hw, h, hF, two, round, stay => exact absurd hw (by omega)
