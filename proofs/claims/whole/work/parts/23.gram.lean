/-! ===== the grammar over tokens, and its codes ===== -/
def sq (r : Option (Nat × Option (List Int32))) (f : Nat → List Int32 → Option (Nat × Option (List Int32))) : Option (Nat × Option (List Int32)) := match r with
  | none => none
  | some (k, none) => some (k, none)
  | some (k, some c) => f k c
def gr (T : Nat → Int32) (Q : Nat → Nat) : Nat → Nat → Nat → Nat → Option (Nat × Option (List Int32))
  | 0, _, _, _ => none
  | n + 1, w, o, k => match w with
    | 0 => sq (gr T Q n 1 o k) fun k1 c1 => sq (gr T Q n 7 o k1) fun k2 c2 => some (k2, some (c1 ++ c2))
    | 1 => sq (gr T Q n 2 o k) fun k1 c1 => sq (gr T Q n 8 o k1) fun k2 c2 => some (k2, some (c1 ++ c2))
    | 2 => if T k = 11 then (if o < 5 then sq (gr T Q n 2 (o + 1) (k + 1)) fun k1 c1 => some (k1, some (c1 ++ [-11])) else some (k, none)) else gr T Q n 3 o k
    | 3 => sq (gr T Q n 4 o k) fun k1 c1 => if T k1 = 60 ∨ T k1 = 61 then sq (gr T Q n 4 o (k1 + 1)) fun k2 c2 => some (k2, some (c1 ++ (c2 ++ [-(T k1)]))) else some (k1, some c1)
    | 4 => sq (gr T Q n 5 o k) fun k1 c1 => sq (gr T Q n 9 o k1) fun k2 c2 => some (k2, some (c1 ++ c2))
    | 5 => sq (gr T Q n 6 o k) fun k1 c1 => sq (gr T Q n 10 o k1) fun k2 c2 => some (k2, some (c1 ++ c2))
    | 6 => if T k = 12 then some (k + 1, some [nI (Q k)])
      else if T k < 6 then some (k + 1, some [(-1) - T k])
      else if T k = 45 then (if o < 5 then sq (gr T Q n 6 (o + 1) (k + 1)) fun k1 c1 => some (k1, some (c1 ++ [-100])) else some (k, none))
      else if T k = 40 then (if o < 5 then sq (gr T Q n 0 (o + 1) (k + 1)) fun k1 c1 => (if T k1 = 41 then some (k1 + 1, some c1) else some (k1, none)) else some (k, none))
      else some (k, none)
    | 7 => if T k = 9 then sq (gr T Q n 1 o (k + 1)) fun k1 c1 => sq (gr T Q n 7 o k1) fun k2 c2 => some (k2, some (c1 ++ ([-9] ++ c2))) else some (k, some [])
    | 8 => if T k = 10 then sq (gr T Q n 2 o (k + 1)) fun k1 c1 => sq (gr T Q n 8 o k1) fun k2 c2 => some (k2, some (c1 ++ ([-10] ++ c2))) else some (k, some [])
    | 9 => if T k = 43 ∨ T k = 45 then sq (gr T Q n 5 o (k + 1)) fun k1 c1 => sq (gr T Q n 9 o k1) fun k2 c2 => some (k2, some (c1 ++ ([-(T k)] ++ c2))) else some (k, some [])
    | 10 => if T k = 42 then sq (gr T Q n 6 o (k + 1)) fun k1 c1 => sq (gr T Q n 10 o k1) fun k2 c2 => some (k2, some (c1 ++ ([-42] ++ c2))) else some (k, some [])
    | _ => none
theorem sq_some {r : Option (Nat × Option (List Int32))} {f : Nat → List Int32 → Option (Nat × Option (List Int32))} {z : Nat × Option (List Int32)} (h : sq r f = some z) : (∃ k, r = some (k, none) ∧ z = (k, none)) ∨ ∃ k c, r = some (k, some c) ∧ f k c = some z := by
  match r, h with
  | some (k, none), h => exact Or.inl ⟨k, rfl, (Option.some.inj h).symm⟩
  | some (k, some c), h => exact Or.inr ⟨k, c, rfl, h⟩
/-- what a code does to the numbers on the stack -/
def stp (nmf : Nat → Int32) (c : Int32) (st : List Int32) : List Int32 :=
  if c < -6 then
    (if c = -100 then (match st with | a :: r => (-a) :: r | [] => [])
     else if c = -11 then (match st with | a :: r => (if a = 0 then 1 else 0) :: r | [] => [])
     else (match st with | b :: a :: r => Te_joined (-c) a b :: r | r => r))
  else (if c < 0 then nmf (ix ((-1) - c)) else c) :: st
def exc (nmf : Nat → Int32) : List Int32 → List Int32 → List Int32
  | [], st => st
  | c :: cs, st => exc nmf cs (stp nmf c st)
theorem exc_app (nmf : Nat → Int32) : ∀ (a b st : List Int32), exc nmf (a ++ b) st = exc nmf b (exc nmf a st)
  | [], _, _ => rfl
  | c :: a, b, st => exc_app nmf a b (stp nmf c st)
/-- how high the stack stands behind the codes, if it never wants -/
def hgt : Nat → List Int32 → Option Nat
  | h, [] => some h
  | h, c :: cs => if c < -6 then (if c = -100 ∨ c = -11 then (if 1 ≤ h then hgt h cs else none) else (if 2 ≤ h then hgt (h - 1) cs else none)) else hgt (h + 1) cs
theorem hgt_app : ∀ (a b : List Int32) (h : Nat), hgt h (a ++ b) = (hgt h a).bind (fun h' => hgt h' b)
  | [], _, _ => rfl
  | c :: a, b, h => by
    show hgt h (c :: (a ++ b)) = _
    rw [hgt, hgt]
    split
    · split
      · split
        · exact hgt_app a b h
        · rfl
      · split
        · exact hgt_app a b (h - 1)
        · rfl
    · exact hgt_app a b (h + 1)
/-- codes that push one number -/
def One (cs : List Int32) : Prop := (∀ h, hgt h cs = some (h + 1)) ∧ ∀ nmf, ∃ v, ∀ st, exc nmf cs st = v :: st
/-- codes that turn the number on top -/
def Turn (cs : List Int32) : Prop := (∀ h, hgt (h + 1) cs = some (h + 1)) ∧ ∀ nmf v, ∃ u, ∀ st, exc nmf cs (v :: st) = u :: st
theorem One.turn {a b : List Int32} (ha : One a) (hb : Turn b) : One (a ++ b) := by
  refine ⟨fun h => by rw [hgt_app, ha.1]; exact hb.1 h, fun nmf => ?_⟩
  obtain ⟨v, hv⟩ := ha.2 nmf
  obtain ⟨u, hu⟩ := hb.2 nmf v
  exact ⟨u, fun st => by rw [exc_app, hv, hu]⟩
theorem Turn.nil : Turn [] := ⟨fun _ => rfl, fun _ v => ⟨v, fun _ => rfl⟩⟩
theorem Turn.un {c : Int32} (h : c = -100 ∨ c = -11) : Turn [c] := by
  rcases h with rfl | rfl
  · exact ⟨fun h => by simp [hgt], fun nmf v => ⟨-v, fun _ => rfl⟩⟩
  · exact ⟨fun h => by simp [hgt], fun nmf v => ⟨if v = 0 then 1 else 0, fun _ => rfl⟩⟩
/-- what joins two -/
def isJ (c : Int32) : Prop := c < -6 ∧ c ≠ -100 ∧ c ≠ -11
theorem stp_J {c : Int32} (h : isJ c) (nmf : Nat → Int32) (a b : Int32) (r : List Int32) : stp nmf c (b :: a :: r) = Te_joined (-c) a b :: r := by
  unfold stp
  rw [if_pos h.1, if_neg h.2.1, if_neg h.2.2]
theorem Turn.join {a b : List Int32} {c : Int32} (ha : One a) (hc : isJ c) (hb : Turn b) : Turn (a ++ ([c] ++ b)) := by
  refine ⟨fun h => ?_, fun nmf v => ?_⟩
  · rw [hgt_app, ha.1]
    show hgt (h + 1 + 1) (c :: b) = _
    rw [hgt, if_pos hc.1, if_neg (fun q => q.elim hc.2.1 hc.2.2), if_pos (by omega)]
    exact hb.1 h
  · obtain ⟨w, hw⟩ := ha.2 nmf
    obtain ⟨u, hu⟩ := hb.2 nmf (Te_joined (-c) v w)
    refine ⟨u, fun st => ?_⟩
    rw [exc_app, hw]
    show exc nmf b (stp nmf c (w :: v :: st)) = _
    rw [stp_J hc, hu]
theorem isJ_9 : isJ (-9) := by unfold isJ; decide
theorem isJ_10 : isJ (-10) := by unfold isJ; decide
theorem isJ_42 : isJ (-42) := by unfold isJ; decide
theorem isJ_s {t : Int32} (h : t = 43 ∨ t = 45 ∨ t = 60 ∨ t = 61) : isJ (-t) := by
  rcases h with rfl | rfl | rfl | rfl <;> unfold isJ <;> decide
theorem One.num {n : Nat} (h : n < 2 ^ 31) : One [nI n] := by
  have h1 : ¬ nI n < -6 := fun q => nI_pos h (Int32.lt_trans q (by decide))
  refine ⟨fun k => by rw [hgt, if_neg h1]; rfl, fun nmf => ⟨nI n, fun st => ?_⟩⟩
  show stp nmf (nI n) st = _
  unfold stp
  rw [if_neg h1, if_neg (nI_pos h)]
theorem One.name {v : Nat} (h : v < 6) : One [(-1) - nI v] ∧ ∀ nmf st, exc nmf [(-1) - nI v] st = nmf v :: st := by
  have key : ∀ v, v < 6 → ¬ (-1) - nI v < -6 ∧ (-1) - nI v < 0 ∧ ix ((-1) - ((-1) - nI v)) = v := by decide +kernel
  obtain ⟨h1, h2, h3⟩ := key v h
  have e : ∀ nmf st, exc nmf [(-1) - nI v] st = nmf v :: st := fun nmf st => by
    show stp nmf ((-1) - nI v) st = _
    unfold stp
    rw [if_neg h1, if_pos h2, h3]
  exact ⟨⟨fun k => by rw [hgt, if_neg h1]; rfl, fun nmf => ⟨nmf v, e nmf⟩⟩, e⟩
/-- tokens up to place N - 1, which ends them -/
def TokN (T : Nat → Int32) (Q : Nat → Nat) (N : Nat) : Prop := 0 < N ∧ N ≤ 161 ∧ (T (N - 1) = 13 ∨ T (N - 1) = 14) ∧ (∀ k, T k = 12 → Q k < 10000) ∧ ∀ k, T k < 6 → ∃ v, v < 6 ∧ T k = nI v
theorem TokN.lt {T : Nat → Int32} {Q : Nat → Nat} {N k : Nat} (h : TokN T Q N) (hk : k < N) (h1 : T k ≠ 13) (h2 : T k ≠ 14) : k + 1 < N := by
  rcases Nat.lt_or_ge (k + 1) N with q | q
  · exact q
  · have : k = N - 1 := by omega
    rw [this] at h1 h2
    rcases h.2.2.1 with z | z
    · exact absurd z h1
    · exact absurd z h2
/-- what holds of a reading: where it goes on, that its codes are no more than its tokens, that they push one (turn one) -/
def GrOK (N w k : Nat) (r : Nat × Option (List Int32)) : Prop := r.1 < N ∧ k ≤ r.1 ∧ ∀ cs, r.2 = some cs → k + cs.length ≤ r.1 ∧ (w < 7 → One cs) ∧ (7 ≤ w → Turn cs)
theorem grm_ok {T : Nat → Int32} {Q : Nat → Nat} {N : Nat} (hT : TokN T Q N) : ∀ (n w o k : Nat) (r : Nat × Option (List Int32)), k < N → gr T Q n w o k = some r → GrOK N w k r := by
  intro n
  induction n with
  | zero => intro w o k r hk h; cases h
  | succ n ih =>
    intro w o k r hk h
    have nogo : ∀ {k' : Nat}, k' < N → k ≤ k' → GrOK N w k (k', none) := fun h1 h2 => ⟨h1, h2, fun cs e => by cases e⟩
    -- a part and what goes on behind it
    have two : ∀ {a b : Nat}, a < 7 → 7 ≤ b → w < 7 → (sq (gr T Q n a o k) fun k1 c1 => sq (gr T Q n b o k1) fun k2 c2 => some (k2, some (c1 ++ c2))) = some r → GrOK N w k r := by
      intro a b ha hb hw h
      rcases sq_some h with ⟨k1, e1, rfl⟩ | ⟨k1, c1, e1, h⟩
      · obtain ⟨g1, g2, -⟩ := ih a o k _ hk e1
        exact nogo g1 g2
      · obtain ⟨g1, g2, g3⟩ := ih a o k _ hk e1
        obtain ⟨g4, g5, -⟩ := g3 c1 rfl
        dsimp only at g1 g2 g4
        rcases sq_some h with ⟨k2, e2, rfl⟩ | ⟨k2, c2, e2, h⟩
        · obtain ⟨q1, q2, -⟩ := ih b o k1 _ g1 e2
          exact nogo q1 (Nat.le_trans g2 q2)
        · obtain ⟨q1, q2, q3⟩ := ih b o k1 _ g1 e2
          obtain ⟨q4, -, q5⟩ := q3 c2 rfl
          dsimp only at q1 q2 q4
          cases h
          refine ⟨q1, Nat.le_trans g2 q2, fun cs e => ?_⟩
          cases e
          exact ⟨by rw [List.length_append]; show k + (c1.length + c2.length) ≤ k2; omega, fun _ => (g5 ha).turn (q5 hb), fun q => absurd hw (by omega)⟩
    -- a loop's round
    have round : ∀ {a : Nat} {c : Int32}, a < 7 → isJ c → 7 ≤ w → k + 1 < N → (sq (gr T Q n a o (k + 1)) fun k1 c1 => sq (gr T Q n w o k1) fun k2 c2 => some (k2, some (c1 ++ ([c] ++ c2)))) = some r → GrOK N w k r := by
      intro a c ha hc hw hk1 h
      rcases sq_some h with ⟨k1, e1, rfl⟩ | ⟨k1, c1, e1, h⟩
      · obtain ⟨g1, g2, -⟩ := ih a o (k + 1) _ hk1 e1
        exact nogo g1 (by dsimp only at g2; omega)
      · obtain ⟨g1, g2, g3⟩ := ih a o (k + 1) _ hk1 e1
        obtain ⟨g4, g5, -⟩ := g3 c1 rfl
        dsimp only at g1 g2 g4
        rcases sq_some h with ⟨k2, e2, rfl⟩ | ⟨k2, c2, e2, h⟩
        · obtain ⟨q1, q2, -⟩ := ih w o k1 _ g1 e2
          exact nogo q1 (by dsimp only at q2; omega)
        · obtain ⟨q1, q2, q3⟩ := ih w o k1 _ g1 e2
          obtain ⟨q4, -, q5⟩ := q3 c2 rfl
          dsimp only at q1 q2 q4
          cases h
          refine ⟨q1, by show k ≤ k2; omega, fun cs e => ?_⟩
          cases e
          exact ⟨by simp only [List.length_append, List.length_cons, List.length_nil]; show k + (c1.length + (0 + 1 + c2.length)) ≤ k2; omega, fun q => absurd hw (by omega), fun _ => Turn.join (g5 ha) hc (q5 hw)⟩
    have stay : 7 ≤ w → GrOK N w k (k, some []) := fun hw => ⟨hk, Nat.le_refl _, fun cs e => by cases e; exact ⟨Nat.le_refl _, fun q => absurd hw (by omega), fun _ => Turn.nil⟩⟩
    have nxt : ∀ {t : Int32}, T k = t → t ≠ 13 → t ≠ 14 → k + 1 < N := fun e h1 h2 => hT.lt hk (by rw [e]; exact h1) (by rw [e]; exact h2)
    match w, h with
    | 0, h => exact two (by decide) (by decide) (by decide) h
    | 1, h => exact two (by decide) (by decide) (by decide) h
    | 4, h => exact two (by decide) (by decide) (by decide) h
    | 5, h => exact two (by decide) (by decide) (by decide) h
    | 2, h =>
      replace h : (if T k = 11 then (if o < 5 then sq (gr T Q n 2 (o + 1) (k + 1)) fun k1 c1 => some (k1, some (c1 ++ [-11])) else some (k, none)) else gr T Q n 3 o k) = some r := h
      by_cases h1 : T k = 11
      · rw [if_pos h1] at h
        by_cases h2 : o < 5
        · rw [if_pos h2] at h
          have hk1 := nxt h1 (by decide) (by decide)
          rcases sq_some h with ⟨k1, e1, rfl⟩ | ⟨k1, c1, e1, h⟩
          · obtain ⟨g1, g2, -⟩ := ih 2 (o + 1) (k + 1) _ hk1 e1
            exact nogo g1 (by dsimp only at g2; omega)
          · obtain ⟨g1, g2, g3⟩ := ih 2 (o + 1) (k + 1) _ hk1 e1
            obtain ⟨g4, g5, -⟩ := g3 c1 rfl
            dsimp only at g1 g2 g4
            cases h
            refine ⟨g1, by show k ≤ k1; omega, fun cs e => ?_⟩
            cases e
            exact ⟨by rw [List.length_append]; show k + (c1.length + 1) ≤ k1; omega, fun _ => (g5 (by decide)).turn (Turn.un (Or.inr rfl)), fun q => absurd q (by decide)⟩
        · rw [if_neg h2] at h
          cases h
          exact nogo hk (Nat.le_refl _)
      · rw [if_neg h1] at h
        obtain ⟨g1, g2, g3⟩ := ih 3 o k _ hk h
        exact ⟨g1, g2, fun cs e => ⟨(g3 cs e).1, fun _ => (g3 cs e).2.1 (by decide), fun q => absurd q (by decide)⟩⟩
    | 3, h =>
      rcases sq_some h with ⟨k1, e1, rfl⟩ | ⟨k1, c1, e1, h⟩
      · obtain ⟨g1, g2, -⟩ := ih 4 o k _ hk e1
        exact nogo g1 g2
      · obtain ⟨g1, g2, g3⟩ := ih 4 o k _ hk e1
        obtain ⟨g4, g5, -⟩ := g3 c1 rfl
        dsimp only at g1 g2 g4
        by_cases h1 : T k1 = 60 ∨ T k1 = 61
        · rw [if_pos h1] at h
          have hk1 : k1 + 1 < N := hT.lt g1 (by rcases h1 with q | q <;> rw [q] <;> decide) (by rcases h1 with q | q <;> rw [q] <;> decide)
          rcases sq_some h with ⟨k2, e2, rfl⟩ | ⟨k2, c2, e2, h⟩
          · obtain ⟨q1, q2, -⟩ := ih 4 o (k1 + 1) _ hk1 e2
            exact nogo q1 (by dsimp only at q2; omega)
          · obtain ⟨q1, q2, q3⟩ := ih 4 o (k1 + 1) _ hk1 e2
            obtain ⟨q4, q5, -⟩ := q3 c2 rfl
            dsimp only at q1 q2 q4
            cases h
            refine ⟨q1, by show k ≤ k2; omega, fun cs e => ?_⟩
            cases e
            exact ⟨by simp only [List.length_append, List.length_cons, List.length_nil]; show k + (c1.length + (c2.length + (0 + 1))) ≤ k2; omega, fun _ => (g5 (by decide)).turn (by simpa using Turn.join (q5 (by decide)) (isJ_s (by rcases h1 with q | q <;> simp [q])) Turn.nil), fun q => absurd q (by decide)⟩
        · rw [if_neg h1] at h
          cases h
          exact ⟨g1, g2, fun cs e => by cases e; exact ⟨g4, fun _ => g5 (by decide), fun q => absurd q (by decide)⟩⟩
    | 6, h =>
      replace h : (if T k = 12 then some (k + 1, some [nI (Q k)])
        else if T k < 6 then some (k + 1, some [(-1) - T k])
        else if T k = 45 then (if o < 5 then sq (gr T Q n 6 (o + 1) (k + 1)) fun k1 c1 => some (k1, some (c1 ++ [-100])) else some (k, none))
        else if T k = 40 then (if o < 5 then sq (gr T Q n 0 (o + 1) (k + 1)) fun k1 c1 => (if T k1 = 41 then some (k1 + 1, some c1) else some (k1, none)) else some (k, none))
        else some (k, none)) = some r := h
      by_cases h1 : T k = 12
      · rw [if_pos h1] at h
        cases h
        have hk1 := nxt h1 (by decide) (by decide)
        refine ⟨hk1, by show k ≤ k + 1; omega, fun cs e => ?_⟩
        cases e
        have := hT.2.2.2.1 k h1
        exact ⟨by show k + 1 ≤ k + 1; omega, fun _ => One.num (by omega), fun q => absurd q (by decide)⟩
      · rw [if_neg h1] at h
        by_cases h2 : T k < 6
        · rw [if_pos h2] at h
          cases h
          obtain ⟨v, hv, ev⟩ := hT.2.2.2.2 k h2
          have hk1 : k + 1 < N := hT.lt hk (fun q => by rw [q] at h2; exact absurd h2 (by decide)) (fun q => by rw [q] at h2; exact absurd h2 (by decide))
          refine ⟨hk1, by show k ≤ k + 1; omega, fun cs e => ?_⟩
          cases e
          exact ⟨by show k + 1 ≤ k + 1; omega, fun _ => by rw [ev]; exact (One.name hv).1, fun q => absurd q (by decide)⟩
        · rw [if_neg h2] at h
          by_cases h3 : T k = 45
          · rw [if_pos h3] at h
            by_cases h4 : o < 5
            · rw [if_pos h4] at h
              have hk1 := nxt h3 (by decide) (by decide)
              rcases sq_some h with ⟨k1, e1, rfl⟩ | ⟨k1, c1, e1, h⟩
              · obtain ⟨g1, g2, -⟩ := ih 6 (o + 1) (k + 1) _ hk1 e1
                exact nogo g1 (by dsimp only at g2; omega)
              · obtain ⟨g1, g2, g3⟩ := ih 6 (o + 1) (k + 1) _ hk1 e1
                obtain ⟨g4, g5, -⟩ := g3 c1 rfl
                dsimp only at g1 g2 g4
                cases h
                refine ⟨g1, by show k ≤ k1; omega, fun cs e => ?_⟩
                cases e
                exact ⟨by rw [List.length_append]; show k + (c1.length + 1) ≤ k1; omega, fun _ => (g5 (by decide)).turn (Turn.un (Or.inl rfl)), fun q => absurd q (by decide)⟩
            · rw [if_neg h4] at h
              cases h
              exact nogo hk (Nat.le_refl _)
          · rw [if_neg h3] at h
            by_cases h5 : T k = 40
            · rw [if_pos h5] at h
              by_cases h4 : o < 5
              · rw [if_pos h4] at h
                have hk1 := nxt h5 (by decide) (by decide)
                rcases sq_some h with ⟨k1, e1, rfl⟩ | ⟨k1, c1, e1, h⟩
                · obtain ⟨g1, g2, -⟩ := ih 0 (o + 1) (k + 1) _ hk1 e1
                  exact nogo g1 (by dsimp only at g2; omega)
                · obtain ⟨g1, g2, g3⟩ := ih 0 (o + 1) (k + 1) _ hk1 e1
                  obtain ⟨g4, g5, -⟩ := g3 c1 rfl
                  dsimp only at g1 g2 g4
                  by_cases h6 : T k1 = 41
                  · rw [if_pos h6] at h
                    cases h
                    have hk2 : k1 + 1 < N := hT.lt g1 (by rw [h6]; decide) (by rw [h6]; decide)
                    refine ⟨hk2, by show k ≤ k1 + 1; omega, fun cs e => ?_⟩
                    cases e
                    exact ⟨by show k + c1.length ≤ k1 + 1; omega, fun _ => g5 (by decide), fun q => absurd q (by decide)⟩
                  · rw [if_neg h6] at h
                    cases h
                    exact nogo g1 (by omega)
              · rw [if_neg h4] at h
                cases h
                exact nogo hk (Nat.le_refl _)
            · rw [if_neg h5] at h
              cases h
              exact nogo hk (Nat.le_refl _)
    | 7, h =>
      replace h : (if T k = 9 then sq (gr T Q n 1 o (k + 1)) fun k1 c1 => sq (gr T Q n 7 o k1) fun k2 c2 => some (k2, some (c1 ++ ([-9] ++ c2))) else some (k, some [])) = some r := h
      by_cases h1 : T k = 9
      · rw [if_pos h1] at h
        exact round (by decide) isJ_9 (by decide) (nxt h1 (by decide) (by decide)) h
      · rw [if_neg h1] at h
        cases h
        exact stay (by decide)
    | 8, h =>
      replace h : (if T k = 10 then sq (gr T Q n 2 o (k + 1)) fun k1 c1 => sq (gr T Q n 8 o k1) fun k2 c2 => some (k2, some (c1 ++ ([-10] ++ c2))) else some (k, some [])) = some r := h
      by_cases h1 : T k = 10
      · rw [if_pos h1] at h
        exact round (by decide) isJ_10 (by decide) (nxt h1 (by decide) (by decide)) h
      · rw [if_neg h1] at h
        cases h
        exact stay (by decide)
    | 9, h =>
      replace h : (if T k = 43 ∨ T k = 45 then sq (gr T Q n 5 o (k + 1)) fun k1 c1 => sq (gr T Q n 9 o k1) fun k2 c2 => some (k2, some (c1 ++ ([-(T k)] ++ c2))) else some (k, some [])) = some r := h
      by_cases h1 : T k = 43 ∨ T k = 45
      · rw [if_pos h1] at h
        exact round (by decide) (isJ_s (by rcases h1 with q | q <;> simp [q])) (by decide) (hT.lt hk (by rcases h1 with q | q <;> rw [q] <;> decide) (by rcases h1 with q | q <;> rw [q] <;> decide)) h
      · rw [if_neg h1] at h
        cases h
        exact stay (by decide)
    | 10, h =>
      replace h : (if T k = 42 then sq (gr T Q n 6 o (k + 1)) fun k1 c1 => sq (gr T Q n 10 o k1) fun k2 c2 => some (k2, some (c1 ++ ([-42] ++ c2))) else some (k, some [])) = some r := h
      by_cases h1 : T k = 42
      · rw [if_pos h1] at h
        exact round (by decide) isJ_42 (by decide) (nxt h1 (by decide) (by decide)) h
      · rw [if_neg h1] at h
        cases h
        exact stay (by decide)
    | w + 11, h => cases h
