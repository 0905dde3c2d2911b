/-! ===== the two worlds' constructors: their contracts (laid by wip/whole/g68.py) ===== -/
def Alk (D : va_G) (p p' : Nat × va_E) : Prop := p.1 = p'.1 ∧ ∀ H : Heap, va_at D vwCl p H → va_at D vwCl p' H
theorem Alk.rf {D : va_G} {p : Nat × va_E} : Alk D p p := ⟨rfl, fun _ h => h⟩
theorem Alk.refs {D : va_G} {a N : Nat} {c : ClassId} {f g : Nat → Option Nat} (h : ∀ j, j < N → f j = g j) : Alk D (a, .inl (c, N, .inr (.inr (.inr (.inr f))))) (a, .inl (c, N, .inr (.inr (.inr (.inr g))))) := by
  refine ⟨rfl, fun H hH => ?_⟩
  have h1 : H[a]? = some (vp_cell c (N, .inr (.inr (.inr (.inr f))))) := hH
  show H[a]? = some (vp_cell c (N, .inr (.inr (.inr (.inr g)))))
  rw [vp_cell_q] at h1 ⊢
  rw [h1, arrV_ext (fun j hj => by rw [h j hj])]
/-- a row of cells in the order of their making is a world -/
theorem re_world {Ω : Wld} {G : Glo} {μ : Mem} {ws : va_W} {A : Nat → Prop} {π : Nat → Nat → Nat} (hp : ∀ c ∈ Ω.1, ∃ p, ws[π c.1 c.2]? = some p ∧ Alk G.2.1 p (G.1 c.1 c.2, Ω.2 G.1 G.2.2.1 (μ.1 c.1 c.2) μ.2 c.2 c.1)) (hi : ∀ c ∈ Ω.1, ∀ c' ∈ Ω.1, π c.1 c.2 = π c'.1 c'.2 → c = c') (hD : va_D A ws) : Apart Ω G ∧ (∀ q, Aw Ω G q → A q) ∧ ∀ H, va_P G.2.1 vwCl ws H → Wd Ω G μ H := by
  refine ⟨fun c hc c' hc' e => ?_, ?_, fun H hP k q hk => ?_⟩
  · obtain ⟨p, a1, a2⟩ := hp c hc
    obtain ⟨p', b1, b2⟩ := hp c' hc'
    exact hi c hc c' hc' (hD.1 _ _ p p' a1 b1 (by rw [a2.1, b2.1]; exact e))
  · rintro q ⟨c, hc, rfl⟩
    obtain ⟨p, a1, a2⟩ := hp c hc
    have := hD.2 _ p a1
    rw [a2.1] at this
    exact this
  · simp only [wl, List.getElem?_map] at hk
    cases e : Ω.1[k]? with
    | none => rw [e] at hk; cases hk
    | some c =>
      rw [e] at hk
      cases hk
      obtain ⟨p, a1, a2⟩ := hp c (List.mem_of_getElem? e)
      exact a2.2 H (hP _ p a1)
/-- what a tail of a world's constructor stands on -/
def TE (φ : Fr) (cc : ByteArray) (own : String) (nL : Nat) (A : Nat → Prop) (Ω : Wld) (ad : Nat → Nat → Nat) : Prop := FK φ cc own nL A ∧ CxA A (gl φ) φ.1.2.2.2.1 φ.1.2.2.2.1.heap ∧ Ω.1.Nodup ∧ Apart Ω (ad, (gl φ).2) ∧ (∀ q, Aw Ω (ad, (gl φ).2) q → A q) ∧ ∀ q : Nat, q < φ.1.2.2.2.1.heap.size → A q → Aw Ω (ad, (gl φ).2) q
def TI (φ : Fr) (A : Nat → Prop) (Ω : Wld) (ad : Nat → Nat → Nat) (μ : Mem) : Heap → List Loc → Prop := fun H locs => Wd Ω (ad, (gl φ).2) μ H ∧ va_S A φ.1.2.2.2.1.heap H locs
section TROWS
variable {φ : Fr} {R : Room} {Q : State → Prop} {A : Nat → Prop} {Ω : Wld} {ad : Nat → Nat → Nat} {μ : Mem} {k n nL pc : Nat} {cc : ByteArray} {own : String} {L : List (Option Value)} {rest : List Value}
theorem TE.D (E : TE φ cc own nL A Ω ad) : va_D A (wl Ω (ad, (gl φ).2) μ) := (wl_D E.2.2.1 E.2.2.2.1).weaken (fun _ x _ h => E.2.2.2.2.1 x.1 h)
theorem NJ.tget {f i kf ci idx N : Nat} {C : String} {T : u_T} {fs : List Value} {v : Value} (E : TE φ cc own nL A Ω ad) (hm : (f, i) ∈ Ω.1) (he : Ω.2 ad (gl φ).2.2.1 (μ.1 f i) μ.2 i f = .inr (ci, fs)) (hc : vwCl[ci]? = some (C, T, N)) (hk : kf < N) (hin : ∀ w ∈ u_ws C T N, w ∈ lw_G) (hlink : Cond.fieldLink own idx (T kf).1 (T kf).2.1 (T kf).2.2.1 ∈ lw_G) (hv : fs[kf]? = some v) (hd : decode cc pc = .ok (.getfield idx, 3)) (kk : NJ φ R Q (TI φ A Ω ad μ) k n nL (pc + 3) L (v :: rest)) : NJ φ R Q (TI φ A Ω ad μ) k n nL pc L (.ref (ad f i) :: rest) := by
  intro H locs a hI hl
  obtain ⟨q, hq, hw⟩ := wl_get (Ω := Ω) (G := (ad, (gl φ).2)) (μ := μ) hm
  rw [show Ω.2 (ad, (gl φ).2).1 (ad, (gl φ).2).2.2.1 (μ.1 f i) μ.2 i f = .inr (ci, fs) from he] at hw
  exact va_get E.1.1.1 E.1.1.2.1 E.1.1.2.2.2.2.1 hin E.1.1.2.2.2.1 E.1.2.1 hI.1 q hw hc kf hk (E.1.1.G hlink) (fun _ h => h) hv hd (kk H locs a hI hl)
theorem NJ.tput {f i kf ci idx N : Nat} {C : String} {T : u_T} {fs : List Value} {v : Value} {ty : FieldType} {μ' : Mem} (E : TE φ cc own nL A Ω ad) (hm : (f, i) ∈ Ω.1) (he : Ω.2 ad (gl φ).2.2.1 (μ.1 f i) μ.2 i f = .inr (ci, fs)) (hc : vwCl[ci]? = some (C, T, N)) (hk : kf < N) (hin : ∀ w ∈ u_ws C T N, w ∈ lw_G) (ty0 : Nat → FieldType) (hty : ∀ k, k < N → parseFieldDescriptor (T k).2.2.1 = some (ty0 k)) (hnm : ∀ a, a < N → ∀ b, b < N → a ≠ b → (T a).2.1 ≠ (T b).2.1) (hlink : Cond.fieldLink own idx (T kf).1 (T kf).2.1 (T kf).2.2.1 ∈ lw_G) (hfin : (T kf).2.2.2 = false) (hdt : parseFieldDescriptor (T kf).2.2.1 = some ty) (hnar : narrow ty v = v) (hfit : fits ty v = true) (hlen : kf < fs.length) (he' : Ω.2 ad (gl φ).2.2.1 (μ'.1 f i) μ'.2 i f = .inr (ci, fs.set kf v)) (ho : ∀ f' i' : Nat, (f', i') ∈ Ω.1 → (f', i') ≠ (f, i) → Ω.2 ad (gl φ).2.2.1 (μ'.1 f' i') μ'.2 i' f' = Ω.2 ad (gl φ).2.2.1 (μ.1 f' i') μ.2 i' f') (hd : decode cc pc = .ok (.putfield idx, 3)) (kk : NJ φ R Q (TI φ A Ω ad μ') k n nL (pc + 3) L rest) : NJ φ R Q (TI φ A Ω ad μ) k n nL pc L (v :: .ref (ad f i) :: rest) := by
  intro H locs a hI hl
  obtain ⟨q, hq, hw⟩ := wl_get (Ω := Ω) (G := (ad, (gl φ).2)) (μ := μ) hm
  rw [show Ω.2 (ad, (gl φ).2).1 (ad, (gl φ).2).2.2.1 (μ.1 f i) μ.2 i f = .inr (ci, fs) from he] at hw
  refine va_put E.1.1.1 E.1.1.2.1 E.1.1.2.2.2.2.1 hin ty0 hty hnm E.1.1.2.2.2.1 E.1.2.1 hI.1 E.D hI.2 q hw hc kf hk (E.1.1.G hlink) (fun _ h => h) hfin hdt hnar hfit hlen hd (fun H1 locs1 hP1 hD1 hS1 => ?_)
  rw [wl_set (G := (ad, (gl φ).2)) (μ' := μ') E.2.2.1 hq he' ho] at hP1
  exact kk H1 locs1 a ⟨hP1, hS1⟩ hl
theorem NJ.tiast {f i N t0 : Nat} {cA : ClassId} {j x : Int32} (E : TE φ cc own nL A Ω ad) (hm : (f, i) ∈ Ω.1) (he : ∀ r : Nat → Int32, Ω.2 ad (gl φ).2.2.1 r μ.2 i f = .inl (cA, N, .inl r)) (ht : (tysOf (gl φ))[t0]? = some (cA, .int)) (hj : inb j N) (hd : decode cc pc = .ok (.iastore, 1)) (kk : NJ φ R Q (TI φ A Ω ad (up μ f i (ix j) x)) k n nL (pc + 1) L rest) : NJ φ R Q (TI φ A Ω ad μ) k n nL pc L (.int x :: .int j :: .ref (ad f i) :: rest) := by
  intro H locs a hI hl
  obtain ⟨q, hq, hw⟩ := wl_get (Ω := Ω) (G := (ad, (gl φ).2)) (μ := μ) hm
  rw [show Ω.2 (ad, (gl φ).2).1 (ad, (gl φ).2).2.2.1 (μ.1 f i) μ.2 i f = .inl (cA, N, .inl (μ.1 f i)) from he _] at hw
  refine va_iast E.1.1.1 E.1.1.2.1 E.1.2.1 hI.1 E.D hI.2 q t0 hw ht hj hd (fun H1 locs1 hP1 hD1 hS1 => ?_)
  rw [wl_set (G := (ad, (gl φ).2)) (μ' := up μ f i (ix j) x) E.2.2.1 hq (by rw [up_row]; exact he _) (fun f' i' _ h => by rw [up_off μ x (fun q => h (by rw [q.1, q.2]))]; rfl)] at hP1
  exact kk H1 locs1 a ⟨hP1, hS1⟩ hl
theorem NJ.taald {f i N t0 : Nat} (f2 i2 : Nat) {cA : ClassId} {C : String} {j : Int32} {g : Nat → Option Nat} (E : TE φ cc own nL A Ω ad) (hm : (f, i) ∈ Ω.1) (he : Ω.2 ad (gl φ).2.2.1 (μ.1 f i) μ.2 i f = .inl (cA, N, .inr (.inr (.inr (.inr g))))) (ht : (tysOf (gl φ))[t0]? = some (cA, .object C)) (hj : inb j N) (hg : g (ix j) = some (ad f2 i2)) (hd : decode cc pc = .ok (.aaload, 1)) (kk : NJ φ R Q (TI φ A Ω ad μ) k n nL (pc + 1) L (.ref (ad f2 i2) :: rest)) : NJ φ R Q (TI φ A Ω ad μ) k n nL pc L (.int j :: .ref (ad f i) :: rest) := by
  intro H locs a hI hl
  obtain ⟨q, hq, hw⟩ := wl_get (Ω := Ω) (G := (ad, (gl φ).2)) (μ := μ) hm
  rw [show Ω.2 (ad, (gl φ).2).1 (ad, (gl φ).2).2.2.1 (μ.1 f i) μ.2 i f = .inl (cA, N, .inr (.inr (.inr (.inr g)))) from he] at hw
  refine va_aldq E.1.1.1 E.1.1.2.1 E.1.2.1 hI.1 q t0 hw ht hj hd ?_
  rw [show g j.toNatClampNeg = some (ad f2 i2) from hg]
  exact kk H locs a hI hl
theorem NJ.tcall {As st : List Value} {f i ci idx d' n0 n' N : Nat} {y : MethodName} {b : ByteArray} {rt : Option FieldType} {r : Option Value} {μ1 : Mem} {T : u_T} {fs : List Value} (E : TE φ cc own nL A Ω ad) (ck : CkV own idx y b n' rt n0) (hc : Ct φ.1.2.1 Ω (ad, (gl φ).2) d' y b n' rt (.ref (ad f i) :: As) μ (r, μ1)) (hR : (rmD d').frames + 1 ≤ R.frames ∧ 8 + (n' + 11) + (rmD d').locals ≤ R.locals) (hn : As.length = n0) (hm : (f, i) ∈ Ω.1) (he : Ω.2 ad (gl φ).2.2.1 (μ.1 f i) μ.2 i f = .inr (ci, fs)) (hcl : vwCl[ci]? = some (y.cls, T, N)) (hst : st = As.reverse ++ .ref (ad f i) :: rest) (hrest : (rest.map fun v => v.category).sum ≤ 8) (hk : k ≤ R.cells) (hn2 : n ≤ R.slots) (hd : decode cc pc = .ok (.invokevirtual idx, 3)) (kk : NJ φ R Q (TI φ A Ω ad μ1) k n nL (pc + 3) L (r.toList ++ rest)) : NJ φ R Q (TI φ A Ω ad μ) k n nL pc L st :=
  NJ.callV (A := A) (Ω := Ω) (G' := (ad, (gl φ).2)) (f := f) (i := i) E.1.1 (E.2.1.cx E.2.2.1 E.2.2.2.1 E.2.2.2.2.1) E.2.2.2.2.2 E.2.2.2.2.1 (fun _ _ h => h) (fun _ _ _ _ _ h1 _ _ h2 => ⟨h1, h2⟩) ck hc hR hn hm he hcl hst hrest hk hn2 hd kk
theorem NJ.twret {In : Mem → Prop} {a0 mc ms : Nat} (E : TE φ cc own nL A Ω ad) (hIn : In μ) (h0 : ad 0 0 = a0) (hk : k ≤ mc) (hn : n ≤ ms) (hd : decode cc pc = .ok (.return_, 1)) : NJ φ R (MQ φ.2.1 (QW Ω (gl φ) In a0 A) φ.1.2.2.2.2.2 φ.1.2.2.2.1 mc ms A) (TI φ A Ω ad μ) k n nL pc L [] := NJ.inv (fun H locs h => ⟨h.1, E.D, h.2⟩) (NJ.wret E.1 hIn E.2.2.2.1 E.2.2.2.2.1 h0 hk hn hd)
end TROWS
theorem wd_846 : Cond.fieldLink RX10 73 "SewnUpModel" "textCount" "I" ∈ lw_G := mG 932 (by decide +kernel) rfl
def wAf (cy : Nat → ClassId) (a0 : Nat) (q : Nat → Nat) (u : Nat → Nat → Nat) (p : Nat → Nat) (v : Nat → Nat → Nat) (r : Nat → Nat) (w : Nat → Nat → Nat) : va_W := [(a0, .inr (9, fA0 q)), (q 0, .inr (1, [.int 0, .int 60, .int 0, .int 0, .ref (u 0 0)])), (u 0 0, .inl (cy 2, 6, .inr (.inr (.inr (.inr (refL [some (u 0 1), some (u 0 2), some (u 0 3), some (u 0 4), some (u 0 5), some (u 0 6)])))))), (u 0 1, .inr (0, [.int 0, .int 0, .int 0, .int 0, .int 0])), (u 0 2, .inr (0, [.int 0, .int 0, .int 0, .int 0, .int 0])), (u 0 3, .inr (0, [.int 0, .int 0, .int 0, .int 0, .int 0])), (u 0 4, .inr (0, [.int 0, .int 0, .int 0, .int 0, .int 0])), (u 0 5, .inr (0, [.int 0, .int 0, .int 0, .int 0, .int 0])), (u 0 6, .inr (0, [.int 0, .int 0, .int 0, .int 0, .int 0])), (q 1, .inr (1, [.int 0, .int 60, .int 0, .int 0, .ref (u 1 0)])), (u 1 0, .inl (cy 2, 6, .inr (.inr (.inr (.inr (refL [some (u 1 1), some (u 1 2), some (u 1 3), some (u 1 4), some (u 1 5), some (u 1 6)])))))), (u 1 1, .inr (0, [.int 0, .int 0, .int 0, .int 0, .int 0])), (u 1 2, .inr (0, [.int 0, .int 0, .int 0, .int 0, .int 0])), (u 1 3, .inr (0, [.int 0, .int 0, .int 0, .int 0, .int 0])), (u 1 4, .inr (0, [.int 0, .int 0, .int 0, .int 0, .int 0])), (u 1 5, .inr (0, [.int 0, .int 0, .int 0, .int 0, .int 0])), (u 1 6, .inr (0, [.int 0, .int 0, .int 0, .int 0, .int 0])), (q 2, .inl (cy 3, 6, .inr (.inr (.inr (.inr (refL [some (p 0), some (p 1), some (p 2), some (p 3), some (p 4), some (p 5)])))))), (q 3, .inr (4, [.ref (u 3 0), .null, .int 0, .int 0, .int 13])), (u 3 0, .inr (6, [.ref (u 3 1), .int 0, .ref (u 3 2), .ref (u 3 3), .ref (u 3 4), .int 0])), (u 3 1, .inl (cy 0, 160, .inl (fun _ => 0))), (u 3 2, .inl (cy 0, 161, .inl (fun _ => 0))), (u 3 3, .inl (cy 0, 161, .inl (fun _ => 0))), (u 3 4, .inl (cy 0, 161, .inl (fun _ => 0))), (q 4, .inl (cy 4, 4, .inr (.inr (.inr (.inr (refL [some (r 0), some (r 1), some (r 2), some (r 3)])))))), (q 5, .inr (2, [.int 0, .int 0, .int 0, .int 0, .int 0, .int 0, .int 0, .int 0, .int (-1), .ref (u 5 0)])), (u 5 0, .inl (cy 0, 6, .inl (fun _ => 0))), (q 6, .inr (8, [.int 0, .int 1, .ref (u 6 0), .ref (u 6 1)])), (u 6 0, .inl (cy 0, 6, .inl (fun _ => 0))), (u 6 1, .inl (cy 0, 6, .inl (fun _ => 0))), (q 7, .inr (3, [.int 0, .ref (u 7 0), .ref (u 7 1), .ref (u 7 2)])), (u 7 0, .inl (cy 0, 6, .inl (fun _ => 0))), (u 7 1, .inl (cy 0, 6, .inl (fun _ => 0))), (u 7 2, .inl (cy 0, 6, .inl (fun _ => 0))), (q 8, .inl (cy 5, 6, .inr (.inr (.inr (.inr (fun j => some (q 8 + 1 + j))))))), (q 8 + 1, .inl (cy 0, 6, .inl (fun _ => 0))), (q 8 + 2, .inl (cy 0, 6, .inl (fun _ => 0))), (q 8 + 3, .inl (cy 0, 6, .inl (fun _ => 0))), (q 8 + 4, .inl (cy 0, 6, .inl (fun _ => 0))), (q 8 + 5, .inl (cy 0, 6, .inl (fun _ => 0))), (q 8 + 6, .inl (cy 0, 6, .inl (fun _ => 0))), (q 9, .inl (cy 0, 6, .inl (fun _ => 0))), (p 0, .inr (7, [.ref (v 0 0), .ref (v 0 1), .ref (v 0 2)])), (v 0 0, .inl (cy 0, 160, .inl (fun _ => 0))), (v 0 1, .inl (cy 0, 4, .inl (fun _ => 0))), (v 0 2, .inl (cy 0, 160, .inl (fun _ => 0))), (p 1, .inr (7, [.ref (v 1 0), .ref (v 1 1), .ref (v 1 2)])), (v 1 0, .inl (cy 0, 160, .inl (fun _ => 0))), (v 1 1, .inl (cy 0, 4, .inl (fun _ => 0))), (v 1 2, .inl (cy 0, 160, .inl (fun _ => 0))), (p 2, .inr (7, [.ref (v 2 0), .ref (v 2 1), .ref (v 2 2)])), (v 2 0, .inl (cy 0, 160, .inl (fun _ => 0))), (v 2 1, .inl (cy 0, 4, .inl (fun _ => 0))), (v 2 2, .inl (cy 0, 160, .inl (fun _ => 0))), (p 3, .inr (7, [.ref (v 3 0), .ref (v 3 1), .ref (v 3 2)])), (v 3 0, .inl (cy 0, 160, .inl (fun _ => 0))), (v 3 1, .inl (cy 0, 4, .inl (fun _ => 0))), (v 3 2, .inl (cy 0, 160, .inl (fun _ => 0))), (p 4, .inr (7, [.ref (v 4 0), .ref (v 4 1), .ref (v 4 2)])), (v 4 0, .inl (cy 0, 160, .inl (fun _ => 0))), (v 4 1, .inl (cy 0, 4, .inl (fun _ => 0))), (v 4 2, .inl (cy 0, 160, .inl (fun _ => 0))), (p 5, .inr (7, [.ref (v 5 0), .ref (v 5 1), .ref (v 5 2)])), (v 5 0, .inl (cy 0, 160, .inl (fun _ => 0))), (v 5 1, .inl (cy 0, 4, .inl (fun _ => 0))), (v 5 2, .inl (cy 0, 160, .inl (fun _ => 0))), (r 0, .inr (5, [.int (-1), .int 0, .ref (w 0 0)])), (w 0 0, .inl (cy 0, 40, .inl (fun _ => 0))), (r 1, .inr (5, [.int (-1), .int 0, .ref (w 1 0)])), (w 1 0, .inl (cy 0, 40, .inl (fun _ => 0))), (r 2, .inr (5, [.int (-1), .int 0, .ref (w 2 0)])), (w 2 0, .inl (cy 0, 40, .inl (fun _ => 0))), (r 3, .inr (5, [.int (-1), .int 0, .ref (w 3 0)])), (w 3 0, .inl (cy 0, 40, .inl (fun _ => 0)))]
def adA (a0 : Nat) (q : Nat → Nat) (u : Nat → Nat → Nat) (p : Nat → Nat) (v : Nat → Nat → Nat) (r : Nat → Nat) (w : Nat → Nat → Nat) : Nat → Nat → Nat := fun f i => ([fun _ => a0, fun i => q i, fun i => if i < 6 then u 0 (i + 1) else u 1 (i - 6 + 1), fun i => u i 0, fun _ => q 2, fun i => p i, fun i => v i 0, fun i => v i 1, fun i => v i 2, fun _ => q 3, fun _ => u 3 0, fun _ => u 3 1, fun _ => u 3 2, fun _ => u 3 3, fun _ => u 3 4, fun _ => q 4, fun i => r i, fun i => w i 0, fun _ => q 5, fun _ => u 5 0, fun _ => q 6, fun _ => u 6 0, fun _ => u 6 1, fun _ => q 7, fun _ => u 7 0, fun _ => u 7 1, fun _ => u 7 2, fun _ => q 8, fun i => q 8 + 1 + i, fun _ => q 9] : List (Nat → Nat)).getD f (fun _ => 0) i
def lA : List (Nat × Nat) := [(0, 0), (1, 0), (1, 1), (2, 0), (2, 1), (2, 2), (2, 3), (2, 4), (2, 5), (2, 6), (2, 7), (2, 8), (2, 9), (2, 10), (2, 11), (3, 0), (3, 1), (4, 0), (5, 0), (5, 1), (5, 2), (5, 3), (5, 4), (5, 5), (6, 0), (6, 1), (6, 2), (6, 3), (6, 4), (6, 5), (7, 0), (7, 1), (7, 2), (7, 3), (7, 4), (7, 5), (8, 0), (8, 1), (8, 2), (8, 3), (8, 4), (8, 5), (9, 0), (10, 0), (11, 0), (12, 0), (13, 0), (14, 0), (15, 0), (16, 0), (16, 1), (16, 2), (16, 3), (17, 0), (17, 1), (17, 2), (17, 3), (18, 0), (19, 0), (20, 0), (21, 0), (22, 0), (23, 0), (24, 0), (25, 0), (26, 0), (27, 0), (28, 0), (28, 1), (28, 2), (28, 3), (28, 4), (28, 5), (29, 0)]
theorem lA_eq : ΩA.1 = lA := by decide +kernel
def piA (f i : Nat) : Nat := (([[0], [1, 9], [3, 4, 5, 6, 7, 8, 11, 12, 13, 14, 15, 16], [2, 10], [17], [42, 46, 50, 54, 58, 62], [43, 47, 51, 55, 59, 63], [44, 48, 52, 56, 60, 64], [45, 49, 53, 57, 61, 65], [18], [19], [20], [21], [22], [23], [24], [66, 68, 70, 72], [67, 69, 71, 73], [25], [26], [27], [28], [29], [30], [31], [32], [33], [34], [35, 36, 37, 38, 39, 40], [41]] : List (List Nat)).getD f []).getD i 0
theorem piA_inj : ∀ c ∈ lA, ∀ c' ∈ lA, piA c.1 c.2 = piA c'.1 c'.2 → c = c' := by decide +kernel
set_option maxHeartbeats 8000000 in
set_option maxRecDepth 100000 in
theorem wAf_ok (g : va_G × (Nat → ClassId) × (Nat → Nat) × (Nat → Nat) × Nat) (a0 : Nat) (q : Nat → Nat) (u : Nat → Nat → Nat) (p : Nat → Nat) (v : Nat → Nat → Nat) (r : Nat → Nat) (w : Nat → Nat → Nat) : ∀ c ∈ lA, ∃ z, (wAf g.2.1 a0 q u p v r w)[piA c.1 c.2]? = some z ∧ Alk g.1 z (adA a0 q u p v r w c.1 c.2, entA (adA a0 q u p v r w) g.2.1 (μ0A.1 c.1 c.2) μ0A.2 c.2 c.1) := by
  unfold lA
  refine List.forall_mem_cons.mpr ⟨⟨_, rfl, Alk.rf⟩, ?_⟩
  refine List.forall_mem_cons.mpr ⟨⟨_, rfl, Alk.rf⟩, ?_⟩
  refine List.forall_mem_cons.mpr ⟨⟨_, rfl, Alk.rf⟩, ?_⟩
  refine List.forall_mem_cons.mpr ⟨⟨_, rfl, Alk.rf⟩, ?_⟩
  refine List.forall_mem_cons.mpr ⟨⟨_, rfl, Alk.rf⟩, ?_⟩
  refine List.forall_mem_cons.mpr ⟨⟨_, rfl, Alk.rf⟩, ?_⟩
  refine List.forall_mem_cons.mpr ⟨⟨_, rfl, Alk.rf⟩, ?_⟩
  refine List.forall_mem_cons.mpr ⟨⟨_, rfl, Alk.rf⟩, ?_⟩
  refine List.forall_mem_cons.mpr ⟨⟨_, rfl, Alk.rf⟩, ?_⟩
  refine List.forall_mem_cons.mpr ⟨⟨_, rfl, Alk.rf⟩, ?_⟩
  refine List.forall_mem_cons.mpr ⟨⟨_, rfl, Alk.rf⟩, ?_⟩
  refine List.forall_mem_cons.mpr ⟨⟨_, rfl, Alk.rf⟩, ?_⟩
  refine List.forall_mem_cons.mpr ⟨⟨_, rfl, Alk.rf⟩, ?_⟩
  refine List.forall_mem_cons.mpr ⟨⟨_, rfl, Alk.rf⟩, ?_⟩
  refine List.forall_mem_cons.mpr ⟨⟨_, rfl, Alk.rf⟩, ?_⟩
  refine List.forall_mem_cons.mpr ⟨⟨_, rfl, Alk.refs (fun j hj => ?_)⟩, ?_⟩
  · obtain rfl | rfl | rfl | rfl | rfl | rfl : j = 0 ∨ j = 1 ∨ j = 2 ∨ j = 3 ∨ j = 4 ∨ j = 5 := by omega
    all_goals rfl
  refine List.forall_mem_cons.mpr ⟨⟨_, rfl, Alk.refs (fun j hj => ?_)⟩, ?_⟩
  · obtain rfl | rfl | rfl | rfl | rfl | rfl : j = 0 ∨ j = 1 ∨ j = 2 ∨ j = 3 ∨ j = 4 ∨ j = 5 := by omega
    all_goals rfl
  refine List.forall_mem_cons.mpr ⟨⟨_, rfl, Alk.refs (fun j hj => ?_)⟩, ?_⟩
  · obtain rfl | rfl | rfl | rfl | rfl | rfl : j = 0 ∨ j = 1 ∨ j = 2 ∨ j = 3 ∨ j = 4 ∨ j = 5 := by omega
    all_goals rfl
  refine List.forall_mem_cons.mpr ⟨⟨_, rfl, Alk.rf⟩, ?_⟩
  refine List.forall_mem_cons.mpr ⟨⟨_, rfl, Alk.rf⟩, ?_⟩
  refine List.forall_mem_cons.mpr ⟨⟨_, rfl, Alk.rf⟩, ?_⟩
  refine List.forall_mem_cons.mpr ⟨⟨_, rfl, Alk.rf⟩, ?_⟩
  refine List.forall_mem_cons.mpr ⟨⟨_, rfl, Alk.rf⟩, ?_⟩
  refine List.forall_mem_cons.mpr ⟨⟨_, rfl, Alk.rf⟩, ?_⟩
  refine List.forall_mem_cons.mpr ⟨⟨_, rfl, Alk.rf⟩, ?_⟩
  refine List.forall_mem_cons.mpr ⟨⟨_, rfl, Alk.rf⟩, ?_⟩
  refine List.forall_mem_cons.mpr ⟨⟨_, rfl, Alk.rf⟩, ?_⟩
  refine List.forall_mem_cons.mpr ⟨⟨_, rfl, Alk.rf⟩, ?_⟩
  refine List.forall_mem_cons.mpr ⟨⟨_, rfl, Alk.rf⟩, ?_⟩
  refine List.forall_mem_cons.mpr ⟨⟨_, rfl, Alk.rf⟩, ?_⟩
  refine List.forall_mem_cons.mpr ⟨⟨_, rfl, Alk.rf⟩, ?_⟩
  refine List.forall_mem_cons.mpr ⟨⟨_, rfl, Alk.rf⟩, ?_⟩
  refine List.forall_mem_cons.mpr ⟨⟨_, rfl, Alk.rf⟩, ?_⟩
  refine List.forall_mem_cons.mpr ⟨⟨_, rfl, Alk.rf⟩, ?_⟩
  refine List.forall_mem_cons.mpr ⟨⟨_, rfl, Alk.rf⟩, ?_⟩
  refine List.forall_mem_cons.mpr ⟨⟨_, rfl, Alk.rf⟩, ?_⟩
  refine List.forall_mem_cons.mpr ⟨⟨_, rfl, Alk.rf⟩, ?_⟩
  refine List.forall_mem_cons.mpr ⟨⟨_, rfl, Alk.rf⟩, ?_⟩
  refine List.forall_mem_cons.mpr ⟨⟨_, rfl, Alk.rf⟩, ?_⟩
  refine List.forall_mem_cons.mpr ⟨⟨_, rfl, Alk.rf⟩, ?_⟩
  refine List.forall_mem_cons.mpr ⟨⟨_, rfl, Alk.rf⟩, ?_⟩
  refine List.forall_mem_cons.mpr ⟨⟨_, rfl, Alk.rf⟩, ?_⟩
  refine List.forall_mem_cons.mpr ⟨⟨_, rfl, Alk.rf⟩, ?_⟩
  refine List.forall_mem_cons.mpr ⟨⟨_, rfl, Alk.rf⟩, ?_⟩
  refine List.forall_mem_cons.mpr ⟨⟨_, rfl, Alk.rf⟩, ?_⟩
  refine List.forall_mem_cons.mpr ⟨⟨_, rfl, Alk.rf⟩, ?_⟩
  refine List.forall_mem_cons.mpr ⟨⟨_, rfl, Alk.rf⟩, ?_⟩
  refine List.forall_mem_cons.mpr ⟨⟨_, rfl, Alk.rf⟩, ?_⟩
  refine List.forall_mem_cons.mpr ⟨⟨_, rfl, Alk.refs (fun j hj => ?_)⟩, ?_⟩
  · obtain rfl | rfl | rfl | rfl : j = 0 ∨ j = 1 ∨ j = 2 ∨ j = 3 := by omega
    all_goals rfl
  refine List.forall_mem_cons.mpr ⟨⟨_, rfl, Alk.rf⟩, ?_⟩
  refine List.forall_mem_cons.mpr ⟨⟨_, rfl, Alk.rf⟩, ?_⟩
  refine List.forall_mem_cons.mpr ⟨⟨_, rfl, Alk.rf⟩, ?_⟩
  refine List.forall_mem_cons.mpr ⟨⟨_, rfl, Alk.rf⟩, ?_⟩
  refine List.forall_mem_cons.mpr ⟨⟨_, rfl, Alk.rf⟩, ?_⟩
  refine List.forall_mem_cons.mpr ⟨⟨_, rfl, Alk.rf⟩, ?_⟩
  refine List.forall_mem_cons.mpr ⟨⟨_, rfl, Alk.rf⟩, ?_⟩
  refine List.forall_mem_cons.mpr ⟨⟨_, rfl, Alk.rf⟩, ?_⟩
  refine List.forall_mem_cons.mpr ⟨⟨_, rfl, Alk.rf⟩, ?_⟩
  refine List.forall_mem_cons.mpr ⟨⟨_, rfl, Alk.rf⟩, ?_⟩
  refine List.forall_mem_cons.mpr ⟨⟨_, rfl, Alk.rf⟩, ?_⟩
  refine List.forall_mem_cons.mpr ⟨⟨_, rfl, Alk.rf⟩, ?_⟩
  refine List.forall_mem_cons.mpr ⟨⟨_, rfl, Alk.rf⟩, ?_⟩
  refine List.forall_mem_cons.mpr ⟨⟨_, rfl, Alk.rf⟩, ?_⟩
  refine List.forall_mem_cons.mpr ⟨⟨_, rfl, Alk.rf⟩, ?_⟩
  refine List.forall_mem_cons.mpr ⟨⟨_, rfl, Alk.rf⟩, ?_⟩
  refine List.forall_mem_cons.mpr ⟨⟨_, rfl, Alk.rf⟩, ?_⟩
  refine List.forall_mem_cons.mpr ⟨⟨_, rfl, Alk.rf⟩, ?_⟩
  refine List.forall_mem_cons.mpr ⟨⟨_, rfl, Alk.rf⟩, ?_⟩
  refine List.forall_mem_cons.mpr ⟨⟨_, rfl, Alk.rf⟩, ?_⟩
  refine List.forall_mem_cons.mpr ⟨⟨_, rfl, Alk.rf⟩, ?_⟩
  refine List.forall_mem_cons.mpr ⟨⟨_, rfl, Alk.rf⟩, ?_⟩
  refine List.forall_mem_cons.mpr ⟨⟨_, rfl, Alk.rf⟩, ?_⟩
  refine List.forall_mem_cons.mpr ⟨⟨_, rfl, Alk.rf⟩, ?_⟩
  refine List.forall_mem_cons.mpr ⟨⟨_, rfl, Alk.rf⟩, ?_⟩
  exact fun c h => absurd h List.not_mem_nil
theorem w_s1 {x c c5 c10 : Nat × va_E} {b1 b2 b4 b6 b7 b8 b9 : va_W} : x :: ([] ++ b1 ++ b2 ++ [c] ++ b4 ++ [c5] ++ b6 ++ b7 ++ b8 ++ b9 ++ [c10]) = x :: ((b1 ++ b2) ++ c :: (b4 ++ [c5] ++ b6 ++ b7 ++ b8 ++ b9 ++ [c10])) := by simp
theorem w_s2 {x c c5 c10 : Nat × va_E} {l1 b4 b6 b7 b8 b9 t0 t1 t2 t3 t4 t5 : va_W} : x :: (l1 ++ c :: ((b4 ++ [c5] ++ b6 ++ b7 ++ b8 ++ b9 ++ [c10]) ++ t0 ++ t1 ++ t2 ++ t3 ++ t4 ++ t5)) = x :: ((l1 ++ c :: b4) ++ c5 :: (b6 ++ b7 ++ b8 ++ b9 ++ [c10] ++ t0 ++ t1 ++ t2 ++ t3 ++ t4 ++ t5)) := by simp
set_option maxHeartbeats 8000000 in
set_option maxRecDepth 100000 in
theorem wA_flat {cy : Nat → ClassId} {a0 : Nat} {q : Nat → Nat} {u : Nat → Nat → Nat} {p : Nat → Nat} {v : Nat → Nat → Nat} {r : Nat → Nat} {w : Nat → Nat → Nat} : (a0, .inr (9, fA0 q)) :: (((bH cy (q 0) (u 0) ++ bH cy (q 1) (u 1)) ++ (q 2, .inl (cy 3, 6, .inr (.inr (.inr (.inr (refL [some (p 0), some (p 1), some (p 2), some (p 3), some (p 4), some (p 5)])))))) :: bR cy (q 3) (u 3)) ++ (q 4, .inl (cy 4, 4, .inr (.inr (.inr (.inr (refL [some (r 0), some (r 1), some (r 2), some (r 3)])))))) :: (bM cy (q 5) (u 5) ++ bW cy (q 6) (u 6) ++ bP cy (q 7) (u 7) ++ bMM cy (q 8) ++ [(q 9, .inl (cy 0, 6, .inl (fun _ => 0)))] ++ bT cy (p 0) (v 0) ++ bT cy (p 1) (v 1) ++ bT cy (p 2) (v 2) ++ bT cy (p 3) (v 3) ++ bT cy (p 4) (v 4) ++ bT cy (p 5) (v 5) ++ bS cy (r 0) (w 0) ++ bS cy (r 1) (w 1) ++ bS cy (r 2) (w 2) ++ bS cy (r 3) (w 3))) = wAf cy a0 q u p v r w := by
  simp only [wAf, bH, bG, bR, bTp, bM, bW, bP, bMM, bT, bS, List.cons_append, List.nil_append, List.append_assoc, Nat.zero_add, Nat.reduceAdd]
set_option maxHeartbeats 8000000 in
set_option maxRecDepth 100000 in
theorem cwA (l : Launch) (G : Glo) : CW l G 106 73 2982 yX9_init cX9_init 2 (.inr (9, [.null, .null, .int 0, .null, .int 0, .null, .null, .null, .null, .null, .null, .null])) ΩA (fun μ => ∃ x, (gText (tkT B0A 41) (tkV B0A 41)).bind (·.2) = some x ∧ InitA x μ) := by
  refine CW.intro (by decide) rfl (by decide) ?_
  intro φ a0 A hl hG F hO hCx hs
  subst hl
  subst hG
  refine A_rows F hO (fun q u => ?_)
  refine NJ.world w_s1 ?_
  refine A1_rows F (qt := q 2) rfl (fun p v => ?_)
  refine NJ.world w_s2 ?_
  refine A2_rows F (qt := q 4) rfl (fun r w => ?_)
  refine NJ.world wA_flat ?_
  obtain ⟨x, μ1, μ2, i1, i2, i3, i4⟩ := initA
  have h0 : ∀ H locs, CI φ A (wAf (gl φ).2.2.1 a0 q u p v r w) H locs → TE φ cX9_init RX9 2 A ΩA (adA a0 q u p v r w) ∧ TI φ A ΩA (adA a0 q u p v r w) μ0A H locs := by
    intro H locs h
    obtain ⟨a1, a2, a3⟩ := re_world (Ω := ΩA) (G := (adA a0 q u p v r w, (gl φ).2)) (μ := μ0A) (π := piA) (by rw [lA_eq]; exact wAf_ok (gl φ).2 a0 q u p v r w) (by rw [lA_eq]; exact piA_inj) h.2.1
    exact ⟨⟨F, hCx, ΩA_nd, a1, a2, fun z hz hA => ⟨(0, 0), mA0, (hs z hz hA).trans rfl⟩⟩, a3 H h.1, h.2.2⟩
  intro H locs aa hI hl0
  obtain ⟨E, hT⟩ := h0 H locs hI
  revert H locs aa
  suffices hh : NJ φ (rmC 106 73 2982) _ (TI φ A ΩA (adA a0 q u p v r w) μ0A) 73 2982 2 170 [some (.ref a0), some (.int 4)] [] from fun H locs aa _ hl0 hT => hh H locs aa hT hl0
  refine NJ.aload_n (i := 0) (x := a0) E.1.1 dX9_init_170 rfl rfl ?_
  refine NJ.tget (f := 0) (i := 0) (ci := 9) (kf := 5) (N := 12) (C := RX9) (T := TX9) E mA0 rfl rfl (by decide) in_RX9 wd_433 rfl dX9_init_171 ?_
  refine NJ.tget (f := 9) (i := 0) (ci := 4) (kf := 0) (N := 5) (C := RX4) (T := TX4) E mA9 rfl rfl (by decide) in_RX4 fl_RX9_78 rfl dX9_init_174 ?_
  refine NJ.ldcS (q := (gl φ).2.2.2.1 0) E.1.1 (hCx.2.2.1.2.1 0 (by decide)) dX9_init_177 ?_
  refine NJ.tcall (As := [.ref ((gl φ).2.2.2.1 0)]) (f := 10) (i := 0) (ci := 6) E ck_RX9_84 (Ta_write_ct (by decide) i2) (by decide) rfl mA10 rfl rfl rfl (Nat.le_of_ble_eq_true rfl) (Nat.le_refl _) (Nat.le_refl _) dX9_init_179 ?_
  refine NJ.aload_n (i := 0) (x := a0) E.1.1 dX9_init_182 rfl rfl ?_
  refine NJ.tget (f := 0) (i := 0) (ci := 9) (kf := 5) (N := 12) (C := RX9) (T := TX9) E mA0 rfl rfl (by decide) in_RX9 wd_433 rfl dX9_init_183 ?_
  refine NJ.aload_n (i := 0) (x := a0) E.1.1 dX9_init_186 rfl rfl ?_
  refine NJ.tget (f := 0) (i := 0) (ci := 9) (kf := 3) (N := 12) (C := RX9) (T := TX9) E mA0 rfl rfl (by decide) in_RX9 wd_431 rfl dX9_init_187 ?_
  refine NJ.iconst (v := 0) E.1.1 dX9_init_190 rfl ?_
  refine NJ.taald 5 0 (f := 4) (i := 0) (t0 := 3) E mA4 rfl rfl (by decide) rfl dX9_init_191 ?_
  refine NJ.tcall (As := [.ref (adA a0 q u p v r w 5 0)]) (f := 9) (i := 0) (ci := 4) E ck_RX9_90 (Re_read_ct (by decide) i3) (by decide) rfl mA9 rfl rfl rfl (Nat.le_of_ble_eq_true rfl) (Nat.le_refl _) (Nat.le_refl _) dX9_init_192 ?_
  refine NJ.pop E.1.1 dX9_init_195 rfl ?_
  refine NJ.aload_n (i := 0) (x := a0) E.1.1 dX9_init_196 rfl rfl ?_
  refine NJ.iconst (v := 1) E.1.1 dX9_init_197 rfl ?_
  refine NJ.tput (f := 0) (i := 0) (ci := 9) (kf := 4) (N := 12) (C := RX9) (T := TX9) (ty := tyX9 4) (μ' := up μ2 0 0 4 1) E mA0 rfl rfl (by decide) in_RX9 tyX9 tyX9_ok nmX9 wd_432 rfl (tyX9_ok 4 (by decide)) (by exact rfl) (by exact rfl) (Nat.le_of_ble_eq_true rfl) rfl (fun f' i' _ h => by rw [up_off μ2 1 (fun z => h (by rw [z.1, z.2]))]; rfl) dX9_init_198 ?_
  exact NJ.twret E ⟨x, i1, i4⟩ rfl (Nat.le_refl _) (Nat.le_refl _) dX9_init_201
def adB (a0 : Nat) (q : Nat → Nat) : Nat → Nat → Nat := fun f i => ([fun _ => a0, fun _ => q 0, fun _ => q 1, fun _ => q 2, fun _ => q 3, fun _ => q 4, fun _ => q 5, fun _ => q 6, fun _ => q 7, fun _ => q 8, fun _ => q 9, fun _ => q 10, fun _ => q 11, fun _ => q 12, fun _ => q 13, fun _ => q 14, fun _ => q 15] : List (Nat → Nat)).getD f (fun _ => 0) i
def wBf (cy : Nat → ClassId) (a0 : Nat) (q : Nat → Nat) : va_W := [(a0, .inr (10, fB0 q)), (q 0, .inl (cy 0, 960, .inl (fun _ => 0))), (q 1, .inl (cy 0, 6, .inl (fun _ => 0))), (q 2, .inl (cy 0, 160, .inl (fun _ => 0))), (q 3, .inl (cy 0, 6, .inl (fun _ => 0))), (q 4, .inl (cy 0, 18, .inl (fun _ => 0))), (q 5, .inl (cy 0, 6, .inl (fun _ => 0))), (q 6, .inl (cy 0, 36, .inl (fun _ => 0))), (q 7, .inl (cy 0, 6, .inl (fun _ => 0))), (q 8, .inl (cy 0, 6, .inl (fun _ => 0))), (q 9, .inl (cy 0, 6, .inl (fun _ => 0))), (q 10, .inl (cy 0, 18, .inl (fun _ => 0))), (q 11, .inl (cy 0, 6, .inl (fun _ => 0))), (q 12, .inl (cy 1, 4, .inl (fun _ => 0))), (q 13, .inl (cy 0, 4, .inl (fun _ => 0))), (q 14, .inl (cy 0, 4, .inl (fun _ => 0))), (q 15, .inl (cy 0, 160, .inl (fun _ => 0)))]
set_option maxHeartbeats 8000000 in
set_option maxRecDepth 100000 in
theorem wB_flat {cy : Nat → ClassId} {a0 : Nat} {q : Nat → Nat} {u : Nat → Nat → Nat} : wB0 cy a0 q u = wBf cy a0 q := by
  simp only [wB0, wBf, List.cons_append, List.nil_append, List.append_assoc]
def lB : List (Nat × Nat) := [(0, 0), (1, 0), (2, 0), (3, 0), (4, 0), (5, 0), (6, 0), (7, 0), (8, 0), (9, 0), (10, 0), (11, 0), (12, 0), (13, 0), (14, 0), (15, 0), (16, 0)]
theorem lB_eq : ΩB.1 = lB := by decide +kernel
theorem piB_inj : ∀ c ∈ lB, ∀ c' ∈ lB, (fun f _ => f : Nat → Nat → Nat) c.1 c.2 = (fun f _ => f : Nat → Nat → Nat) c'.1 c'.2 → c = c' := by decide +kernel
set_option maxHeartbeats 8000000 in
set_option maxRecDepth 100000 in
theorem wBf_ok (g : va_G × (Nat → ClassId) × (Nat → Nat) × (Nat → Nat) × Nat) (a0 : Nat) (q : Nat → Nat) : ∀ c ∈ lB, ∃ z, (wBf g.2.1 a0 q)[(fun f _ => f : Nat → Nat → Nat) c.1 c.2]? = some z ∧ Alk g.1 z (adB a0 q c.1 c.2, entB (adB a0 q) g.2.1 (μ0B.1 c.1 c.2) μ0B.2 c.2 c.1) := by
  unfold lB
  refine List.forall_mem_cons.mpr ⟨⟨_, rfl, Alk.rf⟩, ?_⟩
  refine List.forall_mem_cons.mpr ⟨⟨_, rfl, Alk.rf⟩, ?_⟩
  refine List.forall_mem_cons.mpr ⟨⟨_, rfl, Alk.rf⟩, ?_⟩
  refine List.forall_mem_cons.mpr ⟨⟨_, rfl, Alk.rf⟩, ?_⟩
  refine List.forall_mem_cons.mpr ⟨⟨_, rfl, Alk.rf⟩, ?_⟩
  refine List.forall_mem_cons.mpr ⟨⟨_, rfl, Alk.rf⟩, ?_⟩
  refine List.forall_mem_cons.mpr ⟨⟨_, rfl, Alk.rf⟩, ?_⟩
  refine List.forall_mem_cons.mpr ⟨⟨_, rfl, Alk.rf⟩, ?_⟩
  refine List.forall_mem_cons.mpr ⟨⟨_, rfl, Alk.rf⟩, ?_⟩
  refine List.forall_mem_cons.mpr ⟨⟨_, rfl, Alk.rf⟩, ?_⟩
  refine List.forall_mem_cons.mpr ⟨⟨_, rfl, Alk.rf⟩, ?_⟩
  refine List.forall_mem_cons.mpr ⟨⟨_, rfl, Alk.rf⟩, ?_⟩
  refine List.forall_mem_cons.mpr ⟨⟨_, rfl, Alk.rf⟩, ?_⟩
  refine List.forall_mem_cons.mpr ⟨⟨_, rfl, Alk.rf⟩, ?_⟩
  refine List.forall_mem_cons.mpr ⟨⟨_, rfl, Alk.rf⟩, ?_⟩
  refine List.forall_mem_cons.mpr ⟨⟨_, rfl, Alk.rf⟩, ?_⟩
  refine List.forall_mem_cons.mpr ⟨⟨_, rfl, Alk.rf⟩, ?_⟩
  exact fun c h => absurd h List.not_mem_nil
set_option maxHeartbeats 8000000 in
set_option maxRecDepth 100000 in
theorem cwB (l : Launch) (G : Glo) {x : List Int32 × List Int32 × List Int32} (hx : (gText (tkT B0A 41) (tkV B0A 41)).bind (·.2) = some x) : CW l G 2 16 1406 yX10_init cX10_init 1 (.inr (10, [.int 0, .null, .null, .int 0, .int 0, .null, .int 0, .int 0, .int 0, .null, .null, .null, .int 0, .int 0, .int 0, .int 0, .int 0, .int 0, .int 0, .int 0, .int 0, .int 0, .int 0, .int 0, .long 0, .int 0, .int 0, .int 0, .int 0, .int 0, .int 0, .null, .int 0, .int 0, .int 0, .int 0, .int 0, .null, .null, .null, .null, .null, .int 0, .int 0, .int 0, .int 0, .null, .null, .null, .null])) ΩB (InitM x) := by
  refine CW.intro (by decide) rfl (by decide) ?_
  intro φ a0 A hl hG F hO hCx hs
  subst hl
  subst hG
  refine B_rows F (fun q u => ?_)
  refine NJ.world wB_flat ?_
  obtain ⟨ν1, ν2, ν3, ν4, ν5, ν6, i1, i2, i3, i4, i5, i6, i7⟩ := initM hx
  have h0 : ∀ H locs, CI φ A (wBf (gl φ).2.2.1 a0 q) H locs → TE φ cX10_init RX10 1 A ΩB (adB a0 q) ∧ TI φ A ΩB (adB a0 q) μ0B H locs := by
    intro H locs h
    obtain ⟨a1, a2, a3⟩ := re_world (Ω := ΩB) (G := (adB a0 q, (gl φ).2)) (μ := μ0B) (π := fun f _ => f) (by rw [lB_eq]; exact wBf_ok (gl φ).2 a0 q) (by rw [lB_eq]; exact piB_inj) h.2.1
    exact ⟨⟨F, hCx, ΩB_nd, a1, a2, fun z hz hA => ⟨(0, 0), mB0, (hs z hz hA).trans rfl⟩⟩, a3 H h.1, h.2.2⟩
  intro H locs aa hI hl0
  obtain ⟨E, hT⟩ := h0 H locs hI
  revert H locs aa
  suffices hh : NJ φ (rmC 2 16 1406) _ (TI φ A ΩB (adB a0 q) μ0B) 16 1406 1 143 [some (.ref a0)] [] from fun H locs aa _ hl0 hT => hh H locs aa hT hl0
  refine NJ.aload_n (i := 0) (x := a0) E.1.1 dX10_init_143 rfl rfl ?_
  refine NJ.iconst (v := 0) E.1.1 dX10_init_144 rfl ?_
  refine NJ.bipush (v := 104) E.1.1 dX10_init_145 (by decide) ?_
  refine NJ.bipush (v := 101) E.1.1 dX10_init_147 (by decide) ?_
  refine NJ.bipush (v := 97) E.1.1 dX10_init_149 (by decide) ?_
  refine NJ.bipush (v := 116) E.1.1 dX10_init_151 (by decide) ?_
  refine NJ.bipush (v := 115) E.1.1 dX10_init_153 (by decide) ?_
  refine NJ.bipush (v := 32) E.1.1 dX10_init_155 (by decide) ?_
  refine NJ.bipush (v := 55) E.1.1 dX10_init_157 (by decide) ?_
  refine NJ.bipush (v := 32) E.1.1 dX10_init_159 (by decide) ?_
  refine NJ.tcall (As := [.int 0, .int 104, .int 101, .int 97, .int 116, .int 115, .int 32, .int 55, .int 32]) (f := 0) (i := 0) (ci := 10) E ck_RX10_69 (M_spell_ct i1) (by decide) rfl mB0 rfl rfl rfl (Nat.le_of_ble_eq_true rfl) (Nat.le_refl _) (Nat.le_refl _) dX10_init_161 ?_
  refine NJ.aload_n (i := 0) (x := a0) E.1.1 dX10_init_164 rfl rfl ?_
  refine NJ.bipush (v := 8) E.1.1 dX10_init_165 (by decide) ?_
  refine NJ.bipush (v := 59) E.1.1 dX10_init_167 (by decide) ?_
  refine NJ.bipush (v := 32) E.1.1 dX10_init_169 (by decide) ?_
  refine NJ.bipush (v := 99) E.1.1 dX10_init_171 (by decide) ?_
  refine NJ.bipush (v := 97) E.1.1 dX10_init_173 (by decide) ?_
  refine NJ.bipush (v := 108) E.1.1 dX10_init_175 (by decide) ?_
  refine NJ.bipush (v := 109) E.1.1 dX10_init_177 (by decide) ?_
  refine NJ.bipush (v := 115) E.1.1 dX10_init_179 (by decide) ?_
  refine NJ.bipush (v := 32) E.1.1 dX10_init_181 (by decide) ?_
  refine NJ.tcall (As := [.int 8, .int 59, .int 32, .int 99, .int 97, .int 108, .int 109, .int 115, .int 32]) (f := 0) (i := 0) (ci := 10) E ck_RX10_69 (M_spell_ct i2) (by decide) rfl mB0 rfl rfl rfl (Nat.le_of_ble_eq_true rfl) (Nat.le_refl _) (Nat.le_refl _) dX10_init_183 ?_
  refine NJ.aload_n (i := 0) (x := a0) E.1.1 dX10_init_186 rfl rfl ?_
  refine NJ.bipush (v := 16) E.1.1 dX10_init_187 (by decide) ?_
  refine NJ.bipush (v := 116) E.1.1 dX10_init_189 (by decide) ?_
  refine NJ.bipush (v := 104) E.1.1 dX10_init_191 (by decide) ?_
  refine NJ.bipush (v := 105) E.1.1 dX10_init_193 (by decide) ?_
  refine NJ.bipush (v := 110) E.1.1 dX10_init_195 (by decide) ?_
  refine NJ.bipush (v := 103) E.1.1 dX10_init_197 (by decide) ?_
  refine NJ.bipush (v := 32) E.1.1 dX10_init_199 (by decide) ?_
  refine NJ.bipush (v := 59) E.1.1 dX10_init_201 (by decide) ?_
  refine NJ.bipush (v := 32) E.1.1 dX10_init_203 (by decide) ?_
  refine NJ.tcall (As := [.int 16, .int 116, .int 104, .int 105, .int 110, .int 103, .int 32, .int 59, .int 32]) (f := 0) (i := 0) (ci := 10) E ck_RX10_69 (M_spell_ct i3) (by decide) rfl mB0 rfl rfl rfl (Nat.le_of_ble_eq_true rfl) (Nat.le_refl _) (Nat.le_refl _) dX10_init_205 ?_
  refine NJ.aload_n (i := 0) (x := a0) E.1.1 dX10_init_208 rfl rfl ?_
  refine NJ.bipush (v := 24) E.1.1 dX10_init_209 (by decide) ?_
  refine NJ.bipush (v := 102) E.1.1 dX10_init_211 (by decide) ?_
  refine NJ.bipush (v := 101) E.1.1 dX10_init_213 (by decide) ?_
  refine NJ.bipush (v := 101) E.1.1 dX10_init_215 (by decide) ?_
  refine NJ.bipush (v := 108) E.1.1 dX10_init_217 (by decide) ?_
  refine NJ.bipush (v := 115) E.1.1 dX10_init_219 (by decide) ?_
  refine NJ.bipush (v := 32) E.1.1 dX10_init_221 (by decide) ?_
  refine NJ.bipush (v := 116) E.1.1 dX10_init_223 (by decide) ?_
  refine NJ.bipush (v := 104) E.1.1 dX10_init_225 (by decide) ?_
  refine NJ.tcall (As := [.int 24, .int 102, .int 101, .int 101, .int 108, .int 115, .int 32, .int 116, .int 104]) (f := 0) (i := 0) (ci := 10) E ck_RX10_69 (M_spell_ct i4) (by decide) rfl mB0 rfl rfl rfl (Nat.le_of_ble_eq_true rfl) (Nat.le_refl _) (Nat.le_refl _) dX10_init_227 ?_
  refine NJ.aload_n (i := 0) (x := a0) E.1.1 dX10_init_230 rfl rfl ?_
  refine NJ.bipush (v := 32) E.1.1 dX10_init_231 (by decide) ?_
  refine NJ.bipush (v := 105) E.1.1 dX10_init_233 (by decide) ?_
  refine NJ.bipush (v := 110) E.1.1 dX10_init_235 (by decide) ?_
  refine NJ.bipush (v := 103) E.1.1 dX10_init_237 (by decide) ?_
  refine NJ.bipush (v := 32) E.1.1 dX10_init_239 (by decide) ?_
  refine NJ.bipush (v := 42) E.1.1 dX10_init_241 (by decide) ?_
  refine NJ.bipush (v := 32) E.1.1 dX10_init_243 (by decide) ?_
  refine NJ.bipush (v := 51) E.1.1 dX10_init_245 (by decide) ?_
  refine NJ.bipush (v := 32) E.1.1 dX10_init_247 (by decide) ?_
  refine NJ.tcall (As := [.int 32, .int 105, .int 110, .int 103, .int 32, .int 42, .int 32, .int 51, .int 32]) (f := 0) (i := 0) (ci := 10) E ck_RX10_69 (M_spell_ct i5) (by decide) rfl mB0 rfl rfl rfl (Nat.le_of_ble_eq_true rfl) (Nat.le_refl _) (Nat.le_refl _) dX10_init_249 ?_
  refine NJ.aload_n (i := 0) (x := a0) E.1.1 dX10_init_252 rfl rfl ?_
  refine NJ.bipush (v := 40) E.1.1 dX10_init_253 (by decide) ?_
  refine NJ.bipush (v := 59) E.1.1 dX10_init_255 (by decide) ?_
  refine NJ.bipush (v := 32) E.1.1 dX10_init_257 (by decide) ?_
  refine NJ.bipush (v := 32) E.1.1 dX10_init_259 (by decide) ?_
  refine NJ.bipush (v := 32) E.1.1 dX10_init_261 (by decide) ?_
  refine NJ.bipush (v := 32) E.1.1 dX10_init_263 (by decide) ?_
  refine NJ.bipush (v := 32) E.1.1 dX10_init_265 (by decide) ?_
  refine NJ.bipush (v := 32) E.1.1 dX10_init_267 (by decide) ?_
  refine NJ.bipush (v := 32) E.1.1 dX10_init_269 (by decide) ?_
  refine NJ.tcall (As := [.int 40, .int 59, .int 32, .int 32, .int 32, .int 32, .int 32, .int 32, .int 32]) (f := 0) (i := 0) (ci := 10) E ck_RX10_69 (M_spell_ct i6) (by decide) rfl mB0 rfl rfl rfl (Nat.le_of_ble_eq_true rfl) (Nat.le_refl _) (Nat.le_refl _) dX10_init_271 ?_
  refine NJ.aload_n (i := 0) (x := a0) E.1.1 dX10_init_274 rfl rfl ?_
  refine NJ.tget (f := 0) (i := 0) (ci := 10) (kf := 2) (N := 50) (C := RX10) (T := TX10) E mB0 rfl rfl (by decide) in_RX10 wd_845 rfl dX10_init_275 ?_
  refine NJ.iconst (v := 0) E.1.1 dX10_init_278 rfl ?_
  refine NJ.bipush (v := 48) E.1.1 dX10_init_279 (by decide) ?_
  refine NJ.tiast (f := 2) (i := 0) (t0 := 0) E mB2 (fun _ => rfl) rfl (by decide) dX10_init_281 ?_
  refine NJ.aload_n (i := 0) (x := a0) E.1.1 dX10_init_282 rfl rfl ?_
  refine NJ.iconst (v := 1) E.1.1 dX10_init_283 rfl ?_
  refine NJ.tput (f := 0) (i := 0) (ci := 10) (kf := 3) (N := 50) (C := RX10) (T := TX10) (ty := tyX10 3) (μ' := up (up ν6 2 0 0 48) 0 0 3 1) E mB0 rfl rfl (by decide) in_RX10 tyX10 tyX10_ok nmX10 wd_846 rfl (tyX10_ok 3 (by decide)) (by exact rfl) (by exact rfl) (Nat.le_of_ble_eq_true rfl) rfl (fun f' i' _ h => by rw [up_off _ 1 (fun z => h (by rw [z.1, z.2]))]; rfl) dX10_init_284 ?_
  exact NJ.twret E i7 rfl (Nat.le_refl _) (Nat.le_refl _) dX10_init_287
