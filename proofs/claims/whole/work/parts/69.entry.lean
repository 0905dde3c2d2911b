/-! ===== what the law's entry knows (laid by wip/whole/g69.py) ===== -/
abbrev nwL : List Cond := flatC (Cond.and given_1 narrow_1)
abbrev tmJ (i : Nat) : Term := .string (ownJS i) (idxJS i)
abbrev vlJ (i : Nat) : Term := .field (tmJ i) "java/lang/String" "value" "[B"
theorem nw_e : ∀ i, i < 13 → nwL[([51, 96, 106, 118, 131, 142, 155, 168, 184, 201, 219, 235, 253] : List Nat).getD i 0]? = some (Cond.exactly (tmJ i) "java/lang/String") := by decide +kernel
theorem nw_c : ∀ i, i < 13 → nwL[([52, 97, 107, 119, 132, 143, 156, 169, 185, 202, 220, 236, 254] : List Nat).getD i 0]? = some (Cond.eq (.field (tmJ i) "java/lang/String" "coder" "B") (.int 0)) := by decide +kernel
theorem nw_a : ∀ i, i < 13 → nwL[([53, 98, 108, 120, 133, 144, 157, 170, 186, 203, 221, 237, 255] : List Nat).getD i 0]? = some (Cond.arrayOf (vlJ i) .byte) := by decide +kernel
theorem nw_l : ∀ i, i < 13 → nwL[([54, 99, 109, 121, 134, 145, 158, 171, 187, 204, 222, 238, 256] : List Nat).getD i 0]? = some (Cond.eq (.length (vlJ i)) (.int (Int32.ofNat (lenJS.getD i 0)))) := by decide +kernel
theorem nw_x : ∀ i, i < 13 → ∀ j, j < lenJS.getD i 0 → nwL[([55, 100, 110, 122, 135, 146, 159, 172, 188, 205, 223, 239, 257] : List Nat).getD i 0 + j]? = some (Cond.eq (.elem (vlJ i) (.int (Int32.ofNat j))) (.int ((bytJS.getD i []).getD j 0))) := by decide +kernel
def pnJ (i j : Nat) : Nat := (([[0, 105, 116, 128, 138, 150, 162, 177, 193, 210, 225, 242, 260], [0, 0, 117, 129, 139, 151, 163, 178, 194, 211, 226, 243, 261], [0, 0, 0, 130, 140, 152, 164, 179, 195, 212, 227, 244, 262], [0, 0, 0, 0, 141, 153, 165, 180, 196, 213, 228, 245, 263], [0, 0, 0, 0, 0, 154, 166, 181, 197, 214, 229, 246, 264], [0, 0, 0, 0, 0, 0, 167, 182, 198, 215, 230, 247, 265], [0, 0, 0, 0, 0, 0, 0, 183, 199, 216, 231, 248, 266], [0, 0, 0, 0, 0, 0, 0, 0, 200, 217, 232, 249, 267], [0, 0, 0, 0, 0, 0, 0, 0, 0, 218, 233, 250, 268], [0, 0, 0, 0, 0, 0, 0, 0, 0, 0, 234, 251, 269], [0, 0, 0, 0, 0, 0, 0, 0, 0, 0, 0, 252, 270], [0, 0, 0, 0, 0, 0, 0, 0, 0, 0, 0, 0, 271], [0, 0, 0, 0, 0, 0, 0, 0, 0, 0, 0, 0, 0]] : List (List Nat)).getD i []).getD j 0
theorem nw_n : ∀ i, i < 13 → ∀ j, j < 13 → i ≠ j → nwL[pnJ i j]? = some (Cond.not (Cond.eq (tmJ i) (tmJ j))) ∨ nwL[pnJ j i]? = some (Cond.not (Cond.eq (tmJ j) (tmJ i))) := by decide +kernel
theorem nw_u : ∀ j, j < 6 → nwL[12 + j]? = some (Cond.eq (.elem (.static "SewnUp" "UNDER" "[I") (.int (Int32.ofNat j))) (.int (([-1, 0, 0, 1, 2, 0] : List Int32).getD j 0))) := by decide +kernel
set_option maxHeartbeats 4000000 in
set_option maxRecDepth 100000 in
theorem law_start {s : State} {args : Array Value} (hts : ∀ w ∈ lw_tbl, w.before args s = true) (hgv : (Jvm.Cond.and given_1 narrow_1).before args s = true) : ∃ G2 : va_G × (Nat → ClassId) × (Nat → Nat) × (Nat → Nat) × Nat, CxA (fun q => s.heap.size ≤ q) (fun _ _ => 0, G2) s s.heap ∧ EX s ∧ va_AA s := by
  have hs : ∀ {k : Nat} {w : Cond}, nwL[k]? = some w → w.before args s = true := fun h => flat_of_before _ hgv _ (List.mem_of_getElem? h)
  have hA : ∀ a : Nat, a < s.heap.size → ¬ s.heap.size ≤ a := fun a h => Nat.not_le.mpr h
  have hK0 : ∀ k : Nat, ∃ p : ClassId × (Nat → Nat), ∀ q : vw_C, vwCl[k]? = some q → u_Kn s q.1 q.2.1 q.2.2 p.1 p.2 := by
    intro k
    match k with
    | 0 =>
      obtain ⟨cC, iS, h⟩ := u_known (C := RX0) (T := TX0) (N := 5) (n := 5) hts (fun w h => (List.mem_filter.mp (in_RX0 w h)).1) (hts _ (List.mem_of_getElem? (i := 121) rfl))
      exact ⟨(cC, iS), fun q hq => by cases hq; exact h⟩
    | 1 =>
      obtain ⟨cC, iS, h⟩ := u_known (C := RX1) (T := TX1) (N := 5) (n := 5) hts (fun w h => (List.mem_filter.mp (in_RX1 w h)).1) (hts _ (List.mem_of_getElem? (i := 114) rfl))
      exact ⟨(cC, iS), fun q hq => by cases hq; exact h⟩
    | 2 =>
      obtain ⟨cC, iS, h⟩ := u_known (C := RX2) (T := TX2) (N := 10) (n := 10) hts (fun w h => (List.mem_filter.mp (in_RX2 w h)).1) (hts _ (List.mem_of_getElem? (i := 229) rfl))
      exact ⟨(cC, iS), fun q hq => by cases hq; exact h⟩
    | 3 =>
      obtain ⟨cC, iS, h⟩ := u_known (C := RX3) (T := TX3) (N := 4) (n := 4) hts (fun w h => (List.mem_filter.mp (in_RX3 w h)).1) (hts _ (List.mem_of_getElem? (i := 296) rfl))
      exact ⟨(cC, iS), fun q hq => by cases hq; exact h⟩
    | 4 =>
      obtain ⟨cC, iS, h⟩ := u_known (C := RX4) (T := TX4) (N := 5) (n := 5) hts (fun w h => (List.mem_filter.mp (in_RX4 w h)).1) (hts _ (List.mem_of_getElem? (i := 172) rfl))
      exact ⟨(cC, iS), fun q hq => by cases hq; exact h⟩
    | 5 =>
      obtain ⟨cC, iS, h⟩ := u_known (C := RX5) (T := TX5) (N := 3) (n := 3) hts (fun w h => (List.mem_filter.mp (in_RX5 w h)).1) (hts _ (List.mem_of_getElem? (i := 337) rfl))
      exact ⟨(cC, iS), fun q hq => by cases hq; exact h⟩
    | 6 =>
      obtain ⟨cC, iS, h⟩ := u_known (C := RX6) (T := TX6) (N := 6) (n := 6) hts (fun w h => (List.mem_filter.mp (in_RX6 w h)).1) (hts _ (List.mem_of_getElem? (i := 178) rfl))
      exact ⟨(cC, iS), fun q hq => by cases hq; exact h⟩
    | 7 =>
      obtain ⟨cC, iS, h⟩ := u_known (C := RX7) (T := TX7) (N := 3) (n := 3) hts (fun w h => (List.mem_filter.mp (in_RX7 w h)).1) (hts _ (List.mem_of_getElem? (i := 320) rfl))
      exact ⟨(cC, iS), fun q hq => by cases hq; exact h⟩
    | 8 =>
      obtain ⟨cC, iS, h⟩ := u_known (C := RX8) (T := TX8) (N := 4) (n := 4) hts (fun w h => (List.mem_filter.mp (in_RX8 w h)).1) (hts _ (List.mem_of_getElem? (i := 275) rfl))
      exact ⟨(cC, iS), fun q hq => by cases hq; exact h⟩
    | 9 =>
      obtain ⟨cC, iS, h⟩ := u_known (C := RX9) (T := TX9) (N := 12) (n := 12) hts (fun w h => (List.mem_filter.mp (in_RX9 w h)).1) (hts _ (List.mem_of_getElem? (i := 106) rfl))
      exact ⟨(cC, iS), fun q hq => by cases hq; exact h⟩
    | 10 =>
      obtain ⟨cC, iS, h⟩ := u_known (C := RX10) (T := TX10) (N := 50) (n := 50) hts (fun w h => (List.mem_filter.mp (in_RX10 w h)).1) (hts _ (List.mem_of_getElem? (i := 921) rfl))
      exact ⟨(cC, iS), fun q hq => by cases hq; exact h⟩
    | k + 11 => exact ⟨(0, fun _ => 0), fun q hq => by simp at hq⟩
  obtain ⟨dK, hdK⟩ := Classical.axiomOfChoice hK0
  obtain ⟨cI, kI, c0, iI, gI, qI⟩ := Cond.arrayClass_spec (hts _ (List.mem_of_getElem? (i := 208) rfl))
  obtain ⟨cZ, kZ, c1, iZ, gZ, qZ⟩ := Cond.arrayClass_spec (hts _ (List.mem_of_getElem? (i := 1080) rfl))
  have oG : va_AO "SewnUp$Groom" s := va_AO.of (hts _ (List.mem_of_getElem? (i := 120) rfl))
  have oT : va_AO "SewnUp$Text" s := va_AO.of (hts _ (List.mem_of_getElem? (i := 170) rfl))
  have oS : va_AO "SewnUp$Sheet" s := va_AO.of (hts _ (List.mem_of_getElem? (i := 227) rfl))
  have oA : va_AA s := (hts _ (List.mem_of_getElem? (i := 319) rfl))
  obtain ⟨c2, cG, kG, g1, -, g3, g4, g5⟩ := Cond.arrayOver_spec oG
  obtain ⟨c3, cT, kT, t1, -, t3, t4, t5⟩ := Cond.arrayOver_spec oT
  obtain ⟨c4, cS, kS, s1, -, s3, s4, s5⟩ := Cond.arrayOver_spec oS
  obtain ⟨c5, cA, kA, a1, -, a3, a4, a5⟩ := arrayOverA_spec oA
  obtain ⟨adK, adV, hvk, hev⟩ := vk_Sof (N := nJS) (tm := tmJ) (len := lenJS) (byt := bytJS) (A := fun q => s.heap.size ≤ q) (args := args) (s := s) (by decide) (fun i hi => hs (nw_e i hi)) (fun i hi => hs (nw_c i hi)) (fun i hi => hs (nw_a i hi)) (fun i hi => hs (nw_l i hi)) (fun i hi j hj => hs (nw_x i hi j hj)) (fun i j hi hj e => (nw_n i hi j hj e).imp (fun h => hs h) (fun h => hs h)) hA
  obtain ⟨ut, hu1, hu2⟩ := va_Tof (args := args) (s := s) (tm := .static "SewnUp" "UNDER" "[I") (ty := .int) (N := 6) (f := fun j => .int (([-1, 0, 0, 1, 2, 0] : List Int32).getD j 0)) (A := fun q => s.heap.size ≤ q) (by decide) (hs (k := 10) rfl) (va_eqt (hs (k := 11) rfl)) (fun j hj => va_eqt (hs (nw_u j hj))) hA
  have hZU : va_Z "SewnUp" "UNDER" "[I" (.ref ut) (fun q => s.heap.size ≤ q) s s.heap := va_Zref (hts _ (List.mem_of_getElem? (i := 919) rfl)) (hts _ (List.mem_of_getElem? (i := 87) rfl)) hu1 hA
  have hZC : va_Z "java/lang/String" "COMPACT_STRINGS" "Z" (.int 1) (fun q => s.heap.size ≤ q) s s.heap := va_Zof (hts _ (List.mem_of_getElem? (i := 369) rfl)) (hts _ (List.mem_of_getElem? (i := 97) rfl)) (va_eqt (hs (k := 4) rfl)) hA
  have hZS : va_Zq "jdk/internal/util/Preconditions" "SIOOBE_FORMATTER" "Ljava/util/function/BiFunction;" (fun q => s.heap.size ≤ q) s s.heap := va_Zqof (hts _ (List.mem_of_getElem? (i := 388) rfl)) (hts _ (List.mem_of_getElem? (i := 100) rfl)) (hs (k := 5) rfl) hA
  refine ⟨((fun k => (dK k).1, fun k => (dK k).2), fun k => [cI, cZ, cG, cT, cS, cA].getD k 0, adK, adV, ut), ⟨⟨fun k q hq => hdK k q hq, fun k q hq => ?_⟩, ⟨hZU, hu2⟩, ⟨hvk, fun i hi => ?_, hZC, hZS⟩, ?_⟩, ⟨fun w hw => ?_, oG, oT, oS⟩, oA⟩
  · match k, hq with
    | 0, hq => cases hq; exact ⟨fun n z => ⟨fun k h => (by cases h), kI, gI, c0, qI⟩, iI⟩
    | 1, hq => cases hq; exact ⟨fun n z => ⟨fun k h => (by cases h), kZ, gZ, c1, qZ⟩, iZ⟩
    | 2, hq => cases hq; exact ⟨fun n z => ⟨fun k h => (by cases h), kG, g3, c2, g4⟩, kG, c2, g3, g4, g1, g5⟩
    | 3, hq => cases hq; exact ⟨fun n z => ⟨fun k h => (by cases h), kT, t3, c3, t4⟩, kT, c3, t3, t4, t1, t5⟩
    | 4, hq => cases hq; exact ⟨fun n z => ⟨fun k h => (by cases h), kS, s3, c4, s4⟩, kS, c4, s3, s4, s1, s5⟩
    | 5, hq => cases hq; exact ⟨fun n z => ⟨fun k h => (by cases h), kA, a3, c5, a4⟩, a5⟩
    | k + 6, hq => simp [tysOf] at hq
  · refine vk_R.of (A := args) ?_ (hev i hi)
    obtain rfl | rfl | rfl | rfl | rfl | rfl | rfl | rfl | rfl | rfl | rfl | rfl | rfl : i = 0 ∨ i = 1 ∨ i = 2 ∨ i = 3 ∨ i = 4 ∨ i = 5 ∨ i = 6 ∨ i = 7 ∨ i = 8 ∨ i = 9 ∨ i = 10 ∨ i = 11 ∨ i = 12 := by have : i < 13 := hi; omega
    · exact (hts _ (List.mem_of_getElem? (i := 355) rfl))
    · exact (hts _ (List.mem_of_getElem? (i := 438) rfl))
    · exact (hts _ (List.mem_of_getElem? (i := 439) rfl))
    · exact (hts _ (List.mem_of_getElem? (i := 440) rfl))
    · exact (hts _ (List.mem_of_getElem? (i := 441) rfl))
    · exact (hts _ (List.mem_of_getElem? (i := 442) rfl))
    · exact (hts _ (List.mem_of_getElem? (i := 443) rfl))
    · exact (hts _ (List.mem_of_getElem? (i := 444) rfl))
    · exact (hts _ (List.mem_of_getElem? (i := 445) rfl))
    · exact (hts _ (List.mem_of_getElem? (i := 446) rfl))
    · exact (hts _ (List.mem_of_getElem? (i := 447) rfl))
    · exact (hts _ (List.mem_of_getElem? (i := 448) rfl))
    · exact (hts _ (List.mem_of_getElem? (i := 449) rfl))
  · exact va_Nw.of rfl (hts _ (List.mem_of_getElem? (i := 617) rfl))
  · simp only [nestL, List.mem_cons, List.not_mem_nil, or_false] at hw
    rcases hw with rfl | rfl | rfl | rfl | rfl | rfl | rfl | rfl
    · exact va_Nw.of rfl (hts _ (List.mem_of_getElem? (i := 122) rfl))
    · exact va_Nw.of rfl (hts _ (List.mem_of_getElem? (i := 173) rfl))
    · exact va_Nw.of rfl (hts _ (List.mem_of_getElem? (i := 179) rfl))
    · exact va_Nw.of rfl (hts _ (List.mem_of_getElem? (i := 230) rfl))
    · exact va_Nw.of rfl (hts _ (List.mem_of_getElem? (i := 276) rfl))
    · exact va_Nw.of rfl (hts _ (List.mem_of_getElem? (i := 297) rfl))
    · exact va_Nw.of rfl (hts _ (List.mem_of_getElem? (i := 321) rfl))
    · exact va_Nw.of rfl (hts _ (List.mem_of_getElem? (i := 338) rfl))
