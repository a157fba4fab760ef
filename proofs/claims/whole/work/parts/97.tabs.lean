/-! ===== what the Statement gives of the law's start ===== -/
theorem start_K {args : Array Value} {s : State} (hts : ∀ w ∈ lw_tbl, w.before args s = true) : ∃ (D : va_G) (cy : Nat → ClassId), Kx D cy s := by
  have hg : ∀ w ∈ gt, w.before args s = true := fun w hw => hts w (gt_tb hw)
  have h0 : ∀ ci : Nat, ∃ d : ClassId × (Nat → Nat), ∀ q : vw_C, vwCl[ci]? = some q → u_Kn s q.1 q.2.1 q.2.2 d.1 d.2 := fun ci => by
    match ci with
    | 0 =>
      obtain ⟨a, b, h⟩ := u_known hg uw0 (hg (.instantiable RX0 5) (gt_of 248 (by decide +kernel) rfl))
      exact ⟨(a, b), fun q hq => by have e := Option.some.inj ((rfl : vwCl[0]? = some (RX0, TX0, 5)).symm.trans hq); subst e; exact h⟩
    | 1 =>
      obtain ⟨a, b, h⟩ := u_known hg uw1 (hg (.instantiable RX1 17) (gt_of 254 (by decide +kernel) rfl))
      exact ⟨(a, b), fun q hq => by have e := Option.some.inj ((rfl : vwCl[1]? = some (RX1, TX1, 17)).symm.trans hq); subst e; exact h⟩
    | 2 =>
      obtain ⟨a, b, h⟩ := u_known hg uw2 (hg (.instantiable RX2 14) (gt_of 146 (by decide +kernel) rfl))
      exact ⟨(a, b), fun q hq => by have e := Option.some.inj ((rfl : vwCl[2]? = some (RX2, TX2, 14)).symm.trans hq); subst e; exact h⟩
    | 3 =>
      obtain ⟨a, b, h⟩ := u_known hg uw3 (hg (.instantiable RX3 9) (gt_of 140 (by decide +kernel) rfl))
      exact ⟨(a, b), fun q hq => by have e := Option.some.inj ((rfl : vwCl[3]? = some (RX3, TX3, 9)).symm.trans hq); subst e; exact h⟩
    | 4 =>
      obtain ⟨a, b, h⟩ := u_known hg uw4 (hg (.instantiable RX4 15) (gt_of 341 (by decide +kernel) rfl))
      exact ⟨(a, b), fun q hq => by have e := Option.some.inj ((rfl : vwCl[4]? = some (RX4, TX4, 15)).symm.trans hq); subst e; exact h⟩
    | 5 =>
      obtain ⟨a, b, h⟩ := u_known hg uw5 (hg (.instantiable RX5 8) (gt_of 347 (by decide +kernel) rfl))
      exact ⟨(a, b), fun q hq => by have e := Option.some.inj ((rfl : vwCl[5]? = some (RX5, TX5, 8)).symm.trans hq); subst e; exact h⟩
    | 6 =>
      obtain ⟨a, b, h⟩ := u_known hg uw6 (hg (.instantiable RX6 2) (gt_of 125 (by decide +kernel) rfl))
      exact ⟨(a, b), fun q hq => by have e := Option.some.inj ((rfl : vwCl[6]? = some (RX6, TX6, 2)).symm.trans hq); subst e; exact h⟩
    | 7 =>
      obtain ⟨a, b, h⟩ := u_known hg uw7 (hg (.instantiable RX7 13) (gt_of 117 (by decide +kernel) rfl))
      exact ⟨(a, b), fun q hq => by have e := Option.some.inj ((rfl : vwCl[7]? = some (RX7, TX7, 13)).symm.trans hq); subst e; exact h⟩
    | 8 =>
      obtain ⟨a, b, h⟩ := u_known hg uw8 (hg (.instantiable RX8 33) (gt_of 1263 (by decide +kernel) rfl))
      exact ⟨(a, b), fun q hq => by have e := Option.some.inj ((rfl : vwCl[8]? = some (RX8, TX8, 33)).symm.trans hq); subst e; exact h⟩
    | n + 9 =>
      exact ⟨(0, fun _ => 0), fun q hq => by
        have e : vwCl[n + 9]? = none := List.getElem?_eq_none (by show 9 ≤ n + 9; omega)
        rw [e] at hq
        cases hq⟩
  obtain ⟨d, hd⟩ := Classical.axiomOfChoice h0
  obtain ⟨cI, kI, pI, i1, i2, i3⟩ := Cond.arrayClass_spec (hg (.arrayClass .int) (gt_of 217 (by decide +kernel) rfl))
  obtain ⟨cB, kB, pB, b1, b2, b3⟩ := Cond.arrayClass_spec (hg (.arrayClass .byte) (gt_of 138 (by decide +kernel) rfl))
  obtain ⟨cL, kL, pL, l1, l2, l3⟩ := Cond.arrayClass_spec (hg (.arrayClass .long) (gt_of 1368 (by decide +kernel) rfl))
  have hO : (Cond.arrayOver (.array .int)).before args s = true := hts _ (List.mem_of_getElem? (i := 260) (by decide +kernel))
  obtain ⟨pG, cG, kG, g0, g1, g2, g3⟩ := Cond.arrayOver_specA hO
  refine ⟨(fun ci => (d ci).1, fun ci => (d ci).2), fun k => if k = 0 then cI else if k = 1 then cB else if k = 2 then cL else cG, ⟨fun c q hq => hd c q hq, fun k q hk => ?_⟩, fun w hw => ?_, hO⟩
  · match k, hk with
    | 0, hk => cases hk; exact ⟨fun n z => ⟨fun k h => (by cases h), kI, i2, pI, i3⟩, i1⟩
    | 1, hk => cases hk; exact ⟨fun n z => ⟨fun k h => (by cases h), kB, b2, pB, b3⟩, b1⟩
    | 2, hk => cases hk; exact ⟨fun n z => ⟨fun k h => (by cases h), kL, l2, pL, l3⟩, l1⟩
    | 3, hk => cases hk; exact ⟨fun n z => ⟨fun k h => (by cases h), kG, g1, pG, g2⟩, g3⟩
    | n + 4, hk => cases hk
  · simp only [nestI, List.mem_cons, List.not_mem_nil, or_false] at hw
    rcases hw with rfl | rfl | rfl | rfl | rfl | rfl | rfl | rfl
    · exact va_Nw.of rfl (hts _ (List.mem_of_getElem? (i := 126) (by decide +kernel)))
    · exact va_Nw.of rfl (hts _ (List.mem_of_getElem? (i := 147) (by decide +kernel)))
    · exact va_Nw.of rfl (hts _ (List.mem_of_getElem? (i := 249) (by decide +kernel)))
    · exact va_Nw.of rfl (hts _ (List.mem_of_getElem? (i := 255) (by decide +kernel)))
    · exact va_Nw.of rfl (hts _ (List.mem_of_getElem? (i := 342) (by decide +kernel)))
    · exact va_Nw.of rfl (hts _ (List.mem_of_getElem? (i := 348) (by decide +kernel)))
    · exact va_Nw.of rfl (hts _ (List.mem_of_getElem? (i := 380) (by decide +kernel)))
    · exact va_Nw.of rfl (hts _ (List.mem_of_getElem? (i := 432) (by decide +kernel)))
def flN : List Cond := flatC (Jvm.Cond.and given_1 narrow_1)
def tmL : List (String × Nat) := [(RX3, 64), (RX3, 90), (RX3, 104), (RX3, 108), (RX3, 77), (RX3, 79), (RX3, 119), (RX3, 124), (RX3, 129), (RX7, 294)]
def tmS (i : Nat) : Term := .string (tmL.getD i ("", 0)).1 (tmL.getD i ("", 0)).2
def pX1 : List Nat := [20, 27, 36, 48, 61, 74, 86, 100, 115, 131]
def pX2 : List Nat := [21, 28, 37, 49, 62, 75, 87, 101, 116, 132]
def pX3 : List Nat := [22, 29, 38, 50, 63, 76, 88, 102, 117, 133]
def pX4 : List Nat := [23, 30, 39, 51, 64, 77, 89, 103, 118, 134]
def pX5 : List (List Nat) := [[24, 25, 26], [31, 32, 33, 34], [40, 41, 42, 43, 44, 45], [52, 53, 54, 55, 56, 57], [65, 66, 67, 68, 69], [78, 79, 80], [90, 91, 92, 93], [104, 105, 106, 107], [119, 120, 121, 122], [135, 136, 137, 138, 139, 140, 141, 142, 143, 144, 145, 146, 147]]
def pX6 : List (List Nat) := [[0, 35, 46, 58, 70, 81, 94, 108, 123, 148], [35, 0, 47, 59, 71, 82, 95, 109, 124, 149], [46, 47, 0, 60, 72, 83, 96, 110, 125, 150], [58, 59, 60, 0, 73, 84, 97, 111, 126, 151], [70, 71, 72, 73, 0, 85, 98, 112, 127, 152], [81, 82, 83, 84, 85, 0, 99, 113, 128, 153], [94, 95, 96, 97, 98, 99, 0, 114, 129, 154], [108, 109, 110, 111, 112, 113, 114, 0, 130, 155], [123, 124, 125, 126, 127, 128, 129, 130, 0, 156], [148, 149, 150, 151, 152, 153, 154, 155, 156, 0]]
theorem fl1 : ∀ i, i < 10 → flN[pX1.getD i 0]? = some (Cond.exactly (tmS i) "java/lang/String") := by decide +kernel
theorem fl2 : ∀ i, i < 10 → flN[pX2.getD i 0]? = some (Cond.eq (.field (tmS i) "java/lang/String" "coder" "B") (.int 0)) := by decide +kernel
theorem fl3 : ∀ i, i < 10 → flN[pX3.getD i 0]? = some (Cond.arrayOf (.field (tmS i) "java/lang/String" "value" "[B") .byte) := by decide +kernel
theorem fl4 : ∀ i, i < 10 → flN[pX4.getD i 0]? = some (Cond.eq (.length (.field (tmS i) "java/lang/String" "value" "[B")) (.int (Int32.ofNat (lenS.getD i 0)))) := by decide +kernel
theorem fl5 : ∀ i, i < 10 → ∀ j, j < lenS.getD i 0 → flN[(pX5.getD i []).getD j 0]? = some (Cond.eq (.elem (.field (tmS i) "java/lang/String" "value" "[B") (.int (Int32.ofNat j))) (.int ((bytS.getD i []).getD j 0))) := by decide +kernel
theorem fl6 : ∀ i, i < 10 → ∀ j, j < 10 → i ≠ j → flN[(pX6.getD i []).getD j 0]? = some (Cond.not (Cond.eq (tmS i) (tmS j))) ∨ flN[(pX6.getD i []).getD j 0]? = some (Cond.not (Cond.eq (tmS j) (tmS i))) := by decide +kernel
theorem lenS_s : ∀ i, i < 10 → lenS.getD i 0 < 2 ^ 31 := by decide +kernel
theorem start_E {args : Array Value} {s : State} {A : Nat → Prop} (hts : ∀ w ∈ lw_tbl, w.before args s = true) (hg : (Jvm.Cond.and given_1 narrow_1).before args s = true) (hA : ∀ a : Nat, a < s.heap.size → ¬ A a) : ∃ adK adV : Nat → Nat,
    ((∀ w ∈ nestL, va_Nw w s) ∧ (∀ q ∈ strL, vk_R q.1 q.2.1 q.2.2.1 (adK q.2.2.2) s) ∧ vk_S 10 lenS bytS adK adV A s s.heap ∧ va_Z "java/lang/String" "COMPACT_STRINGS" "Z" (.int 1) A s s.heap ∧ va_Zq "jdk/internal/util/Preconditions" "SIOOBE_FORMATTER" "Ljava/util/function/BiFunction;" A s s.heap) ∧ (vx_Zq Bundle.tN "UNASSIGNED_STACK" Bundle.steD A s s.heap ∧ vx_Zq Bundle.tN "SUPPRESSED_SENTINEL" Bundle.listD A s s.heap ∧ ∀ w ∈ nsB, va_Nw w s) := by
  have hF : ∀ w ∈ flN, w.before args s = true := flat_of_before _ hg
  have at_ : ∀ {i : Nat} {w : Cond}, flN[i]? = some w → w.before args s = true := fun h => hF _ (List.mem_of_getElem? h)
  have tb : ∀ {i : Nat} {w : Cond}, lw_tbl[i]? = some w → w.before args s = true := fun h => hts _ (List.mem_of_getElem? h)
  obtain ⟨adK, adV, hS, hT⟩ := vk_Sof (N := 10) (tm := tmS) (len := lenS) (byt := bytS) (A := A) lenS_s (fun i hi => at_ (fl1 i hi)) (fun i hi => at_ (fl2 i hi)) (fun i hi => at_ (fl3 i hi)) (fun i hi => at_ (fl4 i hi)) (fun i hi j hj => at_ (fl5 i hi j hj)) (fun i j hi hj h => by
    rcases fl6 i hi j hj h with z | z
    · exact Or.inl (at_ z)
    · exact Or.inr (at_ z)) hA
  refine ⟨adK, adV, ⟨fun w hw => ?_, fun q hq => ?_, hS, ?_, ?_⟩, ?_, ?_, fun w hw => ?_⟩
  · simp only [nestL, List.mem_cons, List.not_mem_nil, or_false] at hw
    rcases hw with rfl | rfl | rfl | rfl | rfl | rfl | rfl
    · exact va_Nw.of rfl (tb (i := 852) (by decide +kernel))
    · exact va_Nw.of rfl (tb (i := 817) (by decide +kernel))
    · exact va_Nw.of rfl (tb (i := 641) (by decide +kernel))
    · exact va_Nw.of rfl (tb (i := 739) (by decide +kernel))
    · exact va_Nw.of rfl (tb (i := 761) (by decide +kernel))
    · exact va_Nw.of rfl (tb (i := 1154) (by decide +kernel))
    · exact va_Nw.of rfl (tb (i := 996) (by decide +kernel))
  · simp only [strL, List.mem_cons, List.not_mem_nil, or_false] at hq
    rcases hq with rfl | rfl | rfl | rfl | rfl | rfl | rfl | rfl | rfl | rfl | rfl | rfl | rfl | rfl | rfl | rfl | rfl | rfl | rfl
    · exact vk_R.of (A := args) (tb (i := 533) (by decide +kernel)) (hT 0 (by decide))
    · exact vk_R.of (A := args) (tb (i := 597) (by decide +kernel)) (hT 1 (by decide))
    · exact vk_R.of (A := args) (tb (i := 606) (by decide +kernel)) (hT 2 (by decide))
    · exact vk_R.of (A := args) (tb (i := 607) (by decide +kernel)) (hT 3 (by decide))
    · exact vk_R.of (A := args) (tb (i := 608) (by decide +kernel)) (hT 4 (by decide))
    · exact vk_R.of (A := args) (tb (i := 609) (by decide +kernel)) (hT 5 (by decide))
    · exact vk_R.of (A := args) (tb (i := 626) (by decide +kernel)) (hT 6 (by decide))
    · exact vk_R.of (A := args) (tb (i := 631) (by decide +kernel)) (hT 7 (by decide))
    · exact vk_R.of (A := args) (tb (i := 636) (by decide +kernel)) (hT 8 (by decide))
    · exact vk_R.of (A := args) (tb (i := 1408) (by decide +kernel)) (va_eqR (t := tmS 0) (at_ (i := 164) (by decide +kernel)) (hT 0 (by decide)))
    · exact vk_R.of (A := args) (tb (i := 1423) (by decide +kernel)) (va_eqR (t := tmS 1) (at_ (i := 183) (by decide +kernel)) (hT 1 (by decide)))
    · exact vk_R.of (A := args) (tb (i := 1432) (by decide +kernel)) (va_eqR (t := tmS 2) (at_ (i := 205) (by decide +kernel)) (hT 2 (by decide)))
    · exact vk_R.of (A := args) (tb (i := 1433) (by decide +kernel)) (va_eqR (t := tmS 3) (at_ (i := 228) (by decide +kernel)) (hT 3 (by decide)))
    · exact vk_R.of (A := args) (tb (i := 1434) (by decide +kernel)) (va_eqR (t := tmS 4) (at_ (i := 251) (by decide +kernel)) (hT 4 (by decide)))
    · exact vk_R.of (A := args) (tb (i := 1447) (by decide +kernel)) (va_eqR (t := tmS 5) (at_ (i := 273) (by decide +kernel)) (hT 5 (by decide)))
    · exact vk_R.of (A := args) (tb (i := 1458) (by decide +kernel)) (va_eqR (t := tmS 6) (at_ (i := 297) (by decide +kernel)) (hT 6 (by decide)))
    · exact vk_R.of (A := args) (tb (i := 1463) (by decide +kernel)) (va_eqR (t := tmS 7) (at_ (i := 322) (by decide +kernel)) (hT 7 (by decide)))
    · exact vk_R.of (A := args) (tb (i := 1464) (by decide +kernel)) (va_eqR (t := tmS 8) (at_ (i := 348) (by decide +kernel)) (hT 8 (by decide)))
    · exact vk_R.of (A := args) (tb (i := 1236) (by decide +kernel)) (hT 9 (by decide))
  · exact va_Zof (tb (i := 550) (by decide +kernel)) (tb (i := 105) (by decide +kernel)) (va_eqi (at_ (i := 4) (by decide +kernel))) hA
  · exact va_Zqof (tb (i := 566) (by decide +kernel)) (tb (i := 107) (by decide +kernel)) (at_ (i := 5) (by decide +kernel)) hA
  · exact vx_Zqof (tb (i := 1224) (by decide +kernel)) (tb (i := 112) (by decide +kernel)) (at_ (i := 9) (by decide +kernel)) hA
  · exact vx_Zqof (tb (i := 1226) (by decide +kernel)) (tb (i := 112) (by decide +kernel)) (at_ (i := 10) (by decide +kernel)) hA
  · simp only [nsB, List.mem_cons, List.not_mem_nil, or_false] at hw
    rcases hw with rfl | rfl | rfl | rfl
    · exact va_Nw.of rfl (tb (i := 1201) (by decide +kernel))
    · exact va_Nw.of rfl (tb (i := 1203) (by decide +kernel))
    · exact va_Nw.of rfl (tb (i := 1205) (by decide +kernel))
    · exact va_Nw.of rfl (tb (i := 1199) (by decide +kernel))
