/-! ===== text constants: what String.length and String.charAt answer of them ===== -/
abbrev adW (X : Cx) : Nat → Nat := X.2.2.2.2.2.2.2
def chS (i j : Nat) : Int32 := (bytS.getD i []).getD j 0
theorem chS_ok : ∀ i, i < 10 → ∀ j, j < lenS.getD i 0 → ((chS i j &&& nI 255).toUInt32 % 65536).toInt32 = chS i j := by decide +kernel
theorem lenS_le : ∀ i, lenS.getD i 0 ≤ 13 := fun i => by
  rcases Nat.lt_or_ge i 10 with q | q
  · have : ∀ i, i < 10 → lenS.getD i 0 ≤ 13 := by decide +kernel
    exact this i q
  · rw [List.getD_eq_getElem?_getD, List.getElem?_eq_none (by simpa [lenS] using q)]
    exact Nat.zero_le _
section VSTX
variable {R : Type} {X : Cx} {g : R → Option Value} {own : String} {cc : ByteArray} {nL d pc : Nat} {lv : List (Nat × Value)} {st : List Value} {σ : St} {res : Option (R × St)} {i : Nat}
theorem v_sval {index : Nat} (C : Ok X own cc nL d) (hd : decode cc pc = .ok (.getfield index, 3)) (hi : i < 10) (hw : Cond.fieldLink own index "java/lang/String" "value" "[B" ∈ gt) (h : V X g (pc + 3) lv (.ref (adW X i) :: st) σ res) : V X g pc lv (.ref (adS X i) :: st) σ res := by
  obtain ⟨⟨p, l, e, Rm, s, m⟩, ⟨args, below, meth, c, cells, slots⟩, Q, ad, cy, D, adK, adV⟩ := X
  obtain ⟨hx, hb, hml, hown, hts, hK, hD, hE, hfr, hlo, hcl, hsl⟩ := C
  intro r σ' hr H locs ls hP hS hlv
  exact vk_getf hx hb (hE.2.2.1.1 i hi).2.2.1 hS hown (hts _ hw) (fun _ z => z) hd (h r σ' hr H locs ls hP hS hlv)
theorem v_scod {index : Nat} (C : Ok X own cc nL d) (hd : decode cc pc = .ok (.getfield index, 3)) (hi : i < 10) (hw : Cond.fieldLink own index "java/lang/String" "coder" "B" ∈ gt) (h : V X g (pc + 3) lv (.int 0 :: st) σ res) : V X g pc lv (.ref (adS X i) :: st) σ res := by
  obtain ⟨⟨p, l, e, Rm, s, m⟩, ⟨args, below, meth, c, cells, slots⟩, Q, ad, cy, D, adK, adV⟩ := X
  obtain ⟨hx, hb, hml, hown, hts, hK, hD, hE, hfr, hlo, hcl, hsl⟩ := C
  intro r σ' hr H locs ls hP hS hlv
  exact vk_getf hx hb (hE.2.2.1.1 i hi).2.1 hS hown (hts _ hw) (fun _ z => z) hd (h r σ' hr H locs ls hP hS hlv)
theorem v_scmp {index : Nat} (C : Ok X own cc nL d) (hd : decode cc pc = .ok (.getstatic index, 3)) (hw : Cond.fieldLink own index "java/lang/String" "COMPACT_STRINGS" "Z" ∈ gt) (h : V X g (pc + 3) lv (.int 1 :: st) σ res) : V X g pc lv st σ res := by
  obtain ⟨⟨p, l, e, Rm, s, m⟩, ⟨args, below, meth, c, cells, slots⟩, Q, ad, cy, D, adK, adV⟩ := X
  obtain ⟨hx, hb, hml, hown, hts, hK, hD, hE, hfr, hlo, hcl, hsl⟩ := C
  intro r σ' hr H locs ls hP hS hlv
  exact va_gets hx hb hE.2.2.2.1 hS hown (hts _ hw) (fun _ z => z) hd (h r σ' hr H locs ls hP hS hlv)
theorem v_sfmt {index : Nat} (C : Ok X own cc nL d) (hd : decode cc pc = .ok (.getstatic index, 3)) (hw : Cond.fieldLink own index "jdk/internal/util/Preconditions" "SIOOBE_FORMATTER" "Ljava/util/function/BiFunction;" ∈ gt) (h : ∀ v : Value, (v = .null ∨ ∃ t, v = .ref t) → V X g (pc + 3) lv (v :: st) σ res) : V X g pc lv st σ res := by
  obtain ⟨⟨p, l, e, Rm, s, m⟩, ⟨args, below, meth, c, cells, slots⟩, Q, ad, cy, D, adK, adV⟩ := X
  obtain ⟨hx, hb, hml, hown, hts, hK, hD, hE, hfr, hlo, hcl, hsl⟩ := C
  intro r σ' hr H locs ls hP hS hlv
  rcases hE.2.2.2.2 with z | ⟨t, z⟩
  · exact va_gets hx hb z hS hown (hts _ hw) (fun _ z => z) hd (h _ (Or.inl rfl) r σ' hr H locs ls hP hS hlv)
  · exact va_gets hx hb z hS hown (hts _ hw) (fun _ z => z) hd (h _ (Or.inr ⟨t, rfl⟩) r σ' hr H locs ls hP hS hlv)
theorem v_slenA  (C : Ok X own cc nL d) (hd : decode cc pc = .ok (.arraylength, 1)) (hi : i < 10) (h : V X g (pc + 1) lv (.int (nI (lenS.getD i 0)) :: st) σ res) : V X g pc lv (.ref (adW X i) :: st) σ res := by
  obtain ⟨⟨p, l, e, Rm, s, m⟩, ⟨args, below, meth, c, cells, slots⟩, Q, ad, cy, D, adK, adV⟩ := X
  obtain ⟨hx, hb, hml, hown, hts, hK, hD, hE, hfr, hlo, hcl, hsl⟩ := C
  intro r σ' hr H locs ls hP hS hlv
  exact va_tlen hx hb (hE.2.2.1.1 i hi).2.2.2 hS rfl hd (h r σ' hr H locs ls hP hS hlv)
theorem v_sbal {j : Int32} (C : Ok X own cc nL d) (hd : decode cc pc = .ok (.baload, 1)) (hi : i < 10) (hj : vp_in j (lenS.getD i 0)) (h : V X g (pc + 1) lv (.int (chS i j.toNatClampNeg) :: st) σ res) : V X g pc lv (.int j :: .ref (adW X i) :: st) σ res := by
  obtain ⟨⟨p, l, e, Rm, s, m⟩, ⟨args, below, meth, c, cells, slots⟩, Q, ad, cy, D, adK, adV⟩ := X
  obtain ⟨hx, hb, hml, hown, hts, hK, hD, hE, hfr, hlo, hcl, hsl⟩ := C
  intro r σ' hr H locs ls hP hS hlv
  exact va_tb hx hb (hE.2.2.1.1 i hi).2.2.2 hS hj rfl hd (h r σ' hr H locs ls hP hS hlv)
theorem v_i2c {x : Int32} (C : Ok X own cc nL d) (hd : decode cc pc = .ok (.i2c, 1)) (h : V X g (pc + 1) lv (.int (x.toUInt32 % 65536).toInt32 :: st) σ res) : V X g pc lv (.int x :: st) σ res := by
  obtain ⟨⟨p, l, e, Rm, s, m⟩, ⟨args, below, meth, c, cells, slots⟩, Q, ad, cy, D, adK, adV⟩ := X
  obtain ⟨hx, hb, hml, hown, hts, hK, hD, hE, hfr, hlo, hcl, hsl⟩ := C
  intro r σ' hr H locs ls hP hS hlv
  exact lv_i2c hx hb hd rfl (h r σ' hr H locs ls hP hS hlv)
theorem v_nret {x : Int32} {ty : FieldType} (C : Ok X own cc nL d) (M : OkM X (some ty)) (hn : narrow ty (.int x) = .int x) (hd : decode cc pc = .ok (.ireturn, 1)) : V X gI pc lv [.int x] σ (some (x, σ)) := by
  obtain ⟨⟨p, l, e, Rm, s, m⟩, ⟨args, below, meth, c, cells, slots⟩, Q, ad, cy, D, adK, adV⟩ := X
  obtain ⟨hx, hb, hml, hown, hts, hK, hD, hE, hfr, hlo, hcl, hsl⟩ := C
  obtain ⟨rfl, rfl, hret, hlocks, rfl⟩ := M
  intro r σ' hr H locs ls hP hS hlv
  cases hr
  exact W.zret hx hb hret hn (fun t ht hW => ⟨⟨rfl, by rw [ht]; exact hP⟩, hS.F ht⟩) hS.2.2 hd hlocks
def lkT (own : String) (index : Nat) (y : MethodName) (bytes : ByteArray) (maxL : Nat) (ret : Option FieldType) (n : Nat) : Prop := (Cond.methodLink own index y ∈ gt ∧ Cond.instanceMethod y ∈ gt ∧ Cond.selects y.cls y y ∈ gt ∧ Cond.initialized y.cls ∈ gt ∧ Cond.code y bytes maxL ret ∈ gt) ∧ (y.cls ≠ "java/lang/invoke/MethodHandle" ∧ y.cls ≠ "java/lang/invoke/VarHandle" ∧ (parseMethodDescriptor y.desc).map (fun d => d.parameters.length) = some n) ∧ maxL ≤ 20 ∧ y.cls = "java/lang/String"
theorem v_cT {d1 index maxL n : Nat} {y : MethodName} {bytes : ByteArray} {ret : Option FieldType} {as : List Value} {x : Int32} (C : Ok X own cc nL d) (hd : decode cc pc = .ok (.invokevirtual index, 3)) (hl : lkT own index y bytes maxL ret n) (hi : i < 10) (hM : Kon X d1 y bytes maxL ret gI (.ref (adS X i) :: as) σ (some (x, σ))) (hdd : d1 + 1 ≤ d) (hn : as.length = n) (hst : (st.map fun v => v.category).sum ≤ 8)
    (h : V X g (pc + 3) lv (.int x :: st) σ res) : V X g pc lv (as.reverse ++ .ref (adS X i) :: st) σ res := by
  obtain ⟨⟨p, l, e, Rm, s, m⟩, ⟨args, below, meth, c, cells, slots⟩, Q, ad, cy, D, adK, adV⟩ := X
  obtain ⟨hx, hb, hml, hown, hts, hK, hD, hE, hfr, hlo, hcl, hsl⟩ := C
  intro r σ' hr H locs ls hP hS hlv
  obtain ⟨⟨l1, l2, l3, l4, l5⟩, l6, l7, l8⟩ := hl
  refine v_back (va_runV (As := as) (rest := st) (C := y.cls) ⟨hx, hb, hml, hown, hts⟩ (hM x σ rfl) ⟨callB_of n hts (gt_call l5) rfl rfl rfl (hts _ l4) (hts _ l1) l6 ⟨by show d1 + 1 ≤ _; omega, by show 8 + (maxL + 11) + 40 * d1 ≤ _; omega⟩, hts _ l2, hts _ l3⟩ ⟨Wd.blind, by rw [l8]; exact vk_recv hE.2.2.1 hi hS, fun U hU hW => ⟨rfl, by rw [hU]; exact hP, va_K.moved hW.alike hK, hD, by rw [hU]; exact Ext.warm hW (hE.kept hS.2.1)⟩⟩ rfl hn (by rw [← hml]; exact hlv.1) rfl (lv_room hst) hd ⟨hcl, hsl⟩) hS (fun H1 locs1 hP1 hS1 => ?_)
  exact h r σ' hr H1 locs1 ls hP1 hS1 hlv
end VSTX
theorem lt_J0_335 : lkT RJ0 335 yJ0_coder_7d493 cJ0_coder_7d493 1 (some .byte) 0 := ⟨⟨gt_of 545 (by decide +kernel) rfl, gt_of 546 (by decide +kernel) rfl, gt_of 547 (by decide +kernel) rfl, gt_of 105 (by decide +kernel) rfl, gt_of 548 (by decide +kernel) rfl⟩, ⟨by decide +kernel, by decide +kernel, by decide +kernel⟩, by decide, rfl⟩
theorem lt_J0_492 : lkT RJ0 492 yJ0_isLatin1_aae02 cJ0_isLatin1_aae02 1 (some .boolean) 0 := ⟨⟨gt_of 555 (by decide +kernel) rfl, gt_of 556 (by decide +kernel) rfl, gt_of 557 (by decide +kernel) rfl, gt_of 105 (by decide +kernel) rfl, gt_of 558 (by decide +kernel) rfl⟩, ⟨by decide +kernel, by decide +kernel, by decide +kernel⟩, by decide, rfl⟩
set_option maxRecDepth 20000 in
theorem kJ0_coder_7d493 {X : Cx} (i : Nat) (hi : i < 10) (σ : St) : Kon X 0 yJ0_coder_7d493 cJ0_coder_7d493 1 (some .byte) gI [.ref (adS X i)] σ (some (0, σ)) := by
  refine konJF (own := RJ0) (fun _ => gI) (fun a b => [.ref (b i)]) (by decide +kernel) rfl (fun _ _ => Nat.le_of_ble_eq_true rfl) (fun Y C M => ?_)
  show V Y gI 0 [(0, .ref (adS Y i))] [] σ _
  refine v_scmp C dJ0_coder_7d493_0 (gt_of 549 (by decide +kernel) rfl) ?_
  refine v_if_eq_b (tgt := 13) C dJ0_coder_7d493_3 (by decide) (fun h => absurd h (by decide)) (fun _ => ?_)
  refine v_aload_n 0 C dJ0_coder_7d493_6 rfl ?_
  refine v_scod C dJ0_coder_7d493_7 hi (gt_of 1805 (by decide +kernel) rfl) ?_
  refine v_goto (tgt := 14) C dJ0_coder_7d493_10 (by decide) ?_
  exact v_nret C M (by decide) dJ0_coder_7d493_14
set_option maxRecDepth 20000 in
theorem kJ0_isLatin1_aae02 {X : Cx} (i : Nat) (hi : i < 10) (σ : St) : Kon X 0 yJ0_isLatin1_aae02 cJ0_isLatin1_aae02 1 (some .boolean) gI [.ref (adS X i)] σ (some (nI 1, σ)) := by
  refine konJF (own := RJ0) (fun _ => gI) (fun a b => [.ref (b i)]) (by decide +kernel) rfl (fun _ _ => Nat.le_of_ble_eq_true rfl) (fun Y C M => ?_)
  show V Y gI 0 [(0, .ref (adS Y i))] [] σ _
  refine v_scmp C dJ0_isLatin1_aae02_0 (gt_of 549 (by decide +kernel) rfl) ?_
  refine v_if_eq_b (tgt := 17) C dJ0_isLatin1_aae02_3 (by decide) (fun h => absurd h (by decide)) (fun _ => ?_)
  refine v_aload_n 0 C dJ0_isLatin1_aae02_6 rfl ?_
  refine v_scod C dJ0_isLatin1_aae02_7 hi (gt_of 1805 (by decide +kernel) rfl) ?_
  refine v_if_ne_b (tgt := 17) C dJ0_isLatin1_aae02_10 (by decide) (fun h => absurd rfl h) (fun _ => ?_)
  refine v_iconst C dJ0_isLatin1_aae02_13 kc_iconst_1 ?_
  refine v_goto (tgt := 18) C dJ0_isLatin1_aae02_14 (by decide) ?_
  exact v_zret C M (by decide) dJ0_isLatin1_aae02_18
set_option maxRecDepth 20000 in
theorem kJ0_length_8abf5 {X : Cx} (i : Nat) (hi : i < 10) (σ : St) : Kon X 1 yJ0_length_8abf5 cJ0_length_8abf5 1 (some .int) gI [.ref (adS X i)] σ (some (nI (lenS.getD i 0), σ)) := by
  refine konJF (own := RJ0) (fun _ => gI) (fun a b => [.ref (b i)]) (by decide +kernel) rfl (fun _ _ => Nat.le_of_ble_eq_true rfl) (fun Y C M => ?_)
  show V Y gI 0 [(0, .ref (adS Y i))] [] σ _
  refine v_aload_n 0 C dJ0_length_8abf5_0 rfl ?_
  refine v_sval C dJ0_length_8abf5_1 hi (gt_of 1804 (by decide +kernel) rfl) ?_
  refine v_slenA C dJ0_length_8abf5_4 hi ?_
  refine v_aload_n 0 C dJ0_length_8abf5_5 rfl ?_
  refine v_cT (as := []) C dJ0_length_8abf5_6 lt_J0_335 hi (kJ0_coder_7d493 i hi _) (by decide) rfl (Nat.le_of_ble_eq_true rfl) ?_
  refine v_ishr C dJ0_length_8abf5_9 ?_
  rw [sb_shr0]
  exact v_iret C M dJ0_length_8abf5_10
theorem lw_J0_1059 : lkS RJ0 1059 yJ3_checkIndex_8e157 cJ3_checkIndex_8e157 3 (some .int) 3 := ⟨⟨gt_of 567 (by decide +kernel) rfl, gt_of 568 (by decide +kernel) rfl, gt_of 107 (by decide +kernel) rfl, gt_of 569 (by decide +kernel) rfl⟩, ⟨by decide +kernel, by decide +kernel, by decide +kernel⟩, by decide⟩
theorem lw_J1_9 : lkS RJ1 9 yJ0_checkIndex_df160 cJ0_checkIndex_df160 2 none 2 := ⟨⟨gt_of 562 (by decide +kernel) rfl, gt_of 563 (by decide +kernel) rfl, gt_of 105 (by decide +kernel) rfl, gt_of 564 (by decide +kernel) rfl⟩, ⟨by decide +kernel, by decide +kernel, by decide +kernel⟩, by decide⟩
theorem lw_J0_495 : lkS RJ0 495 yJ1_charAt_3b067 cJ1_charAt_3b067 2 (some .char) 2 := ⟨⟨gt_of 559 (by decide +kernel) rfl, gt_of 560 (by decide +kernel) rfl, gt_of 106 (by decide +kernel) rfl, gt_of 561 (by decide +kernel) rfl⟩, ⟨by decide +kernel, by decide +kernel, by decide +kernel⟩, by decide⟩
set_option maxRecDepth 20000 in
theorem kJ3_checkIndex_8e157 {X : Cx} (p0 p1 : Int32) (v : Value) (hv : v = .null ∨ ∃ t, v = .ref t) (h0 : ¬ p0 < 0) (h1 : p0 < p1) (σ : St) : Kon X 0 yJ3_checkIndex_8e157 cJ3_checkIndex_8e157 3 (some .int) gI [.int p0, .int p1, v] σ (some (p0, σ)) := by
  rcases hv with rfl | ⟨t, rfl⟩
  · refine konJF (own := RJ3) (fun _ => gI) (fun a b => [.int p0, .int p1, .null]) (by decide +kernel) rfl (fun _ _ => Nat.le_of_ble_eq_true rfl) (fun Y C M => ?_)
    show V Y gI 0 [(0, .int p0), (1, .int p1), (2, .null)] [] σ _
    refine v_iload_n 0 C dJ3_checkIndex_8e157_0 rfl ?_
    refine v_if_lt_b (tgt := 9) C dJ3_checkIndex_8e157_1 (by decide) (fun h => absurd h h0) (fun _ => ?_)
    refine v_iload_n 0 C dJ3_checkIndex_8e157_4 rfl ?_
    refine v_iload_n 1 C dJ3_checkIndex_8e157_5 rfl ?_
    refine v_icmp_lt_b (tgt := 16) C dJ3_checkIndex_8e157_6 (by decide) (fun _ => ?_) (fun h => absurd h1 h)
    refine v_iload_n 0 C dJ3_checkIndex_8e157_16 rfl ?_
    exact v_iret C M dJ3_checkIndex_8e157_17
  · refine konJF (own := RJ3) (fun _ => gI) (fun a b => [.int p0, .int p1, .ref t]) (by decide +kernel) rfl (fun _ _ => Nat.le_of_ble_eq_true rfl) (fun Y C M => ?_)
    show V Y gI 0 [(0, .int p0), (1, .int p1), (2, .ref t)] [] σ _
    refine v_iload_n 0 C dJ3_checkIndex_8e157_0 rfl ?_
    refine v_if_lt_b (tgt := 9) C dJ3_checkIndex_8e157_1 (by decide) (fun h => absurd h h0) (fun _ => ?_)
    refine v_iload_n 0 C dJ3_checkIndex_8e157_4 rfl ?_
    refine v_iload_n 1 C dJ3_checkIndex_8e157_5 rfl ?_
    refine v_icmp_lt_b (tgt := 16) C dJ3_checkIndex_8e157_6 (by decide) (fun _ => ?_) (fun h => absurd h1 h)
    refine v_iload_n 0 C dJ3_checkIndex_8e157_16 rfl ?_
    exact v_iret C M dJ3_checkIndex_8e157_17
set_option maxRecDepth 20000 in
theorem kJ0_checkIndex_df160 {X : Cx} (p0 p1 : Int32) (h0 : ¬ p0 < 0) (h1 : p0 < p1) (σ : St) : Kon X 1 yJ0_checkIndex_df160 cJ0_checkIndex_df160 2 none gV [.int p0, .int p1] σ (some ((), σ)) := by
  refine konJF (own := RJ0) (fun _ => gV) (fun a b => [.int p0, .int p1]) (by decide +kernel) rfl (fun _ _ => Nat.le_of_ble_eq_true rfl) (fun Y C M => ?_)
  show V Y gV 0 [(0, .int p0), (1, .int p1)] [] σ _
  refine v_iload_n 0 C dJ0_checkIndex_df160_0 rfl ?_
  refine v_iload_n 1 C dJ0_checkIndex_df160_1 rfl ?_
  refine v_sfmt C dJ0_checkIndex_df160_2 (gt_of 565 (by decide +kernel) rfl) (fun v hv => ?_)
  refine v_cS3p C dJ0_checkIndex_df160_5 lw_J0_1059 (kJ3_checkIndex_8e157 p0 p1 v hv h0 h1 _) (by decide) (Nat.le_of_ble_eq_true rfl) ?_
  refine v_pop C dJ0_checkIndex_df160_8 rfl ?_
  exact v_vret C M dJ0_checkIndex_df160_9
theorem ib_of {j : Int32} {n : Nat} (h : vp_in j n) (hn : n < 2 ^ 31) : ¬ j < 0 ∧ j < nI n := by
  obtain ⟨k, hk, rfl⟩ := vp_in_of h hn
  exact ⟨nI_pos (by omega), nI_lt hk hn⟩
set_option maxRecDepth 20000 in
theorem kJ1_charAt_3b067 {X : Cx} (i : Nat) (hi : i < 10) (j : Int32) (hj : vp_in j (lenS.getD i 0)) (σ : St) : Kon X 2 yJ1_charAt_3b067 cJ1_charAt_3b067 2 (some .char) gI [.ref (adW X i), .int j] σ (some (chS i j.toNatClampNeg, σ)) := by
  obtain ⟨⟨p0, l, e0, R0, s0, m0⟩, X2, Q0, ad, cy, D, adK, adV⟩ := X
  refine konIF (own := RJ1) (by decide +kernel) rfl (Nat.le_of_ble_eq_true rfl) (fun Y hS C M => ?_)
  have e2 : adV i = adW Y i := congrArg (fun z => z.2.2.2.2 i) hS.2
  show V Y gI 0 [(0, .ref (adV i)), (1, .int j)] [] σ _
  rw [e2]
  have hb := ib_of hj (by have := lenS_le i; omega)
  refine v_iload_n 1 C dJ1_charAt_3b067_0 rfl ?_
  refine v_aload_n 0 C dJ1_charAt_3b067_1 rfl ?_
  refine v_slenA C dJ1_charAt_3b067_2 hi ?_
  refine v_eS (as := [.int j, .int (nI (lenS.getD i 0))]) (kk := fun _ τ => some (chS i j.toNatClampNeg, τ)) C dJ1_charAt_3b067_3 lw_J1_9 (kJ0_checkIndex_df160 _ _ hb.1 hb.2 _) (by decide) rfl (Nat.le_of_ble_eq_true rfl) (fun _ τ he => ?_)
  cases he
  show V Y gI 6 [(0, .ref (adW Y i)), (1, .int j)] [] σ _
  refine v_aload_n 0 C dJ1_charAt_3b067_6 rfl ?_
  refine v_iload_n 1 C dJ1_charAt_3b067_7 rfl ?_
  refine v_sbal C dJ1_charAt_3b067_8 hi hj ?_
  refine v_sipush C dJ1_charAt_3b067_9 (show (Int16.ofInt 255).toInt32 = nI 255 by decide) ?_
  refine v_iand C dJ1_charAt_3b067_12 ?_
  refine v_i2c C dJ1_charAt_3b067_13 ?_
  have hlt : j.toNatClampNeg < lenS.getD i 0 := Nat.not_le.mp fun q => hj (Or.inr q)
  have hc := chS_ok i hi _ hlt
  have hn := pk_nc (chS i j.toNatClampNeg &&& nI 255)
  rw [hc] at hn ⊢
  exact v_nret C M hn dJ1_charAt_3b067_14
theorem v_gi {R : Type} {X : Cx} {g : R → Option Value} {pc n : Nat} {lv : List (Nat × Value)} {st : List Value} {σ : St} {res : Option (R × St)} {i : Int32} (h : vp_in i n → V X g pc lv st σ res) : V X g pc lv st σ (gi i n res) := by
  unfold gi
  split
  · rename_i q
    refine h (fun z => ?_)
    unfold ib at q
    rcases z with z | z <;> simp [z] at q
  · exact v_none
set_option maxRecDepth 20000 in
theorem kJ0_charAt_5068e {X : Cx} (i : Nat) (hi : i < 10) (j : Int32) (hj : vp_in j (lenS.getD i 0)) (σ : St) : Kon X 3 yJ0_charAt_5068e cJ0_charAt_5068e 2 (some .char) gI [.ref (adS X i), .int j] σ (some (chS i j.toNatClampNeg, σ)) := by
  refine konJF (own := RJ0) (fun _ => gI) (fun a b => [.ref (b i), .int j]) (by decide +kernel) rfl (fun _ _ => Nat.le_of_ble_eq_true rfl) (fun Y C M => ?_)
  show V Y gI 0 [(0, .ref (adS Y i)), (1, .int j)] [] σ _
  refine v_aload_n 0 C dJ0_charAt_5068e_0 rfl ?_
  refine v_cT (as := []) C dJ0_charAt_5068e_1 lt_J0_492 hi (kJ0_isLatin1_aae02 i hi _) (by decide) rfl (Nat.le_of_ble_eq_true rfl) ?_
  refine v_if_eq_b (tgt := 16) C dJ0_charAt_5068e_4 (by decide) (fun h => absurd h (by decide)) (fun _ => ?_)
  refine v_aload_n 0 C dJ0_charAt_5068e_7 rfl ?_
  refine v_sval C dJ0_charAt_5068e_8 hi (gt_of 1804 (by decide +kernel) rfl) ?_
  refine v_iload_n 1 C dJ0_charAt_5068e_11 rfl ?_
  refine v_cS2p C dJ0_charAt_5068e_12 lw_J0_495 (kJ1_charAt_3b067 i hi j hj _) (by decide) (Nat.le_of_ble_eq_true rfl) ?_
  have hlt : j.toNatClampNeg < lenS.getD i 0 := Nat.not_le.mp fun q => hj (Or.inr q)
  have hc := chS_ok i hi _ hlt
  have hn := pk_nc (chS i j.toNatClampNeg &&& nI 255)
  rw [hc] at hn
  exact v_nret C M hn dJ0_charAt_5068e_15
theorem lt_X3_170 : lkT RX3 170 yJ0_length_8abf5 cJ0_length_8abf5 1 (some .int) 0 := ⟨⟨gt_of 541 (by decide +kernel) rfl, gt_of 542 (by decide +kernel) rfl, gt_of 543 (by decide +kernel) rfl, gt_of 105 (by decide +kernel) rfl, gt_of 544 (by decide +kernel) rfl⟩, ⟨by decide +kernel, by decide +kernel, by decide +kernel⟩, by decide, rfl⟩
theorem v_slen_X3_170 {R : Type} {X : Cx} {g : R → Option Value} {cc : ByteArray} {nL d pc i : Nat} {lv : List (Nat × Value)} {st : List Value} {σ : St} {res : Option (R × St)} (C : Ok X RX3 cc nL d) (hd : decode cc pc = .ok (.invokevirtual 170, 3)) (hi : i < 10) (hdd : 2 ≤ d) (hst : (st.map fun v => v.category).sum ≤ 8) (h : V X g (pc + 3) lv (.int (nI (lenS.getD i 0)) :: st) σ res) : V X g pc lv (.ref (adS X i) :: st) σ res := v_cT (as := []) C hd lt_X3_170 hi (kJ0_length_8abf5 i hi _) hdd rfl hst h
theorem lt_X3_175 : lkT RX3 175 yJ0_charAt_5068e cJ0_charAt_5068e 2 (some .char) 1 := ⟨⟨gt_of 551 (by decide +kernel) rfl, gt_of 552 (by decide +kernel) rfl, gt_of 553 (by decide +kernel) rfl, gt_of 105 (by decide +kernel) rfl, gt_of 554 (by decide +kernel) rfl⟩, ⟨by decide +kernel, by decide +kernel, by decide +kernel⟩, by decide, rfl⟩
theorem v_schar_X3_175 {R : Type} {X : Cx} {g : R → Option Value} {cc : ByteArray} {nL d pc i : Nat} {lv : List (Nat × Value)} {st : List Value} {σ : St} {res : Option (R × St)} {j : Int32} (C : Ok X RX3 cc nL d) (hd : decode cc pc = .ok (.invokevirtual 175, 3)) (hi : i < 10) (hdd : 4 ≤ d) (hst : (st.map fun v => v.category).sum ≤ 8) (h : V X g (pc + 3) lv (.int (chS i j.toNatClampNeg) :: st) σ res) : V X g pc lv (.int j :: .ref (adS X i) :: st) σ (gi j (lenS.getD i 0) res) := v_gi fun hj => v_cT (as := [.int j]) C hd lt_X3_175 hi (kJ0_charAt_5068e i hi j hj _) hdd rfl hst h
theorem lt_X8_90 : lkT RX8 90 yJ0_length_8abf5 cJ0_length_8abf5 1 (some .int) 0 := ⟨⟨gt_of 1413 (by decide +kernel) rfl, gt_of 542 (by decide +kernel) rfl, gt_of 543 (by decide +kernel) rfl, gt_of 105 (by decide +kernel) rfl, gt_of 544 (by decide +kernel) rfl⟩, ⟨by decide +kernel, by decide +kernel, by decide +kernel⟩, by decide, rfl⟩
theorem v_slen_X8_90 {R : Type} {X : Cx} {g : R → Option Value} {cc : ByteArray} {nL d pc i : Nat} {lv : List (Nat × Value)} {st : List Value} {σ : St} {res : Option (R × St)} (C : Ok X RX8 cc nL d) (hd : decode cc pc = .ok (.invokevirtual 90, 3)) (hi : i < 10) (hdd : 2 ≤ d) (hst : (st.map fun v => v.category).sum ≤ 8) (h : V X g (pc + 3) lv (.int (nI (lenS.getD i 0)) :: st) σ res) : V X g pc lv (.ref (adS X i) :: st) σ res := v_cT (as := []) C hd lt_X8_90 hi (kJ0_length_8abf5 i hi _) hdd rfl hst h
theorem lt_X8_96 : lkT RX8 96 yJ0_charAt_5068e cJ0_charAt_5068e 2 (some .char) 1 := ⟨⟨gt_of 1414 (by decide +kernel) rfl, gt_of 552 (by decide +kernel) rfl, gt_of 553 (by decide +kernel) rfl, gt_of 105 (by decide +kernel) rfl, gt_of 554 (by decide +kernel) rfl⟩, ⟨by decide +kernel, by decide +kernel, by decide +kernel⟩, by decide, rfl⟩
theorem v_schar_X8_96 {R : Type} {X : Cx} {g : R → Option Value} {cc : ByteArray} {nL d pc i : Nat} {lv : List (Nat × Value)} {st : List Value} {σ : St} {res : Option (R × St)} {j : Int32} (C : Ok X RX8 cc nL d) (hd : decode cc pc = .ok (.invokevirtual 96, 3)) (hi : i < 10) (hdd : 4 ≤ d) (hst : (st.map fun v => v.category).sum ≤ 8) (h : V X g (pc + 3) lv (.int (chS i j.toNatClampNeg) :: st) σ res) : V X g pc lv (.int j :: .ref (adS X i) :: st) σ (gi j (lenS.getD i 0) res) := v_gi fun hj => v_cT (as := [.int j]) C hd lt_X8_96 hi (kJ0_charAt_5068e i hi j hj _) hdd rfl hst h
