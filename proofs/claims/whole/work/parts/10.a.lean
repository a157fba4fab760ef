noncomputable section
-- OpenLines has(II)Z, depth 0
def fX7_has (p0 : Int32) (p1 : Int32) : Int32 :=
  if ((p0 >>> (p1 &&& 31)) &&& (nI 1)) = 0 then 0 else (nI 1)
theorem zX7_has (p0 : Int32) (p1 : Int32) : fX7_has p0 p1 = 0 ∨ fX7_has p0 p1 = 1 := by
  unfold fX7_has
  repeat (first | exact Or.inl rfl | exact Or.inr rfl | split)
set_option maxRecDepth 20000 in
theorem kX7_has {X : Cx} (p0 : Int32) (p1 : Int32) (σ : St) : Kon X 0 yX7_has cX7_has 2 (some .boolean) gI [.int p0, .int p1] σ (some (fX7_has p0 p1, σ)) := by
  refine konJ (own := RX7) (fun _ => gI) (fun a b => [.int p0, .int p1]) (by decide +kernel) rfl (fun _ _ => Nat.le_of_ble_eq_true rfl) (fun Y C M => ?_)
  show V Y gI 0 [(0, .int p0), (1, .int p1)] [] σ (some (fX7_has p0 p1, σ))
  have hz := zX7_has p0 p1
  unfold fX7_has at hz ⊢
  refine v_iload_n 0 C dX7_has_0 rfl ?_
  refine v_iload_n 1 C dX7_has_1 rfl ?_
  refine v_ishr C dX7_has_2 ?_
  refine v_iconst C dX7_has_3 kc_iconst_1 ?_
  refine v_iand C dX7_has_4 ?_
  refine v_cut (pcJ := 13) (lv := [(0, .int p0), (1, .int p1)]) (st := .int (if ((p0 >>> (p1 &&& 31)) &&& (nI 1)) = 0 then 0 else (nI 1)) :: []) ?_ (fun hj1 => ?_)
  rotate_left
  · skip
    refine v_if_eq_b (tgt := 12) C dX7_has_5 (by decide) (fun h2 => ?_) (fun h2 => ?_)
    · have hj3 := v_jpos h2 hj1
      refine v_iconst C dX7_has_12 kc_iconst_0 ?_
      exact hj3
    · have hj3 := v_jneg h2 hj1
      refine v_iconst C dX7_has_8 kc_iconst_1 ?_
      refine v_goto (tgt := 13) C dX7_has_9 (by decide) ?_
      exact hj3
  exact v_zret C M hz dX7_has_13
-- OpenLines$Pass above(II)I, depth 0
def fX1_above (p0 : Int32) (p1 : Int32) : Int32 :=
  if 0 ≤ p1 then ((p0 >>> ((p1 + (nI 1)) &&& 31)) <<< ((p1 + (nI 1)) &&& 31)) else p0
set_option maxRecDepth 20000 in
theorem kX1_above {X : Cx} (p0 : Int32) (p1 : Int32) (σ : St) : Kon X 0 yX1_above cX1_above 2 (some .int) gI [.int p0, .int p1] σ (some (fX1_above p0 p1, σ)) := by
  refine konJ (own := RX1) (fun _ => gI) (fun a b => [.int p0, .int p1]) (by decide +kernel) rfl (fun _ _ => Nat.le_of_ble_eq_true rfl) (fun Y C M => ?_)
  show V Y gI 0 [(0, .int p0), (1, .int p1)] [] σ (some (fX1_above p0 p1, σ))
  unfold fX1_above
  refine v_iload_n 1 C dX1_above_0 rfl ?_
  refine v_cut (pcJ := 17) (lv := [(0, .int p0), (1, .int p1)]) (st := .int (if 0 ≤ p1 then ((p0 >>> ((p1 + (nI 1)) &&& 31)) <<< ((p1 + (nI 1)) &&& 31)) else p0) :: []) ?_ (fun hj1 => ?_)
  rotate_left
  · skip
    refine v_if_ge_b (tgt := 8) C dX1_above_1 (by decide) (fun h2 => ?_) (fun h2 => ?_)
    · have hj3 := v_jpos h2 hj1
      refine v_iload_n 0 C dX1_above_8 rfl ?_
      refine v_iload_n 1 C dX1_above_9 rfl ?_
      refine v_iconst C dX1_above_10 kc_iconst_1 ?_
      refine v_iadd C dX1_above_11 ?_
      refine v_ishr C dX1_above_12 ?_
      refine v_iload_n 1 C dX1_above_13 rfl ?_
      refine v_iconst C dX1_above_14 kc_iconst_1 ?_
      refine v_iadd C dX1_above_15 ?_
      refine v_ishl C dX1_above_16 ?_
      exact hj3
    · have hj3 := v_jneg h2 hj1
      refine v_iload_n 0 C dX1_above_4 rfl ?_
      refine v_goto (tgt := 17) C dX1_above_5 (by decide) ?_
      exact hj3
  exact v_iret C M dX1_above_17
-- OpenLines isBelow(II)Z, depth 0
def fX7_isBelow (p0 : Int32) (p1 : Int32) : Int32 :=
  if p0 < 0 then 0 else (if p1 ≤ p0 then 0 else (nI 1))
theorem zX7_isBelow (p0 : Int32) (p1 : Int32) : fX7_isBelow p0 p1 = 0 ∨ fX7_isBelow p0 p1 = 1 := by
  unfold fX7_isBelow
  repeat (first | exact Or.inl rfl | exact Or.inr rfl | split)
set_option maxRecDepth 20000 in
theorem kX7_isBelow {X : Cx} (p0 : Int32) (p1 : Int32) (σ : St) : Kon X 0 yX7_isBelow cX7_isBelow 2 (some .boolean) gI [.int p0, .int p1] σ (some (fX7_isBelow p0 p1, σ)) := by
  refine konJ (own := RX7) (fun _ => gI) (fun a b => [.int p0, .int p1]) (by decide +kernel) rfl (fun _ _ => Nat.le_of_ble_eq_true rfl) (fun Y C M => ?_)
  show V Y gI 0 [(0, .int p0), (1, .int p1)] [] σ (some (fX7_isBelow p0 p1, σ))
  have hz := zX7_isBelow p0 p1
  unfold fX7_isBelow at hz ⊢
  refine v_iload_n 0 C dX7_isBelow_0 rfl ?_
  refine v_cut (pcJ := 14) (lv := [(0, .int p0), (1, .int p1)]) (st := .int (if p0 < 0 then 0 else (if p1 ≤ p0 then 0 else (nI 1))) :: []) ?_ (fun hj1 => ?_)
  rotate_left
  · skip
    refine v_if_lt_b (tgt := 13) C dX7_isBelow_1 (by decide) (fun h2 => ?_) (fun h2 => ?_)
    · have hj3 := v_jpos h2 hj1
      refine v_iconst C dX7_isBelow_13 kc_iconst_0 ?_
      exact hj3
    · have hj3 := v_jneg h2 hj1
      refine v_iload_n 0 C dX7_isBelow_4 rfl ?_
      refine v_iload_n 1 C dX7_isBelow_5 rfl ?_
      refine v_icmp_ge_b (tgt := 13) C dX7_isBelow_6 (by decide) (fun h4 => ?_) (fun h4 => ?_)
      · have hj5 := v_jpos h4 hj3
        refine v_iconst C dX7_isBelow_13 kc_iconst_0 ?_
        exact hj5
      · have hj5 := v_jneg h4 hj3
        refine v_iconst C dX7_isBelow_9 kc_iconst_1 ?_
        refine v_goto (tgt := 14) C dX7_isBelow_10 (by decide) ?_
        exact hj5
  exact v_zret C M hz dX7_isBelow_14
-- java/lang/Integer bitCount(I)I, depth 0
def fJ6_bitCount_0f7a4 (p0 : Int32) (σ : St) : Option (Int32 × St) :=
  lt (p0 - (((p0.toUInt32 >>> ((nI 1).toUInt32 &&& Int32.toUInt32 31)).toInt32) &&& 1431655765)) fun (x1 : Int32) => lt ((x1 &&& 858993459) + (((x1.toUInt32 >>> ((nI 2).toUInt32 &&& Int32.toUInt32 31)).toInt32) &&& 858993459)) fun (x2 : Int32) => lt ((x2 + ((x2.toUInt32 >>> ((nI 4).toUInt32 &&& Int32.toUInt32 31)).toInt32)) &&& 252645135) fun (x3 : Int32) => lt (x3 + ((x3.toUInt32 >>> ((nI 8).toUInt32 &&& Int32.toUInt32 31)).toInt32)) fun (x4 : Int32) => lt (x4 + ((x4.toUInt32 >>> ((nI 16).toUInt32 &&& Int32.toUInt32 31)).toInt32)) fun (x5 : Int32) => some (x5 &&& (nI 63), σ)
set_option maxRecDepth 20000 in
theorem kJ6_bitCount_0f7a4 {X : Cx} (p0 : Int32) (σ : St) : Kon X 0 yJ6_bitCount_0f7a4 cJ6_bitCount_0f7a4 1 (some .int) gI [.int p0] σ (fJ6_bitCount_0f7a4 p0 σ) := by
  refine konJF (own := RJ6) (fun _ => gI) (fun a b => [.int p0]) (by decide +kernel) rfl (fun _ _ => Nat.le_of_ble_eq_true rfl) (fun Y C M => ?_)
  show V Y gI 0 [(0, .int p0)] [] σ (fJ6_bitCount_0f7a4 p0 σ)
  unfold fJ6_bitCount_0f7a4
  refine v_iload_n 0 C dJ6_bitCount_0f7a4_0 rfl ?_
  refine v_iload_n 0 C dJ6_bitCount_0f7a4_1 rfl ?_
  refine v_iconst C dJ6_bitCount_0f7a4_2 kc_iconst_1 ?_
  refine v_iushr C dJ6_bitCount_0f7a4_3 ?_
  refine v_ldc_w C dJ6_bitCount_0f7a4_4 wK_265 ?_
  refine v_iand C dJ6_bitCount_0f7a4_7 ?_
  refine v_isub C dJ6_bitCount_0f7a4_8 ?_
  refine v_istore_nL (lv0 := []) C dJ6_bitCount_0f7a4_9 rfl (by decide) rfl (fun x1 => ?_)
  refine v_iload_n 0 C dJ6_bitCount_0f7a4_10 rfl ?_
  refine v_ldc_w C dJ6_bitCount_0f7a4_11 wK_266 ?_
  refine v_iand C dJ6_bitCount_0f7a4_14 ?_
  refine v_iload_n 0 C dJ6_bitCount_0f7a4_15 rfl ?_
  refine v_iconst C dJ6_bitCount_0f7a4_16 kc_iconst_2 ?_
  refine v_iushr C dJ6_bitCount_0f7a4_17 ?_
  refine v_ldc_w C dJ6_bitCount_0f7a4_18 wK_266 ?_
  refine v_iand C dJ6_bitCount_0f7a4_21 ?_
  refine v_iadd C dJ6_bitCount_0f7a4_22 ?_
  refine v_istore_nL (lv0 := []) C dJ6_bitCount_0f7a4_23 rfl (by decide) rfl (fun x2 => ?_)
  refine v_iload_n 0 C dJ6_bitCount_0f7a4_24 rfl ?_
  refine v_iload_n 0 C dJ6_bitCount_0f7a4_25 rfl ?_
  refine v_iconst C dJ6_bitCount_0f7a4_26 kc_iconst_4 ?_
  refine v_iushr C dJ6_bitCount_0f7a4_27 ?_
  refine v_iadd C dJ6_bitCount_0f7a4_28 ?_
  refine v_ldc_w C dJ6_bitCount_0f7a4_29 wK_267 ?_
  refine v_iand C dJ6_bitCount_0f7a4_32 ?_
  refine v_istore_nL (lv0 := []) C dJ6_bitCount_0f7a4_33 rfl (by decide) rfl (fun x3 => ?_)
  refine v_iload_n 0 C dJ6_bitCount_0f7a4_34 rfl ?_
  refine v_iload_n 0 C dJ6_bitCount_0f7a4_35 rfl ?_
  refine v_bipush C dJ6_bitCount_0f7a4_36 kc_bipush_8 ?_
  refine v_iushr C dJ6_bitCount_0f7a4_38 ?_
  refine v_iadd C dJ6_bitCount_0f7a4_39 ?_
  refine v_istore_nL (lv0 := []) C dJ6_bitCount_0f7a4_40 rfl (by decide) rfl (fun x4 => ?_)
  refine v_iload_n 0 C dJ6_bitCount_0f7a4_41 rfl ?_
  refine v_iload_n 0 C dJ6_bitCount_0f7a4_42 rfl ?_
  refine v_bipush C dJ6_bitCount_0f7a4_43 kc_bipush_16 ?_
  refine v_iushr C dJ6_bitCount_0f7a4_45 ?_
  refine v_iadd C dJ6_bitCount_0f7a4_46 ?_
  refine v_istore_nL (lv0 := []) C dJ6_bitCount_0f7a4_47 rfl (by decide) rfl (fun x5 => ?_)
  refine v_iload_n 0 C dJ6_bitCount_0f7a4_48 rfl ?_
  refine v_bipush C dJ6_bitCount_0f7a4_49 kc_bipush_63 ?_
  refine v_iand C dJ6_bitCount_0f7a4_51 ?_
  exact v_iret C M dJ6_bitCount_0f7a4_52
-- OpenLines$Reader isLetter(I)Z, depth 0
def fX3_isLetter (p0 : Int32) : Int32 :=
  if p0 < (nI 97) then 0 else (if (nI 122) < p0 then 0 else (nI 1))
theorem zX3_isLetter (p0 : Int32) : fX3_isLetter p0 = 0 ∨ fX3_isLetter p0 = 1 := by
  unfold fX3_isLetter
  repeat (first | exact Or.inl rfl | exact Or.inr rfl | split)
set_option maxRecDepth 20000 in
theorem kX3_isLetter {X : Cx} (p0 : Int32) (σ : St) : Kon X 0 yX3_isLetter cX3_isLetter 1 (some .boolean) gI [.int p0] σ (some (fX3_isLetter p0, σ)) := by
  refine konJ (own := RX3) (fun _ => gI) (fun a b => [.int p0]) (by decide +kernel) rfl (fun _ _ => Nat.le_of_ble_eq_true rfl) (fun Y C M => ?_)
  show V Y gI 0 [(0, .int p0)] [] σ (some (fX3_isLetter p0, σ))
  have hz := zX3_isLetter p0
  unfold fX3_isLetter at hz ⊢
  refine v_iload_n 0 C dX3_isLetter_0 rfl ?_
  refine v_bipush C dX3_isLetter_1 kc_bipush_97 ?_
  refine v_cut (pcJ := 17) (lv := [(0, .int p0)]) (st := .int (if p0 < (nI 97) then 0 else (if (nI 122) < p0 then 0 else (nI 1))) :: []) ?_ (fun hj1 => ?_)
  rotate_left
  · skip
    refine v_icmp_lt_b (tgt := 16) C dX3_isLetter_3 (by decide) (fun h2 => ?_) (fun h2 => ?_)
    · have hj3 := v_jpos h2 hj1
      refine v_iconst C dX3_isLetter_16 kc_iconst_0 ?_
      exact hj3
    · have hj3 := v_jneg h2 hj1
      refine v_iload_n 0 C dX3_isLetter_6 rfl ?_
      refine v_bipush C dX3_isLetter_7 kc_bipush_122 ?_
      refine v_icmp_gt_b (tgt := 16) C dX3_isLetter_9 (by decide) (fun h4 => ?_) (fun h4 => ?_)
      · have hj5 := v_jpos h4 hj3
        refine v_iconst C dX3_isLetter_16 kc_iconst_0 ?_
        exact hj5
      · have hj5 := v_jneg h4 hj3
        refine v_iconst C dX3_isLetter_12 kc_iconst_1 ?_
        refine v_goto (tgt := 17) C dX3_isLetter_13 (by decide) ?_
        exact hj5
  exact v_zret C M hz dX3_isLetter_17
-- OpenLines$Reader letter(I)I, depth 0
def fX3_letter (p0 : Int32) : Int32 :=
  (p0 - (nI 97)) + (nI 1)
set_option maxRecDepth 20000 in
theorem kX3_letter {X : Cx} (p0 : Int32) (σ : St) : Kon X 0 yX3_letter cX3_letter 1 (some .int) gI [.int p0] σ (some (fX3_letter p0, σ)) := by
  refine konJ (own := RX3) (fun _ => gI) (fun a b => [.int p0]) (by decide +kernel) rfl (fun _ _ => Nat.le_of_ble_eq_true rfl) (fun Y C M => ?_)
  show V Y gI 0 [(0, .int p0)] [] σ (some (fX3_letter p0, σ))
  unfold fX3_letter
  refine v_iload_n 0 C dX3_letter_0 rfl ?_
  refine v_bipush C dX3_letter_1 kc_bipush_97 ?_
  refine v_isub C dX3_letter_3 ?_
  refine v_iconst C dX3_letter_4 kc_iconst_1 ?_
  refine v_iadd C dX3_letter_5 ?_
  exact v_iret C M dX3_letter_6
-- OpenLines$Reader isDigit(I)Z, depth 0
def fX3_isDigit (p0 : Int32) : Int32 :=
  if p0 < (nI 48) then 0 else (if (nI 57) < p0 then 0 else (nI 1))
theorem zX3_isDigit (p0 : Int32) : fX3_isDigit p0 = 0 ∨ fX3_isDigit p0 = 1 := by
  unfold fX3_isDigit
  repeat (first | exact Or.inl rfl | exact Or.inr rfl | split)
set_option maxRecDepth 20000 in
theorem kX3_isDigit {X : Cx} (p0 : Int32) (σ : St) : Kon X 0 yX3_isDigit cX3_isDigit 1 (some .boolean) gI [.int p0] σ (some (fX3_isDigit p0, σ)) := by
  refine konJ (own := RX3) (fun _ => gI) (fun a b => [.int p0]) (by decide +kernel) rfl (fun _ _ => Nat.le_of_ble_eq_true rfl) (fun Y C M => ?_)
  show V Y gI 0 [(0, .int p0)] [] σ (some (fX3_isDigit p0, σ))
  have hz := zX3_isDigit p0
  unfold fX3_isDigit at hz ⊢
  refine v_iload_n 0 C dX3_isDigit_0 rfl ?_
  refine v_bipush C dX3_isDigit_1 kc_bipush_48 ?_
  refine v_cut (pcJ := 17) (lv := [(0, .int p0)]) (st := .int (if p0 < (nI 48) then 0 else (if (nI 57) < p0 then 0 else (nI 1))) :: []) ?_ (fun hj1 => ?_)
  rotate_left
  · skip
    refine v_icmp_lt_b (tgt := 16) C dX3_isDigit_3 (by decide) (fun h2 => ?_) (fun h2 => ?_)
    · have hj3 := v_jpos h2 hj1
      refine v_iconst C dX3_isDigit_16 kc_iconst_0 ?_
      exact hj3
    · have hj3 := v_jneg h2 hj1
      refine v_iload_n 0 C dX3_isDigit_6 rfl ?_
      refine v_bipush C dX3_isDigit_7 kc_bipush_57 ?_
      refine v_icmp_gt_b (tgt := 16) C dX3_isDigit_9 (by decide) (fun h4 => ?_) (fun h4 => ?_)
      · have hj5 := v_jpos h4 hj3
        refine v_iconst C dX3_isDigit_16 kc_iconst_0 ?_
        exact hj5
      · have hj5 := v_jneg h4 hj3
        refine v_iconst C dX3_isDigit_12 kc_iconst_1 ?_
        refine v_goto (tgt := 17) C dX3_isDigit_13 (by decide) ?_
        exact hj5
  exact v_zret C M hz dX3_isDigit_17
-- java/util/Arrays fill([II)V, depth 0
def LJ7_fill_53178_5 (c0 : Nat) (k0 : Nat) (a1 : Int32) (a3 : Int32) (ke : St → Option (Unit × St)) : Nat → Int32 → St → Option (Unit × St)
  | 0, _, _ => none
  | n + 1, b2, σ => (if a3 ≤ b2 then ke σ else gi b2 (aln c0) <| lt (wI σ c0 k0 b2.toNatClampNeg a1) fun (σ2 : St) => LJ7_fill_53178_5 c0 k0 a1 a3 ke n (b2 + nI 1) σ2)
def fJ7_fill_53178 (c0 : Nat) (k0 : Nat) (p1 : Int32) (σ : St) : Option (Unit × St) :=
  lt (nI (aln c0)) fun (x1 : Int32) => (LJ7_fill_53178_5 c0 k0 p1 x1 (fun (σ3 : St) => some ((), σ3)) FU 0 σ)
set_option maxRecDepth 20000 in
theorem vLJ7_fill_53178_5 {Y : Cx} (c0 : Nat) (k0 : Nat) (a1 : Int32) (a3 : Int32) (ha0 : akd c0 = 1) (hk0 : k0 < cnt c0) (C : Ok Y RJ7 cJ7_fill_53178 4 0) (M : OkM Y none) (ke : St → Option (Unit × St)) (hke : ∀ (σ : St), V Y gV 20 [] [] σ (ke σ)) : ∀ (n : Nat) (b2 : Int32) (σ : St), V Y gV 5 [(0, .ref (adr Y c0 k0)), (1, .int a1), (2, .int b2), (3, .int a3)] [] σ (LJ7_fill_53178_5 c0 k0 a1 a3 ke n b2 σ) := by
  intro n
  induction n with
  | zero => intros; exact v_none
  | succ n ih =>
    intro b2 σ
    rw [LJ7_fill_53178_5]
    refine v_iload_n 2 C dJ7_fill_53178_5 rfl ?_
    refine v_iload_n 3 C dJ7_fill_53178_6 rfl ?_
    refine v_icmp_ge (tgt := 20) C dJ7_fill_53178_7 (by decide) ?_ ?_
    · skip
      exact v_lv (hke σ) [] rfl
    · skip
      refine v_aload_n 0 C dJ7_fill_53178_10 rfl ?_
      refine v_iload_n 2 C dJ7_fill_53178_11 rfl ?_
      refine v_iload_n 1 C dJ7_fill_53178_12 rfl ?_
      refine v_iastoreL C dJ7_fill_53178_13 hk0 ha0 rfl (fun σ2 => ?_)
      refine v_iinc (lv' := [(2, .int (b2 + nI 1)), (0, .ref (adr Y c0 k0)), (1, .int a1), (3, .int a3)]) 2 C dJ7_fill_53178_14 rfl (congrArg (b2 + ·) kc_iconst_1) (by decide) rfl ?_
      refine v_goto (tgt := 5) C dJ7_fill_53178_17 (by decide) ?_
      exact v_lv (ih (b2 + nI 1) σ2) [1, 2, 0, 3] rfl
set_option maxRecDepth 20000 in
theorem kJ7_fill_53178 {X : Cx} (c0 : Nat) (k0 : Nat) (p1 : Int32) (ha0 : akd c0 = 1) (hk0 : k0 < cnt c0) (σ : St) : Kon X 0 yJ7_fill_53178 cJ7_fill_53178 4 none gV [.ref (adr X c0 k0), .int p1] σ (fJ7_fill_53178 c0 k0 p1 σ) := by
  refine konJF (own := RJ7) (fun _ => gV) (fun a b => [.ref (a c0 k0), .int p1]) (by decide +kernel) rfl (fun _ _ => Nat.le_of_ble_eq_true rfl) (fun Y C M => ?_)
  show V Y gV 0 [(0, .ref (adr Y c0 k0)), (1, .int p1)] [] σ (fJ7_fill_53178 c0 k0 p1 σ)
  unfold fJ7_fill_53178
  refine v_iconst C dJ7_fill_53178_0 kc_iconst_0 ?_
  refine v_istore_n (lv' := [(2, .int 0), (0, .ref (adr Y c0 k0)), (1, .int p1)]) C dJ7_fill_53178_1 rfl (by decide) rfl ?_
  refine v_aload_n 1 C dJ7_fill_53178_2 rfl ?_
  refine v_alen C dJ7_fill_53178_3 hk0 ha0 rfl ?_
  refine v_istore_nL (lv0 := [(2, .int 0), (0, .ref (adr Y c0 k0)), (1, .int p1)]) C dJ7_fill_53178_4 rfl (by decide) rfl (fun x1 => ?_)
  refine v_lv (vLJ7_fill_53178_5 _ _ _ _ ha0 hk0 C M _ (fun σ3 => ?_) FU _ _) [2, 3, 1, 0] rfl
  exact v_vret C M dJ7_fill_53178_20
-- OpenLines$Tally isAccount(II)Z, depth 1
def fX5_isAccount (p0 : Int32) (p1 : Int32) : Int32 :=
  if (fX7_isBelow p0 (nI 6)) = 0 then 0 else (if (fX7_isBelow p1 (nI 6)) = 0 then 0 else (nI 1))
theorem zX5_isAccount (p0 : Int32) (p1 : Int32) : fX5_isAccount p0 p1 = 0 ∨ fX5_isAccount p0 p1 = 1 := by
  unfold fX5_isAccount
  repeat (first | exact Or.inl rfl | exact Or.inr rfl | split)
set_option maxRecDepth 20000 in
theorem kX5_isAccount {X : Cx} (p0 : Int32) (p1 : Int32) (σ : St) : Kon X 1 yX5_isAccount cX5_isAccount 2 (some .boolean) gI [.int p0, .int p1] σ (some (fX5_isAccount p0 p1, σ)) := by
  refine konJ (own := RX5) (fun _ => gI) (fun a b => [.int p0, .int p1]) (by decide +kernel) rfl (fun _ _ => Nat.le_of_ble_eq_true rfl) (fun Y C M => ?_)
  show V Y gI 0 [(0, .int p0), (1, .int p1)] [] σ (some (fX5_isAccount p0 p1, σ))
  have hz := zX5_isAccount p0 p1
  unfold fX5_isAccount at hz ⊢
  refine v_iload_n 0 C dX5_isAccount_0 rfl ?_
  refine v_bipush C dX5_isAccount_1 kc_bipush_6 ?_
  refine v_cN2p C dX5_isAccount_3 ln_X5_55 (kX7_isBelow p0 (nI 6) _) (by decide) (Nat.le_of_ble_eq_true rfl) ?_
  refine v_cut (pcJ := 23) (lv := [(0, .int p0), (1, .int p1)]) (st := .int (if (fX7_isBelow p0 (nI 6)) = 0 then 0 else (if (fX7_isBelow p1 (nI 6)) = 0 then 0 else (nI 1))) :: []) ?_ (fun hj1 => ?_)
  rotate_left
  · skip
    refine v_if_eq_b (tgt := 22) C dX5_isAccount_6 (by decide) (fun h2 => ?_) (fun h2 => ?_)
    · have hj3 := v_jpos h2 hj1
      refine v_iconst C dX5_isAccount_22 kc_iconst_0 ?_
      exact hj3
    · have hj3 := v_jneg h2 hj1
      refine v_iload_n 1 C dX5_isAccount_9 rfl ?_
      refine v_bipush C dX5_isAccount_10 kc_bipush_6 ?_
      refine v_cN2p C dX5_isAccount_12 ln_X5_55 (kX7_isBelow p1 (nI 6) _) (by decide) (Nat.le_of_ble_eq_true rfl) ?_
      refine v_if_eq_b (tgt := 22) C dX5_isAccount_15 (by decide) (fun h4 => ?_) (fun h4 => ?_)
      · have hj5 := v_jpos h4 hj3
        refine v_iconst C dX5_isAccount_22 kc_iconst_0 ?_
        exact hj5
      · have hj5 := v_jneg h4 hj3
        refine v_iconst C dX5_isAccount_18 kc_iconst_1 ?_
        refine v_goto (tgt := 23) C dX5_isAccount_19 (by decide) ?_
        exact hj5
  exact v_zret C M hz dX5_isAccount_23
-- java/lang/Math floorMod(II)I, depth 0
def fJ9_floorMod_7cf53 (p0 : Int32) (p1 : Int32) (σ : St) : Option (Int32 × St) :=
  gd (¬ p1 = 0) <| lt (p0 - p0 / p1 * p1) fun (x1 : Int32) => (if 0 ≤ (p0 ^^^ p1) then some (x1, σ) else (if x1 = 0 then some (x1, σ) else some (x1 + p1, σ)))
set_option maxRecDepth 20000 in
theorem kJ9_floorMod_7cf53 {X : Cx} (p0 : Int32) (p1 : Int32) (σ : St) : Kon X 0 yJ9_floorMod_7cf53 cJ9_floorMod_7cf53 3 (some .int) gI [.int p0, .int p1] σ (fJ9_floorMod_7cf53 p0 p1 σ) := by
  refine konJF (own := RJ9) (fun _ => gI) (fun a b => [.int p0, .int p1]) (by decide +kernel) rfl (fun _ _ => Nat.le_of_ble_eq_true rfl) (fun Y C M => ?_)
  show V Y gI 0 [(0, .int p0), (1, .int p1)] [] σ (fJ9_floorMod_7cf53 p0 p1 σ)
  unfold fJ9_floorMod_7cf53
  refine v_iload_n 0 C dJ9_floorMod_7cf53_0 rfl ?_
  refine v_iload_n 1 C dJ9_floorMod_7cf53_1 rfl ?_
  refine v_iremG C dJ9_floorMod_7cf53_2 ?_
  refine v_istore_nL (lv0 := [(0, .int p0), (1, .int p1)]) C dJ9_floorMod_7cf53_3 rfl (by decide) rfl (fun x1 => ?_)
  refine v_iload_n 1 C dJ9_floorMod_7cf53_4 rfl ?_
  refine v_iload_n 2 C dJ9_floorMod_7cf53_5 rfl ?_
  refine v_ixor C dJ9_floorMod_7cf53_6 ?_
  refine v_if_ge (tgt := 18) C dJ9_floorMod_7cf53_7 (by decide) ?_ ?_
  · skip
    refine v_iload_n 0 C dJ9_floorMod_7cf53_18 rfl ?_
    exact v_iret C M dJ9_floorMod_7cf53_19
  · skip
    refine v_iload_n 0 C dJ9_floorMod_7cf53_10 rfl ?_
    refine v_if_eq (tgt := 18) C dJ9_floorMod_7cf53_11 (by decide) ?_ ?_
    · skip
      refine v_iload_n 0 C dJ9_floorMod_7cf53_18 rfl ?_
      exact v_iret C M dJ9_floorMod_7cf53_19
    · skip
      refine v_iload_n 0 C dJ9_floorMod_7cf53_14 rfl ?_
      refine v_iload_n 2 C dJ9_floorMod_7cf53_15 rfl ?_
      refine v_iadd C dJ9_floorMod_7cf53_16 ?_
      exact v_iret C M dJ9_floorMod_7cf53_17
-- OpenLines isPass(I)Z, depth 0
def fX7_isPass (p0 : Int32) : Int32 :=
  if p0 = (nI 1) then (nI 1) else (if p0 = (nI 2) then (nI 1) else 0)
theorem zX7_isPass (p0 : Int32) : fX7_isPass p0 = 0 ∨ fX7_isPass p0 = 1 := by
  unfold fX7_isPass
  repeat (first | exact Or.inl rfl | exact Or.inr rfl | split)
set_option maxRecDepth 20000 in
theorem kX7_isPass {X : Cx} (p0 : Int32) (σ : St) : Kon X 0 yX7_isPass cX7_isPass 1 (some .boolean) gI [.int p0] σ (some (fX7_isPass p0, σ)) := by
  refine konJ (own := RX7) (fun _ => gI) (fun a b => [.int p0]) (by decide +kernel) rfl (fun _ _ => Nat.le_of_ble_eq_true rfl) (fun Y C M => ?_)
  show V Y gI 0 [(0, .int p0)] [] σ (some (fX7_isPass p0, σ))
  have hz := zX7_isPass p0
  unfold fX7_isPass at hz ⊢
  refine v_iload_n 0 C dX7_isPass_0 rfl ?_
  refine v_iconst C dX7_isPass_1 kc_iconst_1 ?_
  refine v_cut (pcJ := 15) (lv := [(0, .int p0)]) (st := .int (if p0 = (nI 1) then (nI 1) else (if p0 = (nI 2) then (nI 1) else 0)) :: []) ?_ (fun hj1 => ?_)
  rotate_left
  · skip
    refine v_icmp_eq_b (tgt := 10) C dX7_isPass_2 (by decide) (fun h2 => ?_) (fun h2 => ?_)
    · have hj3 := v_jpos h2 hj1
      refine v_iconst C dX7_isPass_10 kc_iconst_1 ?_
      refine v_goto (tgt := 15) C dX7_isPass_11 (by decide) ?_
      exact hj3
    · have hj3 := v_jneg h2 hj1
      refine v_iload_n 0 C dX7_isPass_5 rfl ?_
      refine v_iconst C dX7_isPass_6 kc_iconst_2 ?_
      refine v_icmp_ne_b (tgt := 14) C dX7_isPass_7 (by decide) (fun h4 => ?_) (fun h4 => ?_)
      · have hj5 := v_jneg h4 hj3
        refine v_iconst C dX7_isPass_14 kc_iconst_0 ?_
        exact hj5
      · have hj5 := v_jpos h4 hj3
        refine v_iconst C dX7_isPass_10 kc_iconst_1 ?_
        refine v_goto (tgt := 15) C dX7_isPass_11 (by decide) ?_
        exact hj5
  exact v_zret C M hz dX7_isPass_15
-- OpenLines isTick(I)Z, depth 0
def fX7_isTick (p0 : Int32) : Int32 :=
  if p0 < 0 then 0 else (if (nI 400) < p0 then 0 else (nI 1))
theorem zX7_isTick (p0 : Int32) : fX7_isTick p0 = 0 ∨ fX7_isTick p0 = 1 := by
  unfold fX7_isTick
  repeat (first | exact Or.inl rfl | exact Or.inr rfl | split)
set_option maxRecDepth 20000 in
theorem kX7_isTick {X : Cx} (p0 : Int32) (σ : St) : Kon X 0 yX7_isTick cX7_isTick 1 (some .boolean) gI [.int p0] σ (some (fX7_isTick p0, σ)) := by
  refine konJ (own := RX7) (fun _ => gI) (fun a b => [.int p0]) (by decide +kernel) rfl (fun _ _ => Nat.le_of_ble_eq_true rfl) (fun Y C M => ?_)
  show V Y gI 0 [(0, .int p0)] [] σ (some (fX7_isTick p0, σ))
  have hz := zX7_isTick p0
  unfold fX7_isTick at hz ⊢
  refine v_iload_n 0 C dX7_isTick_0 rfl ?_
  refine v_cut (pcJ := 16) (lv := [(0, .int p0)]) (st := .int (if p0 < 0 then 0 else (if (nI 400) < p0 then 0 else (nI 1))) :: []) ?_ (fun hj1 => ?_)
  rotate_left
  · skip
    refine v_if_lt_b (tgt := 15) C dX7_isTick_1 (by decide) (fun h2 => ?_) (fun h2 => ?_)
    · have hj3 := v_jpos h2 hj1
      refine v_iconst C dX7_isTick_15 kc_iconst_0 ?_
      exact hj3
    · have hj3 := v_jneg h2 hj1
      refine v_iload_n 0 C dX7_isTick_4 rfl ?_
      refine v_sipush C dX7_isTick_5 kc_sipush_400 ?_
      refine v_icmp_gt_b (tgt := 15) C dX7_isTick_8 (by decide) (fun h4 => ?_) (fun h4 => ?_)
      · have hj5 := v_jpos h4 hj3
        refine v_iconst C dX7_isTick_15 kc_iconst_0 ?_
        exact hj5
      · have hj5 := v_jneg h4 hj3
        refine v_iconst C dX7_isTick_11 kc_iconst_1 ?_
        refine v_goto (tgt := 16) C dX7_isTick_12 (by decide) ?_
        exact hj5
  exact v_zret C M hz dX7_isTick_16
-- OpenLines isStepCount(I)Z, depth 0
def fX7_isStepCount (p0 : Int32) : Int32 :=
  if p0 < (nI 1) then 0 else (if (nI 999) < p0 then 0 else (nI 1))
theorem zX7_isStepCount (p0 : Int32) : fX7_isStepCount p0 = 0 ∨ fX7_isStepCount p0 = 1 := by
  unfold fX7_isStepCount
  repeat (first | exact Or.inl rfl | exact Or.inr rfl | split)
set_option maxRecDepth 20000 in
theorem kX7_isStepCount {X : Cx} (p0 : Int32) (σ : St) : Kon X 0 yX7_isStepCount cX7_isStepCount 1 (some .boolean) gI [.int p0] σ (some (fX7_isStepCount p0, σ)) := by
  refine konJ (own := RX7) (fun _ => gI) (fun a b => [.int p0]) (by decide +kernel) rfl (fun _ _ => Nat.le_of_ble_eq_true rfl) (fun Y C M => ?_)
  show V Y gI 0 [(0, .int p0)] [] σ (some (fX7_isStepCount p0, σ))
  have hz := zX7_isStepCount p0
  unfold fX7_isStepCount at hz ⊢
  refine v_iload_n 0 C dX7_isStepCount_0 rfl ?_
  refine v_iconst C dX7_isStepCount_1 kc_iconst_1 ?_
  refine v_cut (pcJ := 17) (lv := [(0, .int p0)]) (st := .int (if p0 < (nI 1) then 0 else (if (nI 999) < p0 then 0 else (nI 1))) :: []) ?_ (fun hj1 => ?_)
  rotate_left
  · skip
    refine v_icmp_lt_b (tgt := 16) C dX7_isStepCount_2 (by decide) (fun h2 => ?_) (fun h2 => ?_)
    · have hj3 := v_jpos h2 hj1
      refine v_iconst C dX7_isStepCount_16 kc_iconst_0 ?_
      exact hj3
    · have hj3 := v_jneg h2 hj1
      refine v_iload_n 0 C dX7_isStepCount_5 rfl ?_
      refine v_sipush C dX7_isStepCount_6 kc_sipush_999 ?_
      refine v_icmp_gt_b (tgt := 16) C dX7_isStepCount_9 (by decide) (fun h4 => ?_) (fun h4 => ?_)
      · have hj5 := v_jpos h4 hj3
        refine v_iconst C dX7_isStepCount_16 kc_iconst_0 ?_
        exact hj5
      · have hj5 := v_jneg h4 hj3
        refine v_iconst C dX7_isStepCount_12 kc_iconst_1 ?_
        refine v_goto (tgt := 17) C dX7_isStepCount_13 (by decide) ?_
        exact hj5
  exact v_zret C M hz dX7_isStepCount_17
-- OpenLinesModel in(III)Z, depth 0
def fX8_in (p0 : Int32) (p1 : Int32) (p2 : Int32) : Int32 :=
  if p0 < p1 then 0 else (if p2 < p0 then 0 else (nI 1))
theorem zX8_in (p0 : Int32) (p1 : Int32) (p2 : Int32) : fX8_in p0 p1 p2 = 0 ∨ fX8_in p0 p1 p2 = 1 := by
  unfold fX8_in
  repeat (first | exact Or.inl rfl | exact Or.inr rfl | split)
set_option maxRecDepth 20000 in
theorem kX8_in {X : Cx} (p0 : Int32) (p1 : Int32) (p2 : Int32) (σ : St) : Kon X 0 yX8_in cX8_in 3 (some .boolean) gI [.int p0, .int p1, .int p2] σ (some (fX8_in p0 p1 p2, σ)) := by
  refine konJ (own := RX8) (fun _ => gI) (fun a b => [.int p0, .int p1, .int p2]) (by decide +kernel) rfl (fun _ _ => Nat.le_of_ble_eq_true rfl) (fun Y C M => ?_)
  show V Y gI 0 [(0, .int p0), (1, .int p1), (2, .int p2)] [] σ (some (fX8_in p0 p1 p2, σ))
  have hz := zX8_in p0 p1 p2
  unfold fX8_in at hz ⊢
  refine v_iload_n 0 C dX8_in_0 rfl ?_
  refine v_iload_n 1 C dX8_in_1 rfl ?_
  refine v_cut (pcJ := 15) (lv := [(0, .int p0), (1, .int p1), (2, .int p2)]) (st := .int (if p0 < p1 then 0 else (if p2 < p0 then 0 else (nI 1))) :: []) ?_ (fun hj1 => ?_)
  rotate_left
  · skip
    refine v_icmp_lt_b (tgt := 14) C dX8_in_2 (by decide) (fun h2 => ?_) (fun h2 => ?_)
    · have hj3 := v_jpos h2 hj1
      refine v_iconst C dX8_in_14 kc_iconst_0 ?_
      exact hj3
    · have hj3 := v_jneg h2 hj1
      refine v_iload_n 0 C dX8_in_5 rfl ?_
      refine v_iload_n 2 C dX8_in_6 rfl ?_
      refine v_icmp_gt_b (tgt := 14) C dX8_in_7 (by decide) (fun h4 => ?_) (fun h4 => ?_)
      · have hj5 := v_jpos h4 hj3
        refine v_iconst C dX8_in_14 kc_iconst_0 ?_
        exact hj5
      · have hj5 := v_jneg h4 hj3
        refine v_iconst C dX8_in_10 kc_iconst_1 ?_
        refine v_goto (tgt := 15) C dX8_in_11 (by decide) ?_
        exact hj5
  exact v_zret C M hz dX8_in_15
-- OpenLinesModel at(II)I, depth 0
def fX8_at (p0 : Int32) (p1 : Int32) : Int32 :=
  ((nI 18) + ((nI 12) * p0)) + p1
set_option maxRecDepth 20000 in
theorem kX8_at {X : Cx} (p0 : Int32) (p1 : Int32) (σ : St) : Kon X 0 yX8_at cX8_at 2 (some .int) gI [.int p0, .int p1] σ (some (fX8_at p0 p1, σ)) := by
  refine konJ (own := RX8) (fun _ => gI) (fun a b => [.int p0, .int p1]) (by decide +kernel) rfl (fun _ _ => Nat.le_of_ble_eq_true rfl) (fun Y C M => ?_)
  show V Y gI 0 [(0, .int p0), (1, .int p1)] [] σ (some (fX8_at p0 p1, σ))
  unfold fX8_at
  refine v_bipush C dX8_at_0 kc_bipush_18 ?_
  refine v_bipush C dX8_at_2 kc_bipush_12 ?_
  refine v_iload_n 0 C dX8_at_4 rfl ?_
  refine v_imul C dX8_at_5 ?_
  refine v_iadd C dX8_at_6 ?_
  refine v_iload_n 1 C dX8_at_7 rfl ?_
  refine v_iadd C dX8_at_8 ?_
  exact v_iret C M dX8_at_9
-- OpenLinesModel has(II)Z, depth 0
def fX8_has (p0 : Int32) (p1 : Int32) : Int32 :=
  if ((p0 >>> (p1 &&& 31)) &&& (nI 1)) = (nI 1) then (nI 1) else 0
theorem zX8_has (p0 : Int32) (p1 : Int32) : fX8_has p0 p1 = 0 ∨ fX8_has p0 p1 = 1 := by
  unfold fX8_has
  repeat (first | exact Or.inl rfl | exact Or.inr rfl | split)
set_option maxRecDepth 20000 in
theorem kX8_has {X : Cx} (p0 : Int32) (p1 : Int32) (σ : St) : Kon X 0 yX8_has cX8_has 2 (some .boolean) gI [.int p0, .int p1] σ (some (fX8_has p0 p1, σ)) := by
  refine konJ (own := RX8) (fun _ => gI) (fun a b => [.int p0, .int p1]) (by decide +kernel) rfl (fun _ _ => Nat.le_of_ble_eq_true rfl) (fun Y C M => ?_)
  show V Y gI 0 [(0, .int p0), (1, .int p1)] [] σ (some (fX8_has p0 p1, σ))
  have hz := zX8_has p0 p1
  unfold fX8_has at hz ⊢
  refine v_iload_n 0 C dX8_has_0 rfl ?_
  refine v_iload_n 1 C dX8_has_1 rfl ?_
  refine v_ishr C dX8_has_2 ?_
  refine v_iconst C dX8_has_3 kc_iconst_1 ?_
  refine v_iand C dX8_has_4 ?_
  refine v_iconst C dX8_has_5 kc_iconst_1 ?_
  refine v_cut (pcJ := 14) (lv := [(0, .int p0), (1, .int p1)]) (st := .int (if ((p0 >>> (p1 &&& 31)) &&& (nI 1)) = (nI 1) then (nI 1) else 0) :: []) ?_ (fun hj1 => ?_)
  rotate_left
  · skip
    refine v_icmp_ne_b (tgt := 13) C dX8_has_6 (by decide) (fun h2 => ?_) (fun h2 => ?_)
    · have hj3 := v_jneg h2 hj1
      refine v_iconst C dX8_has_13 kc_iconst_0 ?_
      exact hj3
    · have hj3 := v_jpos h2 hj1
      refine v_iconst C dX8_has_9 kc_iconst_1 ?_
      refine v_goto (tgt := 14) C dX8_has_10 (by decide) ?_
      exact hj3
  exact v_zret C M hz dX8_has_14
-- OpenLinesModel cell(II)I, depth 0
def fX8_cell (p0 : Int32) (p1 : Int32) : Int32 :=
  ((nI 401) * p0) + p1
set_option maxRecDepth 20000 in
theorem kX8_cell {X : Cx} (p0 : Int32) (p1 : Int32) (σ : St) : Kon X 0 yX8_cell cX8_cell 2 (some .int) gI [.int p0, .int p1] σ (some (fX8_cell p0 p1, σ)) := by
  refine konJ (own := RX8) (fun _ => gI) (fun a b => [.int p0, .int p1]) (by decide +kernel) rfl (fun _ _ => Nat.le_of_ble_eq_true rfl) (fun Y C M => ?_)
  show V Y gI 0 [(0, .int p0), (1, .int p1)] [] σ (some (fX8_cell p0 p1, σ))
  unfold fX8_cell
  refine v_sipush C dX8_cell_0 kc_sipush_401 ?_
  refine v_iload_n 0 C dX8_cell_3 rfl ?_
  refine v_imul C dX8_cell_4 ?_
  refine v_iload_n 1 C dX8_cell_5 rfl ?_
  refine v_iadd C dX8_cell_6 ?_
  exact v_iret C M dX8_cell_7
-- OpenLinesModel unless(Z)I, depth 0
def fX8_unless (p0 : Int32) : Int32 :=
  if p0 = 0 then (nI 1) else 0
set_option maxRecDepth 20000 in
theorem kX8_unless {X : Cx} (p0 : Int32) (σ : St) : Kon X 0 yX8_unless cX8_unless 1 (some .int) gI [.int p0] σ (some (fX8_unless p0, σ)) := by
  refine konJ (own := RX8) (fun _ => gI) (fun a b => [.int p0]) (by decide +kernel) rfl (fun _ _ => Nat.le_of_ble_eq_true rfl) (fun Y C M => ?_)
  show V Y gI 0 [(0, .int p0)] [] σ (some (fX8_unless p0, σ))
  unfold fX8_unless
  refine v_iload_n 0 C dX8_unless_0 rfl ?_
  refine v_cut (pcJ := 9) (lv := [(0, .int p0)]) (st := .int (if p0 = 0 then (nI 1) else 0) :: []) ?_ (fun hj1 => ?_)
  rotate_left
  · skip
    refine v_if_eq_b (tgt := 8) C dX8_unless_1 (by decide) (fun h2 => ?_) (fun h2 => ?_)
    · have hj3 := v_jpos h2 hj1
      refine v_iconst C dX8_unless_8 kc_iconst_1 ?_
      exact hj3
    · have hj3 := v_jneg h2 hj1
      refine v_iconst C dX8_unless_4 kc_iconst_0 ?_
      refine v_goto (tgt := 9) C dX8_unless_5 (by decide) ?_
      exact hj3
  exact v_iret C M dX8_unless_9
end
