noncomputable section
-- OpenLinesModel thrown()I, depth 0
def fX8_thrown (σ : St) : Option (Int32 × St) :=
  some (σ.1 8 0 0, σ)
set_option maxRecDepth 20000 in
theorem kX8_thrown {X : Cx} (σ : St) : Kon X 0 yX8_thrown cX8_thrown 1 (some .int) gI [.ref (adr X 8 0)] σ (fX8_thrown σ) := by
  refine konJ (own := RX8) (fun _ => gI) (fun a b => [.ref (a 8 0)]) (by decide +kernel) rfl (fun _ _ => Nat.le_of_ble_eq_true rfl) (fun Y C M => ?_)
  show V Y gI 0 [(0, .ref (adr Y 8 0))] [] σ (fX8_thrown σ)
  unfold fX8_thrown
  refine v_aload_n 0 C dX8_thrown_0 rfl ?_
  refine v_geti C dX8_thrown_1 lf_X8_54 ck_8 (by decide) ?_
  exact v_iret C M dX8_thrown_4
-- OpenLinesModel no(I)I, depth 0
def fX8_no (p1 : Int32) (σ : St) : Option (Int32 × St) :=
  lt (wI σ 8 0 1 p1) fun (σ1 : St) => some ((-1), σ1)
set_option maxRecDepth 20000 in
theorem kX8_no {X : Cx} (p1 : Int32) (σ : St) : Kon X 0 yX8_no cX8_no 2 (some .int) gI [.ref (adr X 8 0), .int p1] σ (fX8_no p1 σ) := by
  refine konJ (own := RX8) (fun _ => gI) (fun a b => [.ref (a 8 0), .int p1]) (by decide +kernel) rfl (fun _ _ => Nat.le_of_ble_eq_true rfl) (fun Y C M => ?_)
  show V Y gI 0 [(0, .ref (adr Y 8 0)), (1, .int p1)] [] σ (fX8_no p1 σ)
  unfold fX8_no
  refine v_aload_n 0 C dX8_no_0 rfl ?_
  refine v_iload_n 1 C dX8_no_1 rfl ?_
  refine v_putiL C dX8_no_2 lp_X8_57 ck_8 (by decide) (fun σ1 => ?_)
  refine v_iconst C dX8_no_5 kc_iconst_m1 ?_
  exact v_iret C M dX8_no_6
-- OpenLinesModel isRefused(I)Z, depth 0
def fX8_isRefused (p1 : Int32) (σ : St) : Option (Int32 × St) :=
  lt (wI σ 8 0 0 0) fun (σ1 : St) => lt (wI σ1 8 0 3 (-1)) fun (σ2 : St) => lt (wI σ2 8 0 1 p1) fun (σ3 : St) => rz (if p1 = 0 then 0 else (nI 1)) σ3
set_option maxRecDepth 20000 in
theorem kX8_isRefused {X : Cx} (p1 : Int32) (σ : St) : Kon X 0 yX8_isRefused cX8_isRefused 2 (some .boolean) gI [.ref (adr X 8 0), .int p1] σ (fX8_isRefused p1 σ) := by
  refine konJ (own := RX8) (fun _ => gI) (fun a b => [.ref (a 8 0), .int p1]) (by decide +kernel) rfl (fun _ _ => Nat.le_of_ble_eq_true rfl) (fun Y C M => ?_)
  show V Y gI 0 [(0, .ref (adr Y 8 0)), (1, .int p1)] [] σ (fX8_isRefused p1 σ)
  unfold fX8_isRefused
  refine v_aload_n 0 C dX8_isRefused_0 rfl ?_
  refine v_iconst C dX8_isRefused_1 kc_iconst_0 ?_
  refine v_putiL C dX8_isRefused_2 lp_X8_54 ck_8 (by decide) (fun σ1 => ?_)
  refine v_aload_n 0 C dX8_isRefused_5 rfl ?_
  refine v_iconst C dX8_isRefused_6 kc_iconst_m1 ?_
  refine v_putiL C dX8_isRefused_7 lp_X8_9 ck_8 (by decide) (fun σ2 => ?_)
  refine v_aload_n 0 C dX8_isRefused_10 rfl ?_
  refine v_iload_n 1 C dX8_isRefused_11 rfl ?_
  refine v_putiL C dX8_isRefused_12 lp_X8_57 ck_8 (by decide) (fun σ3 => ?_)
  refine v_iload_n 1 C dX8_isRefused_15 rfl ?_
  refine v_cut (pcJ := 24) (lv := [(0, .ref (adr Y 8 0)), (1, .int p1)]) (st := .int (if p1 = 0 then 0 else (nI 1)) :: []) ?_ (fun hj4 => ?_)
  rotate_left
  · skip
    refine v_if_eq_b (tgt := 23) C dX8_isRefused_16 (by decide) (fun h5 => ?_) (fun h5 => ?_)
    · have hj6 := v_jpos h5 hj4
      refine v_iconst C dX8_isRefused_23 kc_iconst_0 ?_
      exact hj6
    · have hj6 := v_jneg h5 hj4
      refine v_iconst C dX8_isRefused_19 kc_iconst_1 ?_
      refine v_goto (tgt := 24) C dX8_isRefused_20 (by decide) ?_
      exact hj6
  exact v_zretg C M dX8_isRefused_24
-- OpenLinesModel laysWord(I)V, depth 0
def LX8_laysWord_2 (a1 : Int32) (ke : St → Option (Unit × St)) : Nat → Int32 → St → Option (Unit × St)
  | 0, _, _ => none
  | n + 1, b2, σ => (if (nI 4) ≤ b2 then ke σ else gi ((σ.1 8 0 5) + b2) 700 <| lt (wI σ 43 0 ((σ.1 8 0 5) + b2).toNatClampNeg ((a1 >>> (((nI 24) - ((nI 8) * b2)) &&& 31)) &&& (nI 255))) fun (σ1 : St) => LX8_laysWord_2 a1 ke n (b2 + nI 1) σ1)
def fX8_laysWord (p1 : Int32) (σ : St) : Option (Unit × St) :=
  (LX8_laysWord_2 p1 (fun (σ2 : St) => lt (wI σ2 8 0 5 ((σ2.1 8 0 5) + (nI 4))) fun (σ3 : St) => some ((), σ3)) FU 0 σ)
set_option maxRecDepth 20000 in
theorem vLX8_laysWord_2 {Y : Cx} (a1 : Int32) (C : Ok Y RX8 cX8_laysWord 3 0) (M : OkM Y none) (ke : St → Option (Unit × St)) (hke : ∀ (σ : St), V Y gV 37 [(0, .ref (adr Y 8 0))] [] σ (ke σ)) : ∀ (n : Nat) (b2 : Int32) (σ : St), V Y gV 2 [(0, .ref (adr Y 8 0)), (1, .int a1), (2, .int b2)] [] σ (LX8_laysWord_2 a1 ke n b2 σ) := by
  intro n
  induction n with
  | zero => intros; exact v_none
  | succ n ih =>
    intro b2 σ
    rw [LX8_laysWord_2]
    refine v_iload_n 2 C dX8_laysWord_2 rfl ?_
    refine v_iconst C dX8_laysWord_3 kc_iconst_4 ?_
    refine v_icmp_ge (tgt := 37) C dX8_laysWord_4 (by decide) ?_ ?_
    · skip
      exact v_lv (hke σ) [0] rfl
    · skip
      refine v_aload_n 0 C dX8_laysWord_7 rfl ?_
      refine v_getc C dX8_laysWord_8 lf_X8_13 ck_8 rfl ?_
      refine v_aload_n 0 C dX8_laysWord_11 rfl ?_
      refine v_geti C dX8_laysWord_12 lf_X8_60 ck_8 (by decide) ?_
      refine v_iload_n 2 C dX8_laysWord_15 rfl ?_
      refine v_iadd C dX8_laysWord_16 ?_
      refine v_iload_n 1 C dX8_laysWord_17 rfl ?_
      refine v_bipush C dX8_laysWord_18 kc_bipush_24 ?_
      refine v_bipush C dX8_laysWord_20 kc_bipush_8 ?_
      refine v_iload_n 2 C dX8_laysWord_22 rfl ?_
      refine v_imul C dX8_laysWord_23 ?_
      refine v_isub C dX8_laysWord_24 ?_
      refine v_ishr C dX8_laysWord_25 ?_
      refine v_sipush C dX8_laysWord_26 kc_sipush_255 ?_
      refine v_iand C dX8_laysWord_29 ?_
      refine v_iastoreL C dX8_laysWord_30 ck_43 (by decide) rfl (fun σ1 => ?_)
      refine v_iinc (lv' := [(2, .int (b2 + nI 1)), (0, .ref (adr Y 8 0)), (1, .int a1)]) 2 C dX8_laysWord_31 rfl (congrArg (b2 + ·) kc_iconst_1) (by decide) rfl ?_
      refine v_goto (tgt := 2) C dX8_laysWord_34 (by decide) ?_
      exact v_lv (ih (b2 + nI 1) σ1) [1, 2, 0] rfl
set_option maxRecDepth 20000 in
theorem kX8_laysWord {X : Cx} (p1 : Int32) (σ : St) : Kon X 0 yX8_laysWord cX8_laysWord 3 none gV [.ref (adr X 8 0), .int p1] σ (fX8_laysWord p1 σ) := by
  refine konJ (own := RX8) (fun _ => gV) (fun a b => [.ref (a 8 0), .int p1]) (by decide +kernel) rfl (fun _ _ => Nat.le_of_ble_eq_true rfl) (fun Y C M => ?_)
  show V Y gV 0 [(0, .ref (adr Y 8 0)), (1, .int p1)] [] σ (fX8_laysWord p1 σ)
  unfold fX8_laysWord
  refine v_iconst C dX8_laysWord_0 kc_iconst_0 ?_
  refine v_istore_n (lv' := [(2, .int 0), (0, .ref (adr Y 8 0)), (1, .int p1)]) C dX8_laysWord_1 rfl (by decide) rfl ?_
  refine v_lv (vLX8_laysWord_2 _ C M _ (fun σ2 => ?_) FU _ _) [1, 2, 0] rfl
  refine v_aload_n 0 C dX8_laysWord_37 rfl ?_
  refine v_dup C dX8_laysWord_38 rfl ?_
  refine v_geti C dX8_laysWord_39 lf_X8_60 ck_8 (by decide) ?_
  refine v_iconst C dX8_laysWord_42 kc_iconst_4 ?_
  refine v_iadd C dX8_laysWord_43 ?_
  refine v_putiL C dX8_laysWord_44 lp_X8_60 ck_8 (by decide) (fun σ3 => ?_)
  exact v_vret C M dX8_laysWord_47
-- OpenLinesModel feed(IIIII)I, depth 1
def fX8_feed (p1 : Int32) (p2 : Int32) (p3 : Int32) (p4 : Int32) (p5 : Int32) (σ : St) : Option (Int32 × St) :=
  lt (wI σ 8 0 0 0) fun (σ1 : St) => (if (σ1.1 8 0 5) ≤ (nI 680) then bd (fX8_laysWord p1 σ1) fun _ (σ2 : St) => bd (fX8_laysWord p2 σ2) fun _ (σ3 : St) => bd (fX8_laysWord p3 σ3) fun _ (σ4 : St) => bd (fX8_laysWord p4 σ4) fun _ (σ5 : St) => bd (fX8_laysWord p5 σ5) fun _ (σ6 : St) => some (σ6.1 8 0 5, σ6) else some ((-1), σ1))
set_option maxRecDepth 20000 in
theorem kX8_feed {X : Cx} (p1 : Int32) (p2 : Int32) (p3 : Int32) (p4 : Int32) (p5 : Int32) (σ : St) : Kon X 1 yX8_feed cX8_feed 6 (some .int) gI [.ref (adr X 8 0), .int p1, .int p2, .int p3, .int p4, .int p5] σ (fX8_feed p1 p2 p3 p4 p5 σ) := by
  refine konJ (own := RX8) (fun _ => gI) (fun a b => [.ref (a 8 0), .int p1, .int p2, .int p3, .int p4, .int p5]) (by decide +kernel) rfl (fun _ _ => Nat.le_of_ble_eq_true rfl) (fun Y C M => ?_)
  show V Y gI 0 [(0, .ref (adr Y 8 0)), (1, .int p1), (2, .int p2), (3, .int p3), (4, .int p4), (5, .int p5)] [] σ (fX8_feed p1 p2 p3 p4 p5 σ)
  unfold fX8_feed
  refine v_aload_n 0 C dX8_feed_0 rfl ?_
  refine v_iconst C dX8_feed_1 kc_iconst_0 ?_
  refine v_putiL C dX8_feed_2 lp_X8_54 ck_8 (by decide) (fun σ1 => ?_)
  refine v_aload_n 0 C dX8_feed_5 rfl ?_
  refine v_geti C dX8_feed_6 lf_X8_60 ck_8 (by decide) ?_
  refine v_sipush C dX8_feed_9 kc_sipush_680 ?_
  refine v_icmp_le (tgt := 17) C dX8_feed_12 (by decide) ?_ ?_
  · skip
    refine v_aload_n 0 C dX8_feed_17 rfl ?_
    refine v_iload_n 1 C dX8_feed_18 rfl ?_
    refine v_cV1v C dX8_feed_19 lv_X8_63 ck_8 (kX8_laysWord p1 _) (by decide) (Nat.le_of_ble_eq_true rfl) (fun _ σ2 => ?_)
    refine v_aload_n 0 C dX8_feed_22 rfl ?_
    refine v_iload_n 2 C dX8_feed_23 rfl ?_
    refine v_cV1v C dX8_feed_24 lv_X8_63 ck_8 (kX8_laysWord p2 _) (by decide) (Nat.le_of_ble_eq_true rfl) (fun _ σ3 => ?_)
    refine v_aload_n 0 C dX8_feed_27 rfl ?_
    refine v_iload_n 3 C dX8_feed_28 rfl ?_
    refine v_cV1v C dX8_feed_29 lv_X8_63 ck_8 (kX8_laysWord p3 _) (by decide) (Nat.le_of_ble_eq_true rfl) (fun _ σ4 => ?_)
    refine v_aload_n 0 C dX8_feed_32 rfl ?_
    refine v_iload 4 C dX8_feed_33 rfl ?_
    refine v_cV1v C dX8_feed_35 lv_X8_63 ck_8 (kX8_laysWord p4 _) (by decide) (Nat.le_of_ble_eq_true rfl) (fun _ σ5 => ?_)
    refine v_aload_n 0 C dX8_feed_38 rfl ?_
    refine v_iload 5 C dX8_feed_39 rfl ?_
    refine v_cV1v C dX8_feed_41 lv_X8_63 ck_8 (kX8_laysWord p5 _) (by decide) (Nat.le_of_ble_eq_true rfl) (fun _ σ6 => ?_)
    refine v_aload_n 0 C dX8_feed_44 rfl ?_
    refine v_geti C dX8_feed_45 lf_X8_60 ck_8 (by decide) ?_
    exact v_iret C M dX8_feed_48
  · skip
    refine v_iconst C dX8_feed_15 kc_iconst_m1 ?_
    exact v_iret C M dX8_feed_16
-- OpenLinesModel see(I)I, depth 0
def fX8_see (p1 : Int32) (σ : St) : Option (Int32 × St) :=
  (if (σ.1 8 0 10) ≤ p1 then some ((-1), σ) else gi p1 700 <| some (σ.1 43 0 p1.toNatClampNeg, σ))
set_option maxRecDepth 20000 in
theorem kX8_see {X : Cx} (p1 : Int32) (σ : St) : Kon X 0 yX8_see cX8_see 2 (some .int) gI [.ref (adr X 8 0), .int p1] σ (fX8_see p1 σ) := by
  refine konJ (own := RX8) (fun _ => gI) (fun a b => [.ref (a 8 0), .int p1]) (by decide +kernel) rfl (fun _ _ => Nat.le_of_ble_eq_true rfl) (fun Y C M => ?_)
  show V Y gI 0 [(0, .ref (adr Y 8 0)), (1, .int p1)] [] σ (fX8_see p1 σ)
  unfold fX8_see
  refine v_iload_n 1 C dX8_see_0 rfl ?_
  refine v_aload_n 0 C dX8_see_1 rfl ?_
  refine v_geti C dX8_see_2 lf_X8_67 ck_8 (by decide) ?_
  refine v_icmp_ge (tgt := 17) C dX8_see_5 (by decide) ?_ ?_
  · skip
    refine v_iconst C dX8_see_17 kc_iconst_m1 ?_
    exact v_iret C M dX8_see_18
  · skip
    refine v_aload_n 0 C dX8_see_8 rfl ?_
    refine v_getc C dX8_see_9 lf_X8_13 ck_8 rfl ?_
    refine v_iload_n 1 C dX8_see_12 rfl ?_
    refine v_iaload C dX8_see_13 ck_43 (by decide) rfl ?_
    refine v_goto (tgt := 18) C dX8_see_14 (by decide) ?_
    exact v_iret C M dX8_see_18
-- OpenLinesModel goesOn()V, depth 1
def LX8_goesOn_0 (ke : St → Option (Unit × St)) : Nat → St → Option (Unit × St)
  | 0, _ => none
  | n + 1, σ => bd (fX8_see (σ.1 8 0 12) σ) fun (r2 : Int32) (σ1 : St) => (if r2 = (nI 32) then lt (wI σ1 8 0 12 ((σ1.1 8 0 12) + (nI 1))) fun (σ3 : St) => LX8_goesOn_0 ke n σ3 else ke σ1)
def LX8_goesOn_136 (ke : St → Option (Unit × St)) : Nat → St → Option (Unit × St)
  | 0, _ => none
  | n + 1, σ => bd (fX8_see (σ.1 8 0 12) σ) fun (r15 : Int32) (σ14 : St) => (if (fX8_in r15 (nI 48) (nI 57)) = 0 then ke σ14 else (jn (fun (x17 : Int32) (σ16 : St) => lt (wI σ16 8 0 14 x17) fun (σ18 : St) => lt (wI σ18 8 0 12 ((σ18.1 8 0 12) + (nI 1))) fun (σ19 : St) => LX8_goesOn_136 ke n σ19) fun j194 => if (nI 3) ≤ ((σ14.1 8 0 12) - (σ14.1 8 0 11)) then j194 (σ14.1 8 0 14) σ14 else bd (fX8_see (σ14.1 8 0 12) σ14) fun (r21 : Int32) (σ20 : St) => j194 ((((nI 10) * (σ14.1 8 0 14)) + r21) - (nI 48)) σ20))
def LX8_goesOn_65 (ke : St → Option (Unit × St)) : Nat → St → Option (Unit × St)
  | 0, _ => none
  | n + 1, σ => bd (fX8_see (σ.1 8 0 12) σ) fun (r28 : Int32) (σ27 : St) => (if (fX8_in r28 (nI 97) (nI 122)) = 0 then ke σ27 else lt (wI σ27 8 0 12 ((σ27.1 8 0 12) + (nI 1))) fun (σ29 : St) => LX8_goesOn_65 ke n σ29)
def fX8_goesOn (σ : St) : Option (Unit × St) :=
  (LX8_goesOn_0 (fun (σ4 : St) => lt (wI σ4 8 0 11 (σ4.1 8 0 12)) fun (σ5 : St) => bd (fX8_see (σ5.1 8 0 12) σ5) fun (r7 : Int32) (σ6 : St) => (if r7 = (-1) then lt (wI σ6 8 0 13 0) fun (σ35 : St) => some ((), σ35) else (if (fX8_in r7 (nI 97) (nI 122)) = 0 then (if (fX8_in r7 (nI 48) (nI 57)) = 0 then lt (wI σ6 8 0 12 ((σ6.1 8 0 12) + (nI 1))) fun (σ8 : St) => lt (wI σ8 8 0 13 (if r7 = (nI 59) then r7 else (nI 1))) fun (σ12 : St) => some ((), σ12) else lt (wI σ6 8 0 14 0) fun (σ13 : St) => (LX8_goesOn_136 (fun (σ22 : St) => lt (wI σ22 8 0 13 (if ((σ22.1 8 0 12) - (σ22.1 8 0 11)) ≤ (nI 3) then (nI 3) else (nI 1))) fun (σ26 : St) => some ((), σ26)) FU σ13)) else (LX8_goesOn_65 (fun (σ30 : St) => lt (wI σ30 8 0 13 (if ((σ30.1 8 0 12) - (σ30.1 8 0 11)) ≤ (nI 6) then (nI 2) else (nI 1))) fun (σ34 : St) => some ((), σ34)) FU σ6)))) FU σ)
set_option maxRecDepth 20000 in
theorem vLX8_goesOn_0 {Y : Cx} (C : Ok Y RX8 cX8_goesOn 2 1) (M : OkM Y none) (ke : St → Option (Unit × St)) (hke : ∀ (σ : St), V Y gV 26 [(0, .ref (adr Y 8 0))] [] σ (ke σ)) : ∀ (n : Nat) (σ : St), V Y gV 0 [(0, .ref (adr Y 8 0))] [] σ (LX8_goesOn_0 ke n σ) := by
  intro n
  induction n with
  | zero => intros; exact v_none
  | succ n ih =>
    intro σ
    rw [LX8_goesOn_0]
    refine v_aload_n 0 C dX8_goesOn_0 rfl ?_
    refine v_aload_n 0 C dX8_goesOn_1 rfl ?_
    refine v_geti C dX8_goesOn_2 lf_X8_70 ck_8 (by decide) ?_
    refine v_cV1i C dX8_goesOn_5 lv_X8_73 ck_8 (kX8_see (σ.1 8 0 12) _) (by decide) (Nat.le_of_ble_eq_true rfl) (fun r2 σ1 => ?_)
    refine v_bipush C dX8_goesOn_8 kc_bipush_32 ?_
    refine v_icmp_ne (tgt := 26) C dX8_goesOn_10 (by decide) ?_ ?_
    · skip
      exact v_lv (hke σ1) [0] rfl
    · skip
      refine v_aload_n 0 C dX8_goesOn_13 rfl ?_
      refine v_dup C dX8_goesOn_14 rfl ?_
      refine v_geti C dX8_goesOn_15 lf_X8_70 ck_8 (by decide) ?_
      refine v_iconst C dX8_goesOn_18 kc_iconst_1 ?_
      refine v_iadd C dX8_goesOn_19 ?_
      refine v_putiL C dX8_goesOn_20 lp_X8_70 ck_8 (by decide) (fun σ3 => ?_)
      refine v_goto (tgt := 0) C dX8_goesOn_23 (by decide) ?_
      exact v_lv (ih σ3) [0] rfl
set_option maxRecDepth 20000 in
theorem vLX8_goesOn_136 {Y : Cx} (C : Ok Y RX8 cX8_goesOn 2 1) (M : OkM Y none) (ke : St → Option (Unit × St)) (hke : ∀ (σ : St), V Y gV 210 [(0, .ref (adr Y 8 0))] [] σ (ke σ)) : ∀ (n : Nat) (σ : St), V Y gV 136 [(0, .ref (adr Y 8 0))] [] σ (LX8_goesOn_136 ke n σ) := by
  intro n
  induction n with
  | zero => intros; exact v_none
  | succ n ih =>
    intro σ
    rw [LX8_goesOn_136]
    refine v_aload_n 0 C dX8_goesOn_136 rfl ?_
    refine v_aload_n 0 C dX8_goesOn_137 rfl ?_
    refine v_geti C dX8_goesOn_138 lf_X8_70 ck_8 (by decide) ?_
    refine v_cV1i C dX8_goesOn_141 lv_X8_73 ck_8 (kX8_see (σ.1 8 0 12) _) (by decide) (Nat.le_of_ble_eq_true rfl) (fun r15 σ14 => ?_)
    refine v_bipush C dX8_goesOn_144 kc_bipush_48 ?_
    refine v_bipush C dX8_goesOn_146 kc_bipush_57 ?_
    refine v_cS3p C dX8_goesOn_148 ls_X8_83 (kX8_in r15 (nI 48) (nI 57) _) (by decide) (Nat.le_of_ble_eq_true rfl) ?_
    refine v_if_eq (tgt := 210) C dX8_goesOn_151 (by decide) ?_ ?_
    · skip
      exact v_lv (hke σ14) [0] rfl
    · skip
      refine v_aload_n 0 C dX8_goesOn_154 rfl ?_
      refine v_aload_n 0 C dX8_goesOn_155 rfl ?_
      refine v_geti C dX8_goesOn_156 lf_X8_70 ck_8 (by decide) ?_
      refine v_aload_n 0 C dX8_goesOn_159 rfl ?_
      refine v_geti C dX8_goesOn_160 lf_X8_77 ck_8 (by decide) ?_
      refine v_isub C dX8_goesOn_163 ?_
      refine v_iconst C dX8_goesOn_164 kc_iconst_3 ?_
      refine v_jn (fun j194 => ∀ (x17 : Int32) (σ16 : St), V Y gV 194 [(0, .ref (adr Y 8 0))] [.int x17, .ref (adr Y 8 0)] σ16 (j194 x17 σ16)) ?_ ?_
      · intro x17 σ16
        refine v_putiL C dX8_goesOn_194 lp_X8_87 ck_8 (by decide) (fun σ18 => ?_)
        refine v_aload_n 0 C dX8_goesOn_197 rfl ?_
        refine v_dup C dX8_goesOn_198 rfl ?_
        refine v_geti C dX8_goesOn_199 lf_X8_70 ck_8 (by decide) ?_
        refine v_iconst C dX8_goesOn_202 kc_iconst_1 ?_
        refine v_iadd C dX8_goesOn_203 ?_
        refine v_putiL C dX8_goesOn_204 lp_X8_70 ck_8 (by decide) (fun σ19 => ?_)
        refine v_goto (tgt := 136) C dX8_goesOn_207 (by decide) ?_
        exact v_lv (ih σ19) [0] rfl
      · intro j194 hj194
        refine v_icmp_ge (tgt := 190) C dX8_goesOn_165 (by decide) ?_ ?_
        · skip
          refine v_aload_n 0 C dX8_goesOn_190 rfl ?_
          refine v_geti C dX8_goesOn_191 lf_X8_87 ck_8 (by decide) ?_
          exact v_lv (hj194 (σ14.1 8 0 14) σ14) [0] rfl
        · skip
          refine v_bipush C dX8_goesOn_168 kc_bipush_10 ?_
          refine v_aload_n 0 C dX8_goesOn_170 rfl ?_
          refine v_geti C dX8_goesOn_171 lf_X8_87 ck_8 (by decide) ?_
          refine v_imul C dX8_goesOn_174 ?_
          refine v_aload_n 0 C dX8_goesOn_175 rfl ?_
          refine v_aload_n 0 C dX8_goesOn_176 rfl ?_
          refine v_geti C dX8_goesOn_177 lf_X8_70 ck_8 (by decide) ?_
          refine v_cV1i C dX8_goesOn_180 lv_X8_73 ck_8 (kX8_see (σ14.1 8 0 12) _) (by decide) (Nat.le_of_ble_eq_true rfl) (fun r21 σ20 => ?_)
          refine v_iadd C dX8_goesOn_183 ?_
          refine v_bipush C dX8_goesOn_184 kc_bipush_48 ?_
          refine v_isub C dX8_goesOn_186 ?_
          refine v_goto (tgt := 194) C dX8_goesOn_187 (by decide) ?_
          exact v_lv (hj194 ((((nI 10) * (σ14.1 8 0 14)) + r21) - (nI 48)) σ20) [0] rfl
set_option maxRecDepth 20000 in
theorem vLX8_goesOn_65 {Y : Cx} (C : Ok Y RX8 cX8_goesOn 2 1) (M : OkM Y none) (ke : St → Option (Unit × St)) (hke : ∀ (σ : St), V Y gV 96 [(0, .ref (adr Y 8 0))] [] σ (ke σ)) : ∀ (n : Nat) (σ : St), V Y gV 65 [(0, .ref (adr Y 8 0))] [] σ (LX8_goesOn_65 ke n σ) := by
  intro n
  induction n with
  | zero => intros; exact v_none
  | succ n ih =>
    intro σ
    rw [LX8_goesOn_65]
    refine v_aload_n 0 C dX8_goesOn_65 rfl ?_
    refine v_aload_n 0 C dX8_goesOn_66 rfl ?_
    refine v_geti C dX8_goesOn_67 lf_X8_70 ck_8 (by decide) ?_
    refine v_cV1i C dX8_goesOn_70 lv_X8_73 ck_8 (kX8_see (σ.1 8 0 12) _) (by decide) (Nat.le_of_ble_eq_true rfl) (fun r28 σ27 => ?_)
    refine v_bipush C dX8_goesOn_73 kc_bipush_97 ?_
    refine v_bipush C dX8_goesOn_75 kc_bipush_122 ?_
    refine v_cS3p C dX8_goesOn_77 ls_X8_83 (kX8_in r28 (nI 97) (nI 122) _) (by decide) (Nat.le_of_ble_eq_true rfl) ?_
    refine v_if_eq (tgt := 96) C dX8_goesOn_80 (by decide) ?_ ?_
    · skip
      exact v_lv (hke σ27) [0] rfl
    · skip
      refine v_aload_n 0 C dX8_goesOn_83 rfl ?_
      refine v_dup C dX8_goesOn_84 rfl ?_
      refine v_geti C dX8_goesOn_85 lf_X8_70 ck_8 (by decide) ?_
      refine v_iconst C dX8_goesOn_88 kc_iconst_1 ?_
      refine v_iadd C dX8_goesOn_89 ?_
      refine v_putiL C dX8_goesOn_90 lp_X8_70 ck_8 (by decide) (fun σ29 => ?_)
      refine v_goto (tgt := 65) C dX8_goesOn_93 (by decide) ?_
      exact v_lv (ih σ29) [0] rfl
set_option maxRecDepth 20000 in
theorem kX8_goesOn {X : Cx} (σ : St) : Kon X 1 yX8_goesOn cX8_goesOn 2 none gV [.ref (adr X 8 0)] σ (fX8_goesOn σ) := by
  refine konJ (own := RX8) (fun _ => gV) (fun a b => [.ref (a 8 0)]) (by decide +kernel) rfl (fun _ _ => Nat.le_of_ble_eq_true rfl) (fun Y C M => ?_)
  show V Y gV 0 [(0, .ref (adr Y 8 0))] [] σ (fX8_goesOn σ)
  unfold fX8_goesOn
  refine v_lv (vLX8_goesOn_0 C M _ (fun σ4 => ?_) FU _) [0] rfl
  refine v_aload_n 0 C dX8_goesOn_26 rfl ?_
  refine v_aload_n 0 C dX8_goesOn_27 rfl ?_
  refine v_geti C dX8_goesOn_28 lf_X8_70 ck_8 (by decide) ?_
  refine v_putiL C dX8_goesOn_31 lp_X8_77 ck_8 (by decide) (fun σ5 => ?_)
  refine v_aload_n 0 C dX8_goesOn_34 rfl ?_
  refine v_aload_n 0 C dX8_goesOn_35 rfl ?_
  refine v_geti C dX8_goesOn_36 lf_X8_70 ck_8 (by decide) ?_
  refine v_cV1i C dX8_goesOn_39 lv_X8_73 ck_8 (kX8_see (σ5.1 8 0 12) _) (by decide) (Nat.le_of_ble_eq_true rfl) (fun r7 σ6 => ?_)
  refine v_istore_n (lv' := [(1, .int r7), (0, .ref (adr Y 8 0))]) C dX8_goesOn_42 rfl (by decide) rfl ?_
  refine v_iload_n 0 C dX8_goesOn_43 rfl ?_
  refine v_iconst C dX8_goesOn_44 kc_iconst_m1 ?_
  refine v_icmp_ne (tgt := 54) C dX8_goesOn_45 (by decide) ?_ ?_
  · skip
    refine v_iload_n 0 C dX8_goesOn_54 rfl ?_
    refine v_bipush C dX8_goesOn_55 kc_bipush_97 ?_
    refine v_bipush C dX8_goesOn_57 kc_bipush_122 ?_
    refine v_cS3p C dX8_goesOn_59 ls_X8_83 (kX8_in r7 (nI 97) (nI 122) _) (by decide) (Nat.le_of_ble_eq_true rfl) ?_
    refine v_if_eq (tgt := 120) C dX8_goesOn_62 (by decide) ?_ ?_
    · skip
      refine v_iload_n 0 C dX8_goesOn_120 rfl ?_
      refine v_bipush C dX8_goesOn_121 kc_bipush_48 ?_
      refine v_bipush C dX8_goesOn_123 kc_bipush_57 ?_
      refine v_cS3p C dX8_goesOn_125 ls_X8_83 (kX8_in r7 (nI 48) (nI 57) _) (by decide) (Nat.le_of_ble_eq_true rfl) ?_
      refine v_if_eq (tgt := 233) C dX8_goesOn_128 (by decide) ?_ ?_
      · skip
        refine v_aload_n 1 C dX8_goesOn_233 rfl ?_
        refine v_dup C dX8_goesOn_234 rfl ?_
        refine v_geti C dX8_goesOn_235 lf_X8_70 ck_8 (by decide) ?_
        refine v_iconst C dX8_goesOn_238 kc_iconst_1 ?_
        refine v_iadd C dX8_goesOn_239 ?_
        refine v_putiL C dX8_goesOn_240 lp_X8_70 ck_8 (by decide) (fun σ8 => ?_)
        refine v_aload_n 1 C dX8_goesOn_243 rfl ?_
        refine v_iload_n 0 C dX8_goesOn_244 rfl ?_
        refine v_bipush C dX8_goesOn_245 kc_bipush_59 ?_
        refine v_cut (pcJ := 255) (lv := [(1, .int r7), (0, .ref (adr Y 8 0))]) (st := .int (if r7 = (nI 59) then r7 else (nI 1)) :: [.ref (adr Y 8 0)]) ?_ (fun hj9 => ?_)
        rotate_left
        · skip
          refine v_icmp_ne_b (tgt := 254) C dX8_goesOn_247 (by decide) (fun h10 => ?_) (fun h10 => ?_)
          · have hj11 := v_jneg h10 hj9
            refine v_iconst C dX8_goesOn_254 kc_iconst_1 ?_
            exact hj11
          · have hj11 := v_jpos h10 hj9
            refine v_iload_n 0 C dX8_goesOn_250 rfl ?_
            refine v_goto (tgt := 255) C dX8_goesOn_251 (by decide) ?_
            exact hj11
        refine v_putiL C dX8_goesOn_255 lp_X8_80 ck_8 (by decide) (fun σ12 => ?_)
        exact v_vret C M dX8_goesOn_258
      · skip
        refine v_aload_n 1 C dX8_goesOn_131 rfl ?_
        refine v_iconst C dX8_goesOn_132 kc_iconst_0 ?_
        refine v_putiL C dX8_goesOn_133 lp_X8_87 ck_8 (by decide) (fun σ13 => ?_)
        refine v_lv (vLX8_goesOn_136 C M _ (fun σ22 => ?_) FU _) [1] rfl
        refine v_aload_n 0 C dX8_goesOn_210 rfl ?_
        refine v_aload_n 0 C dX8_goesOn_211 rfl ?_
        refine v_geti C dX8_goesOn_212 lf_X8_70 ck_8 (by decide) ?_
        refine v_aload_n 0 C dX8_goesOn_215 rfl ?_
        refine v_geti C dX8_goesOn_216 lf_X8_77 ck_8 (by decide) ?_
        refine v_isub C dX8_goesOn_219 ?_
        refine v_iconst C dX8_goesOn_220 kc_iconst_3 ?_
        refine v_cut (pcJ := 229) (lv := [(0, .ref (adr Y 8 0))]) (st := .int (if ((σ22.1 8 0 12) - (σ22.1 8 0 11)) ≤ (nI 3) then (nI 3) else (nI 1)) :: [.ref (adr Y 8 0)]) ?_ (fun hj23 => ?_)
        rotate_left
        · skip
          refine v_icmp_le_b (tgt := 228) C dX8_goesOn_221 (by decide) (fun h24 => ?_) (fun h24 => ?_)
          · have hj25 := v_jpos h24 hj23
            refine v_iconst C dX8_goesOn_228 kc_iconst_3 ?_
            exact hj25
          · have hj25 := v_jneg h24 hj23
            refine v_iconst C dX8_goesOn_224 kc_iconst_1 ?_
            refine v_goto (tgt := 229) C dX8_goesOn_225 (by decide) ?_
            exact hj25
        refine v_putiL C dX8_goesOn_229 lp_X8_80 ck_8 (by decide) (fun σ26 => ?_)
        exact v_vret C M dX8_goesOn_232
    · skip
      refine v_lv (vLX8_goesOn_65 C M _ (fun σ30 => ?_) FU _) [1] rfl
      refine v_aload_n 0 C dX8_goesOn_96 rfl ?_
      refine v_aload_n 0 C dX8_goesOn_97 rfl ?_
      refine v_geti C dX8_goesOn_98 lf_X8_70 ck_8 (by decide) ?_
      refine v_aload_n 0 C dX8_goesOn_101 rfl ?_
      refine v_geti C dX8_goesOn_102 lf_X8_77 ck_8 (by decide) ?_
      refine v_isub C dX8_goesOn_105 ?_
      refine v_bipush C dX8_goesOn_106 kc_bipush_6 ?_
      refine v_cut (pcJ := 116) (lv := [(0, .ref (adr Y 8 0))]) (st := .int (if ((σ30.1 8 0 12) - (σ30.1 8 0 11)) ≤ (nI 6) then (nI 2) else (nI 1)) :: [.ref (adr Y 8 0)]) ?_ (fun hj31 => ?_)
      rotate_left
      · skip
        refine v_icmp_le_b (tgt := 115) C dX8_goesOn_108 (by decide) (fun h32 => ?_) (fun h32 => ?_)
        · have hj33 := v_jpos h32 hj31
          refine v_iconst C dX8_goesOn_115 kc_iconst_2 ?_
          exact hj33
        · have hj33 := v_jneg h32 hj31
          refine v_iconst C dX8_goesOn_111 kc_iconst_1 ?_
          refine v_goto (tgt := 116) C dX8_goesOn_112 (by decide) ?_
          exact hj33
      refine v_putiL C dX8_goesOn_116 lp_X8_80 ck_8 (by decide) (fun σ34 => ?_)
      exact v_vret C M dX8_goesOn_119
  · skip
    refine v_aload_n 1 C dX8_goesOn_48 rfl ?_
    refine v_iconst C dX8_goesOn_49 kc_iconst_0 ?_
    refine v_putiL C dX8_goesOn_50 lp_X8_80 ck_8 (by decide) (fun σ35 => ?_)
    exact v_vret C M dX8_goesOn_53
-- OpenLinesModel errs(I)Z, depth 0
def fX8_errs (p1 : Int32) (σ : St) : Option (Int32 × St) :=
  lt (wI σ 8 0 15 p1) fun (σ1 : St) => lt (wI σ1 8 0 16 (σ1.1 8 0 11)) fun (σ2 : St) => some (0, σ2)
set_option maxRecDepth 20000 in
theorem kX8_errs {X : Cx} (p1 : Int32) (σ : St) : Kon X 0 yX8_errs cX8_errs 2 (some .boolean) gI [.ref (adr X 8 0), .int p1] σ (fX8_errs p1 σ) := by
  refine konJ (own := RX8) (fun _ => gI) (fun a b => [.ref (a 8 0), .int p1]) (by decide +kernel) rfl (fun _ _ => Nat.le_of_ble_eq_true rfl) (fun Y C M => ?_)
  show V Y gI 0 [(0, .ref (adr Y 8 0)), (1, .int p1)] [] σ (fX8_errs p1 σ)
  unfold fX8_errs
  refine v_aload_n 0 C dX8_errs_0 rfl ?_
  refine v_iload_n 1 C dX8_errs_1 rfl ?_
  refine v_putiL C dX8_errs_2 lp_X8_100 ck_8 (by decide) (fun σ1 => ?_)
  refine v_aload_n 0 C dX8_errs_5 rfl ?_
  refine v_aload_n 0 C dX8_errs_6 rfl ?_
  refine v_geti C dX8_errs_7 lf_X8_77 ck_8 (by decide) ?_
  refine v_putiL C dX8_errs_10 lp_X8_103 ck_8 (by decide) (fun σ2 => ?_)
  refine v_iconst C dX8_errs_13 kc_iconst_0 ?_
  exact v_zret C M (by decide) dX8_errs_14
-- OpenLinesModel lays(III)Z, depth 2
def fX8_lays (p1 : Int32) (p2 : Int32) (p3 : Int32) (σ : St) : Option (Int32 × St) :=
  (if (σ.1 8 0 13) = (nI 3) then (if (fX8_in (σ.1 8 0 14) p2 p3) = 0 then bd (fX8_errs (nI 4) σ) fun (r4 : Int32) (σ3 : St) => rz r4 σ3 else gi p1 59 <| lt (wI σ 45 0 p1.toNatClampNeg (σ.1 8 0 14)) fun (σ1 : St) => bd (fX8_goesOn σ1) fun _ (σ2 : St) => some (nI 1, σ2)) else bd (fX8_errs (nI 1) σ) fun (r6 : Int32) (σ5 : St) => rz r6 σ5)
set_option maxRecDepth 20000 in
theorem kX8_lays {X : Cx} (p1 : Int32) (p2 : Int32) (p3 : Int32) (σ : St) : Kon X 2 yX8_lays cX8_lays 4 (some .boolean) gI [.ref (adr X 8 0), .int p1, .int p2, .int p3] σ (fX8_lays p1 p2 p3 σ) := by
  refine konJ (own := RX8) (fun _ => gI) (fun a b => [.ref (a 8 0), .int p1, .int p2, .int p3]) (by decide +kernel) rfl (fun _ _ => Nat.le_of_ble_eq_true rfl) (fun Y C M => ?_)
  show V Y gI 0 [(0, .ref (adr Y 8 0)), (1, .int p1), (2, .int p2), (3, .int p3)] [] σ (fX8_lays p1 p2 p3 σ)
  unfold fX8_lays
  refine v_aload_n 0 C dX8_lays_0 rfl ?_
  refine v_geti C dX8_lays_1 lf_X8_80 ck_8 (by decide) ?_
  refine v_iconst C dX8_lays_4 kc_iconst_3 ?_
  refine v_icmp_eq (tgt := 14) C dX8_lays_5 (by decide) ?_ ?_
  · skip
    refine v_aload_n 0 C dX8_lays_14 rfl ?_
    refine v_geti C dX8_lays_15 lf_X8_87 ck_8 (by decide) ?_
    refine v_iload_n 2 C dX8_lays_18 rfl ?_
    refine v_iload_n 3 C dX8_lays_19 rfl ?_
    refine v_cS3p C dX8_lays_20 ls_X8_83 (kX8_in (σ.1 8 0 14) p2 p3 _) (by decide) (Nat.le_of_ble_eq_true rfl) ?_
    refine v_if_ne (tgt := 32) C dX8_lays_23 (by decide) ?_ ?_
    · skip
      refine v_aload_n 0 C dX8_lays_32 rfl ?_
      refine v_getc C dX8_lays_33 lf_X8_20 ck_8 rfl ?_
      refine v_iload_n 1 C dX8_lays_36 rfl ?_
      refine v_aload_n 0 C dX8_lays_37 rfl ?_
      refine v_geti C dX8_lays_38 lf_X8_87 ck_8 (by decide) ?_
      refine v_iastoreL C dX8_lays_41 ck_45 (by decide) rfl (fun σ1 => ?_)
      refine v_aload_n 0 C dX8_lays_42 rfl ?_
      refine v_cV0v C dX8_lays_43 lv_X8_110 ck_8 (kX8_goesOn _) (by decide) (Nat.le_of_ble_eq_true rfl) (fun _ σ2 => ?_)
      refine v_iconst C dX8_lays_46 kc_iconst_1 ?_
      exact v_zret C M (by decide) dX8_lays_47
    · skip
      refine v_aload_n 0 C dX8_lays_26 rfl ?_
      refine v_iconst C dX8_lays_27 kc_iconst_4 ?_
      refine v_cV1i C dX8_lays_28 lv_X8_106 ck_8 (kX8_errs (nI 4) _) (by decide) (Nat.le_of_ble_eq_true rfl) (fun r4 σ3 => ?_)
      exact v_zretg C M dX8_lays_31
  · skip
    refine v_aload_n 0 C dX8_lays_8 rfl ?_
    refine v_iconst C dX8_lays_9 kc_iconst_1 ?_
    refine v_cV1i C dX8_lays_10 lv_X8_106 ck_8 (kX8_errs (nI 1) _) (by decide) (Nat.le_of_ble_eq_true rfl) (fun r6 σ5 => ?_)
    exact v_zretg C M dX8_lays_13
-- OpenLinesModel begins(Z)Z, depth 2
def fX8_begins (p1 : Int32) (σ : St) : Option (Int32 × St) :=
  (if p1 = 0 then bd (fX8_errs (nI 5) σ) fun (r5 : Int32) (σ4 : St) => rz r5 σ4 else (if (σ.1 8 0 17) = 0 then bd (fX8_errs (nI 6) σ) fun (r3 : Int32) (σ2 : St) => rz r3 σ2 else bd (fX8_goesOn σ) fun _ (σ1 : St) => some (nI 1, σ1)))
set_option maxRecDepth 20000 in
theorem kX8_begins {X : Cx} (p1 : Int32) (σ : St) : Kon X 2 yX8_begins cX8_begins 2 (some .boolean) gI [.ref (adr X 8 0), .int p1] σ (fX8_begins p1 σ) := by
  refine konJ (own := RX8) (fun _ => gI) (fun a b => [.ref (a 8 0), .int p1]) (by decide +kernel) rfl (fun _ _ => Nat.le_of_ble_eq_true rfl) (fun Y C M => ?_)
  show V Y gI 0 [(0, .ref (adr Y 8 0)), (1, .int p1)] [] σ (fX8_begins p1 σ)
  unfold fX8_begins
  refine v_iload_n 1 C dX8_begins_0 rfl ?_
  refine v_if_ne (tgt := 10) C dX8_begins_1 (by decide) ?_ ?_
  · skip
    refine v_aload_n 0 C dX8_begins_10 rfl ?_
    refine v_geti C dX8_begins_11 lf_X8_134 ck_8 (by decide) ?_
    refine v_if_ne (tgt := 24) C dX8_begins_14 (by decide) ?_ ?_
    · skip
      refine v_aload_n 0 C dX8_begins_24 rfl ?_
      refine v_cV0v C dX8_begins_25 lv_X8_110 ck_8 (kX8_goesOn _) (by decide) (Nat.le_of_ble_eq_true rfl) (fun _ σ1 => ?_)
      refine v_iconst C dX8_begins_28 kc_iconst_1 ?_
      exact v_zret C M (by decide) dX8_begins_29
    · skip
      refine v_aload_n 0 C dX8_begins_17 rfl ?_
      refine v_bipush C dX8_begins_18 kc_bipush_6 ?_
      refine v_cV1i C dX8_begins_20 lv_X8_106 ck_8 (kX8_errs (nI 6) _) (by decide) (Nat.le_of_ble_eq_true rfl) (fun r3 σ2 => ?_)
      exact v_zretg C M dX8_begins_23
  · skip
    refine v_aload_n 0 C dX8_begins_4 rfl ?_
    refine v_iconst C dX8_begins_5 kc_iconst_5 ?_
    refine v_cV1i C dX8_begins_6 lv_X8_106 ck_8 (kX8_errs (nI 5) _) (by decide) (Nat.le_of_ble_eq_true rfl) (fun r5 σ4 => ?_)
    exact v_zretg C M dX8_begins_9
-- OpenLinesModel spelt()J, depth 0
def LX8_spelt_7 (ke : Int64 → St → Option (Int64 × St)) : Nat → Int64 → Int32 → St → Option (Int64 × St)
  | 0, _, _, _ => none
  | n + 1, b1, b3, σ => (if (σ.1 8 0 12) ≤ b3 then ke b1 σ else gi b3 700 <| lt ((((32 : Int64) * b1) + ((σ.1 43 0 b3.toNatClampNeg).toInt64)) - (96 : Int64)) fun (x3 : Int64) => LX8_spelt_7 ke n x3 (b3 + nI 1) σ)
def fX8_spelt (σ : St) : Option (Int64 × St) :=
  lt (0 : Int64) fun (x1 : Int64) => lt (σ.1 8 0 11) fun (x2 : Int32) => (LX8_spelt_7 (fun (y4 : Int64) (σ5 : St) => some (y4, σ5)) FU x1 x2 σ)
set_option maxRecDepth 20000 in
theorem vLX8_spelt_7 {Y : Cx} (C : Ok Y RX8 cX8_spelt 4 0) (M : OkM Y (some .long)) (ke : Int64 → St → Option (Int64 × St)) (hke : ∀ (b1 : Int64) (σ : St), V Y gJ 39 [(1, .long b1)] [] σ (ke b1 σ)) : ∀ (n : Nat) (b1 : Int64) (b3 : Int32) (σ : St), V Y gJ 7 [(0, .ref (adr Y 8 0)), (1, .long b1), (3, .int b3)] [] σ (LX8_spelt_7 ke n b1 b3 σ) := by
  intro n
  induction n with
  | zero => intros; exact v_none
  | succ n ih =>
    intro b1 b3 σ
    rw [LX8_spelt_7]
    refine v_iload_n 2 C dX8_spelt_7 rfl ?_
    refine v_aload_n 0 C dX8_spelt_8 rfl ?_
    refine v_geti C dX8_spelt_9 lf_X8_70 ck_8 (by decide) ?_
    refine v_icmp_ge (tgt := 39) C dX8_spelt_12 (by decide) ?_ ?_
    · skip
      exact v_lv (hke b1 σ) [1] rfl
    · skip
      refine v_ldc2 C dX8_spelt_15 wK_126 ?_
      refine v_lload_n 1 C dX8_spelt_18 rfl ?_
      refine v_lmul C dX8_spelt_19 ?_
      refine v_aload_n 0 C dX8_spelt_20 rfl ?_
      refine v_getc C dX8_spelt_21 lf_X8_13 ck_8 rfl ?_
      refine v_iload_n 2 C dX8_spelt_24 rfl ?_
      refine v_iaload C dX8_spelt_25 ck_43 (by decide) rfl ?_
      refine v_i2l C dX8_spelt_26 ?_
      refine v_ladd C dX8_spelt_27 ?_
      refine v_ldc2 C dX8_spelt_28 wK_128 ?_
      refine v_lsub C dX8_spelt_31 ?_
      refine v_lstore_nL (lv0 := [(0, .ref (adr Y 8 0)), (3, .int b3)]) C dX8_spelt_32 rfl (by decide) rfl (fun x3 => ?_)
      refine v_iinc (lv' := [(3, .int (b3 + nI 1)), (1, .long x3), (0, .ref (adr Y 8 0))]) 2 C dX8_spelt_33 rfl (congrArg (b3 + ·) kc_iconst_1) (by decide) rfl ?_
      refine v_goto (tgt := 7) C dX8_spelt_36 (by decide) ?_
      exact v_lv (ih x3 (b3 + nI 1) σ) [2, 1, 0] rfl
set_option maxRecDepth 20000 in
theorem kX8_spelt {X : Cx} (σ : St) : Kon X 0 yX8_spelt cX8_spelt 4 (some .long) gJ [.ref (adr X 8 0)] σ (fX8_spelt σ) := by
  refine konJ (own := RX8) (fun _ => gJ) (fun a b => [.ref (a 8 0)]) (by decide +kernel) rfl (fun _ _ => Nat.le_of_ble_eq_true rfl) (fun Y C M => ?_)
  show V Y gJ 0 [(0, .ref (adr Y 8 0))] [] σ (fX8_spelt σ)
  unfold fX8_spelt
  refine v_lconst (v := 0) C dX8_spelt_0 rfl ?_
  refine v_lstore_nL (lv0 := [(0, .ref (adr Y 8 0))]) C dX8_spelt_1 rfl (by decide) rfl (fun x1 => ?_)
  refine v_aload_n 1 C dX8_spelt_2 rfl ?_
  refine v_geti C dX8_spelt_3 lf_X8_77 ck_8 (by decide) ?_
  refine v_istore_nL (lv0 := [(1, .long x1), (0, .ref (adr Y 8 0))]) C dX8_spelt_6 rfl (by decide) rfl (fun x2 => ?_)
  refine v_lv (vLX8_spelt_7 C M _ (fun y4 σ5 => ?_) FU _ _ _) [2, 1, 0] rfl
  refine v_lload_n 0 C dX8_spelt_39 rfl ?_
  exact v_lret C M dX8_spelt_40
-- OpenLinesModel boardHere()I, depth 1
def LX8_boardHere_2 (ke : St → Option (Int32 × St)) : Nat → Int32 → St → Option (Int32 × St)
  | 0, _, _ => none
  | n + 1, b1, σ => gi (nI 3) 59 <| (if (σ.1 45 0 (nI 3).toNatClampNeg) ≤ b1 then ke σ else gi b1 6 <| bd (fX8_spelt σ) fun (r2 : Int64) (σ1 : St) => (if (lg_cmp (σ.2.1 46 0 b1.toNatClampNeg) r2) = 0 then some (b1, σ1) else LX8_boardHere_2 ke n (b1 + nI 1) σ1))
def fX8_boardHere (σ : St) : Option (Int32 × St) :=
  (LX8_boardHere_2 (fun (σ3 : St) => some ((-1), σ3)) FU 0 σ)
set_option maxRecDepth 20000 in
theorem vLX8_boardHere_2 {Y : Cx} (C : Ok Y RX8 cX8_boardHere 2 1) (M : OkM Y (some .int)) (ke : St → Option (Int32 × St)) (hke : ∀ (σ : St), V Y gI 34 [] [] σ (ke σ)) : ∀ (n : Nat) (b1 : Int32) (σ : St), V Y gI 2 [(0, .ref (adr Y 8 0)), (1, .int b1)] [] σ (LX8_boardHere_2 ke n b1 σ) := by
  intro n
  induction n with
  | zero => intros; exact v_none
  | succ n ih =>
    intro b1 σ
    rw [LX8_boardHere_2]
    refine v_iload_n 1 C dX8_boardHere_2 rfl ?_
    refine v_aload_n 0 C dX8_boardHere_3 rfl ?_
    refine v_getc C dX8_boardHere_4 lf_X8_20 ck_8 rfl ?_
    refine v_iconst C dX8_boardHere_7 kc_iconst_3 ?_
    refine v_iaload C dX8_boardHere_8 ck_45 (by decide) rfl ?_
    refine v_icmp_ge (tgt := 34) C dX8_boardHere_9 (by decide) ?_ ?_
    · skip
      exact v_lv (hke σ) [] rfl
    · skip
      refine v_aload_n 0 C dX8_boardHere_12 rfl ?_
      refine v_getc C dX8_boardHere_13 lf_X8_23 ck_8 rfl ?_
      refine v_iload_n 1 C dX8_boardHere_16 rfl ?_
      refine v_laload C dX8_boardHere_17 ck_46 (by decide) rfl ?_
      refine v_aload_n 0 C dX8_boardHere_18 rfl ?_
      refine v_cV0j C dX8_boardHere_19 lv_X8_130 ck_8 (kX8_spelt _) (by decide) (Nat.le_of_ble_eq_true rfl) (fun r2 σ1 => ?_)
      refine v_lcmp C dX8_boardHere_22 ?_
      refine v_if_ne (tgt := 28) C dX8_boardHere_23 (by decide) ?_ ?_
      · skip
        refine v_iinc (lv' := [(1, .int (b1 + nI 1)), (0, .ref (adr Y 8 0))]) 1 C dX8_boardHere_28 rfl (congrArg (b1 + ·) kc_iconst_1) (by decide) rfl ?_
        refine v_goto (tgt := 2) C dX8_boardHere_31 (by decide) ?_
        exact v_lv (ih (b1 + nI 1) σ1) [1, 0] rfl
      · skip
        refine v_iload_n 1 C dX8_boardHere_26 rfl ?_
        exact v_iret C M dX8_boardHere_27
set_option maxRecDepth 20000 in
theorem kX8_boardHere {X : Cx} (σ : St) : Kon X 1 yX8_boardHere cX8_boardHere 2 (some .int) gI [.ref (adr X 8 0)] σ (fX8_boardHere σ) := by
  refine konJ (own := RX8) (fun _ => gI) (fun a b => [.ref (a 8 0)]) (by decide +kernel) rfl (fun _ _ => Nat.le_of_ble_eq_true rfl) (fun Y C M => ?_)
  show V Y gI 0 [(0, .ref (adr Y 8 0))] [] σ (fX8_boardHere σ)
  unfold fX8_boardHere
  refine v_iconst C dX8_boardHere_0 kc_iconst_0 ?_
  refine v_istore_n (lv' := [(1, .int 0), (0, .ref (adr Y 8 0))]) C dX8_boardHere_1 rfl (by decide) rfl ?_
  refine v_lv (vLX8_boardHere_2 C M _ (fun σ3 => ?_) FU _ _) [1, 0] rfl
  refine v_iconst C dX8_boardHere_34 kc_iconst_m1 ?_
  exact v_iret C M dX8_boardHere_35
-- OpenLinesModel beginsAnew()V, depth 1
def LX8_beginsAnew_2 (ke : St → Option (Unit × St)) : Nat → Int32 → St → Option (Unit × St)
  | 0, _, _ => none
  | n + 1, b1, σ => (if (nI 251) ≤ b1 then ke σ else gi b1 251 <| lt (wI σ 47 0 b1.toNatClampNeg 0) fun (σ1 : St) => LX8_beginsAnew_2 ke n (b1 + nI 1) σ1)
def LX8_beginsAnew_56 (ke : St → Option (Unit × St)) : Nat → Int32 → St → Option (Unit × St)
  | 0, _, _ => none
  | n + 1, b1, σ => (if (nI 6) ≤ b1 then ke σ else gi (fX8_at b1 (nI 2)) 251 <| lt (wI σ 47 0 (fX8_at b1 (nI 2)).toNatClampNeg (nI 1)) fun (σ7 : St) => gi (fX8_at b1 (nI 3)) 251 <| lt (wI σ7 47 0 (fX8_at b1 (nI 3)).toNatClampNeg (-2)) fun (σ8 : St) => gi (fX8_at b1 (nI 10)) 251 <| lt (wI σ8 47 0 (fX8_at b1 (nI 10)).toNatClampNeg (-2)) fun (σ9 : St) => LX8_beginsAnew_56 ke n (b1 + nI 1) σ9)
def fX8_beginsAnew (σ : St) : Option (Unit × St) :=
  (LX8_beginsAnew_2 (fun (σ2 : St) => gi (nI 1) 251 <| lt (wI σ2 47 0 (nI 1).toNatClampNeg (-2)) fun (σ3 : St) => gi (nI 2) 251 <| lt (wI σ3 47 0 (nI 2).toNatClampNeg (-2)) fun (σ4 : St) => gi (nI 3) 251 <| lt (wI σ4 47 0 (nI 3).toNatClampNeg (-2)) fun (σ5 : St) => gi (nI 4) 251 <| lt (wI σ5 47 0 (nI 4).toNatClampNeg (-2)) fun (σ6 : St) => (LX8_beginsAnew_56 (fun (σ10 : St) => some ((), σ10)) FU 0 σ6)) FU 0 σ)
set_option maxRecDepth 20000 in
theorem vLX8_beginsAnew_2 {Y : Cx} (C : Ok Y RX8 cX8_beginsAnew 2 1) (M : OkM Y none) (ke : St → Option (Unit × St)) (hke : ∀ (σ : St), V Y gV 22 [(0, .ref (adr Y 8 0))] [] σ (ke σ)) : ∀ (n : Nat) (b1 : Int32) (σ : St), V Y gV 2 [(0, .ref (adr Y 8 0)), (1, .int b1)] [] σ (LX8_beginsAnew_2 ke n b1 σ) := by
  intro n
  induction n with
  | zero => intros; exact v_none
  | succ n ih =>
    intro b1 σ
    rw [LX8_beginsAnew_2]
    refine v_iload_n 1 C dX8_beginsAnew_2 rfl ?_
    refine v_sipush C dX8_beginsAnew_3 kc_sipush_251 ?_
    refine v_icmp_ge (tgt := 22) C dX8_beginsAnew_6 (by decide) ?_ ?_
    · skip
      exact v_lv (hke σ) [0] rfl
    · skip
      refine v_aload_n 0 C dX8_beginsAnew_9 rfl ?_
      refine v_getc C dX8_beginsAnew_10 lf_X8_27 ck_8 rfl ?_
      refine v_iload_n 1 C dX8_beginsAnew_13 rfl ?_
      refine v_iconst C dX8_beginsAnew_14 kc_iconst_0 ?_
      refine v_iastoreL C dX8_beginsAnew_15 ck_47 (by decide) rfl (fun σ1 => ?_)
      refine v_iinc (lv' := [(1, .int (b1 + nI 1)), (0, .ref (adr Y 8 0))]) 1 C dX8_beginsAnew_16 rfl (congrArg (b1 + ·) kc_iconst_1) (by decide) rfl ?_
      refine v_goto (tgt := 2) C dX8_beginsAnew_19 (by decide) ?_
      exact v_lv (ih (b1 + nI 1) σ1) [1, 0] rfl
set_option maxRecDepth 20000 in
theorem vLX8_beginsAnew_56 {Y : Cx} (C : Ok Y RX8 cX8_beginsAnew 2 1) (M : OkM Y none) (ke : St → Option (Unit × St)) (hke : ∀ (σ : St), V Y gV 104 [] [] σ (ke σ)) : ∀ (n : Nat) (b1 : Int32) (σ : St), V Y gV 56 [(0, .ref (adr Y 8 0)), (1, .int b1)] [] σ (LX8_beginsAnew_56 ke n b1 σ) := by
  intro n
  induction n with
  | zero => intros; exact v_none
  | succ n ih =>
    intro b1 σ
    rw [LX8_beginsAnew_56]
    refine v_iload_n 1 C dX8_beginsAnew_56 rfl ?_
    refine v_bipush C dX8_beginsAnew_57 kc_bipush_6 ?_
    refine v_icmp_ge (tgt := 104) C dX8_beginsAnew_59 (by decide) ?_ ?_
    · skip
      exact v_lv (hke σ) [] rfl
    · skip
      refine v_aload_n 0 C dX8_beginsAnew_62 rfl ?_
      refine v_getc C dX8_beginsAnew_63 lf_X8_27 ck_8 rfl ?_
      refine v_iload_n 1 C dX8_beginsAnew_66 rfl ?_
      refine v_iconst C dX8_beginsAnew_67 kc_iconst_2 ?_
      refine v_cS2p C dX8_beginsAnew_68 ls_X8_201 (kX8_at b1 (nI 2) _) (by decide) (Nat.le_of_ble_eq_true rfl) ?_
      refine v_iconst C dX8_beginsAnew_71 kc_iconst_1 ?_
      refine v_iastoreL C dX8_beginsAnew_72 ck_47 (by decide) rfl (fun σ7 => ?_)
      refine v_aload_n 0 C dX8_beginsAnew_73 rfl ?_
      refine v_getc C dX8_beginsAnew_74 lf_X8_27 ck_8 rfl ?_
      refine v_iload_n 1 C dX8_beginsAnew_77 rfl ?_
      refine v_iconst C dX8_beginsAnew_78 kc_iconst_3 ?_
      refine v_cS2p C dX8_beginsAnew_79 ls_X8_201 (kX8_at b1 (nI 3) _) (by decide) (Nat.le_of_ble_eq_true rfl) ?_
      refine v_bipush C dX8_beginsAnew_82 kc_bipush_m2 ?_
      refine v_iastoreL C dX8_beginsAnew_84 ck_47 (by decide) rfl (fun σ8 => ?_)
      refine v_aload_n 0 C dX8_beginsAnew_85 rfl ?_
      refine v_getc C dX8_beginsAnew_86 lf_X8_27 ck_8 rfl ?_
      refine v_iload_n 1 C dX8_beginsAnew_89 rfl ?_
      refine v_bipush C dX8_beginsAnew_90 kc_bipush_10 ?_
      refine v_cS2p C dX8_beginsAnew_92 ls_X8_201 (kX8_at b1 (nI 10) _) (by decide) (Nat.le_of_ble_eq_true rfl) ?_
      refine v_bipush C dX8_beginsAnew_95 kc_bipush_m2 ?_
      refine v_iastoreL C dX8_beginsAnew_97 ck_47 (by decide) rfl (fun σ9 => ?_)
      refine v_iinc (lv' := [(1, .int (b1 + nI 1)), (0, .ref (adr Y 8 0))]) 1 C dX8_beginsAnew_98 rfl (congrArg (b1 + ·) kc_iconst_1) (by decide) rfl ?_
      refine v_goto (tgt := 56) C dX8_beginsAnew_101 (by decide) ?_
      exact v_lv (ih (b1 + nI 1) σ9) [1, 0] rfl
set_option maxRecDepth 20000 in
theorem kX8_beginsAnew {X : Cx} (σ : St) : Kon X 1 yX8_beginsAnew cX8_beginsAnew 2 none gV [.ref (adr X 8 0)] σ (fX8_beginsAnew σ) := by
  refine konJ (own := RX8) (fun _ => gV) (fun a b => [.ref (a 8 0)]) (by decide +kernel) rfl (fun _ _ => Nat.le_of_ble_eq_true rfl) (fun Y C M => ?_)
  show V Y gV 0 [(0, .ref (adr Y 8 0))] [] σ (fX8_beginsAnew σ)
  unfold fX8_beginsAnew
  refine v_iconst C dX8_beginsAnew_0 kc_iconst_0 ?_
  refine v_istore_n (lv' := [(1, .int 0), (0, .ref (adr Y 8 0))]) C dX8_beginsAnew_1 rfl (by decide) rfl ?_
  refine v_lv (vLX8_beginsAnew_2 C M _ (fun σ2 => ?_) FU _ _) [1, 0] rfl
  refine v_aload_n 0 C dX8_beginsAnew_22 rfl ?_
  refine v_getc C dX8_beginsAnew_23 lf_X8_27 ck_8 rfl ?_
  refine v_iconst C dX8_beginsAnew_26 kc_iconst_1 ?_
  refine v_bipush C dX8_beginsAnew_27 kc_bipush_m2 ?_
  refine v_iastoreL C dX8_beginsAnew_29 ck_47 (by decide) rfl (fun σ3 => ?_)
  refine v_aload_n 0 C dX8_beginsAnew_30 rfl ?_
  refine v_getc C dX8_beginsAnew_31 lf_X8_27 ck_8 rfl ?_
  refine v_iconst C dX8_beginsAnew_34 kc_iconst_2 ?_
  refine v_bipush C dX8_beginsAnew_35 kc_bipush_m2 ?_
  refine v_iastoreL C dX8_beginsAnew_37 ck_47 (by decide) rfl (fun σ4 => ?_)
  refine v_aload_n 0 C dX8_beginsAnew_38 rfl ?_
  refine v_getc C dX8_beginsAnew_39 lf_X8_27 ck_8 rfl ?_
  refine v_iconst C dX8_beginsAnew_42 kc_iconst_3 ?_
  refine v_bipush C dX8_beginsAnew_43 kc_bipush_m2 ?_
  refine v_iastoreL C dX8_beginsAnew_45 ck_47 (by decide) rfl (fun σ5 => ?_)
  refine v_aload_n 0 C dX8_beginsAnew_46 rfl ?_
  refine v_getc C dX8_beginsAnew_47 lf_X8_27 ck_8 rfl ?_
  refine v_iconst C dX8_beginsAnew_50 kc_iconst_4 ?_
  refine v_bipush C dX8_beginsAnew_51 kc_bipush_m2 ?_
  refine v_iastoreL C dX8_beginsAnew_53 ck_47 (by decide) rfl (fun σ6 => ?_)
  refine v_iconst C dX8_beginsAnew_54 kc_iconst_0 ?_
  refine v_istore_n (lv' := [(1, .int 0), (0, .ref (adr Y 8 0))]) C dX8_beginsAnew_55 rfl (by decide) rfl ?_
  refine v_lv (vLX8_beginsAnew_56 C M _ (fun σ10 => ?_) FU _ _) [1, 0] rfl
  exact v_vret C M dX8_beginsAnew_104
-- OpenLinesModel fault()I, depth 0
def fX8_fault (σ : St) : Option (Int32 × St) :=
  lt (wI σ 8 0 0 0) fun (σ1 : St) => some (σ1.1 8 0 2, σ1)
set_option maxRecDepth 20000 in
theorem kX8_fault {X : Cx} (σ : St) : Kon X 0 yX8_fault cX8_fault 1 (some .int) gI [.ref (adr X 8 0)] σ (fX8_fault σ) := by
  refine konJ (own := RX8) (fun _ => gI) (fun a b => [.ref (a 8 0)]) (by decide +kernel) rfl (fun _ _ => Nat.le_of_ble_eq_true rfl) (fun Y C M => ?_)
  show V Y gI 0 [(0, .ref (adr Y 8 0))] [] σ (fX8_fault σ)
  unfold fX8_fault
  refine v_aload_n 0 C dX8_fault_0 rfl ?_
  refine v_iconst C dX8_fault_1 kc_iconst_0 ?_
  refine v_putiL C dX8_fault_2 lp_X8_54 ck_8 (by decide) (fun σ1 => ?_)
  refine v_aload_n 0 C dX8_fault_5 rfl ?_
  refine v_geti C dX8_fault_6 lf_X8_183 ck_8 (by decide) ?_
  exact v_iret C M dX8_fault_9
-- OpenLinesModel where()I, depth 0
def fX8_where (σ : St) : Option (Int32 × St) :=
  lt (wI σ 8 0 0 0) fun (σ1 : St) => some (if (σ1.1 8 0 1) = (nI 4) then (σ1.1 8 0 3) else (-1), σ1)
set_option maxRecDepth 20000 in
theorem kX8_where {X : Cx} (σ : St) : Kon X 0 yX8_where cX8_where 1 (some .int) gI [.ref (adr X 8 0)] σ (fX8_where σ) := by
  refine konJ (own := RX8) (fun _ => gI) (fun a b => [.ref (a 8 0)]) (by decide +kernel) rfl (fun _ _ => Nat.le_of_ble_eq_true rfl) (fun Y C M => ?_)
  show V Y gI 0 [(0, .ref (adr Y 8 0))] [] σ (fX8_where σ)
  unfold fX8_where
  refine v_aload_n 0 C dX8_where_0 rfl ?_
  refine v_iconst C dX8_where_1 kc_iconst_0 ?_
  refine v_putiL C dX8_where_2 lp_X8_54 ck_8 (by decide) (fun σ1 => ?_)
  refine v_aload_n 0 C dX8_where_5 rfl ?_
  refine v_geti C dX8_where_6 lf_X8_57 ck_8 (by decide) ?_
  refine v_iconst C dX8_where_9 kc_iconst_4 ?_
  refine v_cut (pcJ := 21) (lv := [(0, .ref (adr Y 8 0))]) (st := .int (if (σ1.1 8 0 1) = (nI 4) then (σ1.1 8 0 3) else (-1)) :: []) ?_ (fun hj2 => ?_)
  rotate_left
  · skip
    refine v_icmp_ne_b (tgt := 20) C dX8_where_10 (by decide) (fun h3 => ?_) (fun h3 => ?_)
    · have hj4 := v_jneg h3 hj2
      refine v_iconst C dX8_where_20 kc_iconst_m1 ?_
      exact hj4
    · have hj4 := v_jpos h3 hj2
      refine v_aload_n 0 C dX8_where_13 rfl ?_
      refine v_geti C dX8_where_14 lf_X8_9 ck_8 (by decide) ?_
      refine v_goto (tgt := 21) C dX8_where_17 (by decide) ?_
      exact hj4
  exact v_iret C M dX8_where_21
-- OpenLinesModel isBoard(I)Z, depth 1
def fX8_isBoard (p1 : Int32) (σ : St) : Option (Int32 × St) :=
  (if (σ.1 8 0 9) = 0 then some (0, σ) else gi (nI 3) 59 <| rz (if (fX8_in p1 0 ((σ.1 44 0 (nI 3).toNatClampNeg) - (nI 1))) = 0 then 0 else (nI 1)) σ)
set_option maxRecDepth 20000 in
theorem kX8_isBoard {X : Cx} (p1 : Int32) (σ : St) : Kon X 1 yX8_isBoard cX8_isBoard 2 (some .boolean) gI [.ref (adr X 8 0), .int p1] σ (fX8_isBoard p1 σ) := by
  refine konJ (own := RX8) (fun _ => gI) (fun a b => [.ref (a 8 0), .int p1]) (by decide +kernel) rfl (fun _ _ => Nat.le_of_ble_eq_true rfl) (fun Y C M => ?_)
  show V Y gI 0 [(0, .ref (adr Y 8 0)), (1, .int p1)] [] σ (fX8_isBoard p1 σ)
  unfold fX8_isBoard
  refine v_aload_n 0 C dX8_isBoard_0 rfl ?_
  refine v_geti C dX8_isBoard_1 lf_X8_192 ck_8 (by decide) ?_
  refine v_if_eq (tgt := 27) C dX8_isBoard_4 (by decide) ?_ ?_
  · skip
    refine v_iconst C dX8_isBoard_27 kc_iconst_0 ?_
    exact v_zret C M (by decide) dX8_isBoard_28
  · skip
    refine v_iload_n 1 C dX8_isBoard_7 rfl ?_
    refine v_iconst C dX8_isBoard_8 kc_iconst_0 ?_
    refine v_aload_n 0 C dX8_isBoard_9 rfl ?_
    refine v_getc C dX8_isBoard_10 lf_X8_17 ck_8 rfl ?_
    refine v_iconst C dX8_isBoard_13 kc_iconst_3 ?_
    refine v_iaload C dX8_isBoard_14 ck_44 (by decide) rfl ?_
    refine v_iconst C dX8_isBoard_15 kc_iconst_1 ?_
    refine v_isub C dX8_isBoard_16 ?_
    refine v_cS3p C dX8_isBoard_17 ls_X8_83 (kX8_in p1 0 ((σ.1 44 0 (nI 3).toNatClampNeg) - (nI 1)) _) (by decide) (Nat.le_of_ble_eq_true rfl) ?_
    refine v_cut (pcJ := 28) (lv := [(0, .ref (adr Y 8 0)), (1, .int p1)]) (st := .int (if (fX8_in p1 0 ((σ.1 44 0 (nI 3).toNatClampNeg) - (nI 1))) = 0 then 0 else (nI 1)) :: []) ?_ (fun hj1 => ?_)
    rotate_left
    · skip
      refine v_if_eq_b (tgt := 27) C dX8_isBoard_20 (by decide) (fun h2 => ?_) (fun h2 => ?_)
      · have hj3 := v_jpos h2 hj1
        refine v_iconst C dX8_isBoard_27 kc_iconst_0 ?_
        exact hj3
      · have hj3 := v_jneg h2 hj1
        refine v_iconst C dX8_isBoard_23 kc_iconst_1 ?_
        refine v_goto (tgt := 28) C dX8_isBoard_24 (by decide) ?_
        exact hj3
    exact v_zretg C M dX8_isBoard_28
-- OpenLinesModel slotsApart(II)I, depth 0
def fX8_slotsApart (p1 : Int32) (p2 : Int32) (σ : St) : Option (Int32 × St) :=
  gi ((nI 5) + p1) 59 <| gi ((nI 5) + p2) 59 <| lt ((σ.1 44 0 ((nI 5) + p1).toNatClampNeg) - (σ.1 44 0 ((nI 5) + p2).toNatClampNeg)) fun (x1 : Int32) => some (if 0 ≤ x1 then x1 else (-x1), σ)
set_option maxRecDepth 20000 in
theorem kX8_slotsApart {X : Cx} (p1 : Int32) (p2 : Int32) (σ : St) : Kon X 0 yX8_slotsApart cX8_slotsApart 4 (some .int) gI [.ref (adr X 8 0), .int p1, .int p2] σ (fX8_slotsApart p1 p2 σ) := by
  refine konJ (own := RX8) (fun _ => gI) (fun a b => [.ref (a 8 0), .int p1, .int p2]) (by decide +kernel) rfl (fun _ _ => Nat.le_of_ble_eq_true rfl) (fun Y C M => ?_)
  show V Y gI 0 [(0, .ref (adr Y 8 0)), (1, .int p1), (2, .int p2)] [] σ (fX8_slotsApart p1 p2 σ)
  unfold fX8_slotsApart
  refine v_aload_n 0 C dX8_slotsApart_0 rfl ?_
  refine v_getc C dX8_slotsApart_1 lf_X8_17 ck_8 rfl ?_
  refine v_iconst C dX8_slotsApart_4 kc_iconst_5 ?_
  refine v_iload_n 1 C dX8_slotsApart_5 rfl ?_
  refine v_iadd C dX8_slotsApart_6 ?_
  refine v_iaload C dX8_slotsApart_7 ck_44 (by decide) rfl ?_
  refine v_aload_n 0 C dX8_slotsApart_8 rfl ?_
  refine v_getc C dX8_slotsApart_9 lf_X8_17 ck_8 rfl ?_
  refine v_iconst C dX8_slotsApart_12 kc_iconst_5 ?_
  refine v_iload_n 2 C dX8_slotsApart_13 rfl ?_
  refine v_iadd C dX8_slotsApart_14 ?_
  refine v_iaload C dX8_slotsApart_15 ck_44 (by decide) rfl ?_
  refine v_isub C dX8_slotsApart_16 ?_
  refine v_istore_nL (lv0 := [(0, .ref (adr Y 8 0)), (1, .int p1), (2, .int p2)]) C dX8_slotsApart_17 rfl (by decide) rfl (fun x1 => ?_)
  refine v_iload_n 0 C dX8_slotsApart_18 rfl ?_
  refine v_cut (pcJ := 28) (lv := [(3, .int x1), (0, .ref (adr Y 8 0)), (1, .int p1), (2, .int p2)]) (st := .int (if 0 ≤ x1 then x1 else (-x1)) :: []) ?_ (fun hj2 => ?_)
  rotate_left
  · skip
    refine v_if_ge_b (tgt := 27) C dX8_slotsApart_19 (by decide) (fun h3 => ?_) (fun h3 => ?_)
    · have hj4 := v_jpos h3 hj2
      refine v_iload_n 0 C dX8_slotsApart_27 rfl ?_
      exact hj4
    · have hj4 := v_jneg h3 hj2
      refine v_iload_n 0 C dX8_slotsApart_22 rfl ?_
      refine v_ineg C dX8_slotsApart_23 ?_
      refine v_goto (tgt := 28) C dX8_slotsApart_24 (by decide) ?_
      exact hj4
  exact v_iret C M dX8_slotsApart_28
-- OpenLinesModel drivesAt(II)V, depth 1
def fX8_drivesAt (p1 : Int32) (p2 : Int32) (σ : St) : Option (Unit × St) :=
  (jn (fun (x2 : Int32) (σ1 : St) => gi 0 59 <| lt (σ1.1 44 0 (0 : Int32).toNatClampNeg) fun (x3 : Int32) => (jn (fun (x5 : Int32) (σ4 : St) => gi (fX8_cell p1 p2) 2406 <| lt (wI σ4 51 0 (fX8_cell p1 p2).toNatClampNeg (if x5 = (-2) then x2 else ((x2 >>> ((x5 + (nI 1)) &&& 31)) <<< ((x5 + (nI 1)) &&& 31)))) fun (σ9 : St) => some ((), σ9)) fun j54 => if x3 ≤ p2 then gi (fX8_cell p1 (p2 - x3)) 2406 <| j54 (σ1.1 54 0 (fX8_cell p1 (p2 - x3)).toNatClampNeg) σ1 else j54 (-2) σ1)) fun j21 => if (fX8_has (σ.1 8 0 23) p1) = 0 then j21 0 σ else gi p1 6 <| j21 (σ.1 50 0 p1.toNatClampNeg) σ)
set_option maxRecDepth 20000 in
theorem kX8_drivesAt {X : Cx} (p1 : Int32) (p2 : Int32) (σ : St) : Kon X 1 yX8_drivesAt cX8_drivesAt 6 none gV [.ref (adr X 8 0), .int p1, .int p2] σ (fX8_drivesAt p1 p2 σ) := by
  refine konJ (own := RX8) (fun _ => gV) (fun a b => [.ref (a 8 0), .int p1, .int p2]) (by decide +kernel) rfl (fun _ _ => Nat.le_of_ble_eq_true rfl) (fun Y C M => ?_)
  show V Y gV 0 [(0, .ref (adr Y 8 0)), (1, .int p1), (2, .int p2)] [] σ (fX8_drivesAt p1 p2 σ)
  unfold fX8_drivesAt
  refine v_aload_n 0 C dX8_drivesAt_0 rfl ?_
  refine v_geti C dX8_drivesAt_1 lf_X8_218 ck_8 (by decide) ?_
  refine v_iload_n 1 C dX8_drivesAt_4 rfl ?_
  refine v_cS2p C dX8_drivesAt_5 ls_X8_221 (kX8_has (σ.1 8 0 23) p1 _) (by decide) (Nat.le_of_ble_eq_true rfl) ?_
  refine v_jn (fun j21 => ∀ (x2 : Int32) (σ1 : St), V Y gV 21 [(0, .ref (adr Y 8 0)), (1, .int p1), (2, .int p2)] [.int x2] σ1 (j21 x2 σ1)) ?_ ?_
  · intro x2 σ1
    refine v_istore_n (lv' := [(3, .int x2), (0, .ref (adr Y 8 0)), (1, .int p1), (2, .int p2)]) C dX8_drivesAt_21 rfl (by decide) rfl ?_
    refine v_aload_n 1 C dX8_drivesAt_22 rfl ?_
    refine v_getc C dX8_drivesAt_23 lf_X8_17 ck_8 rfl ?_
    refine v_iconst C dX8_drivesAt_26 kc_iconst_0 ?_
    refine v_iaload C dX8_drivesAt_27 ck_44 (by decide) rfl ?_
    refine v_istoreL (lv0 := [(3, .int x2), (0, .ref (adr Y 8 0)), (1, .int p1), (2, .int p2)]) C dX8_drivesAt_28 (by decide) rfl (fun x3 => ?_)
    refine v_iload_n 4 C dX8_drivesAt_30 rfl ?_
    refine v_iload 0 C dX8_drivesAt_31 rfl ?_
    refine v_jn (fun j54 => ∀ (x5 : Int32) (σ4 : St), V Y gV 54 [(0, .ref (adr Y 8 0)), (1, .int p1), (2, .int p2), (3, .int x2)] [.int x5] σ4 (j54 x5 σ4)) ?_ ?_
    · intro x5 σ4
      refine v_istore (lv' := [(5, .int x5), (0, .ref (adr Y 8 0)), (1, .int p1), (2, .int p2), (3, .int x2)]) C dX8_drivesAt_54 (by decide) rfl ?_
      refine v_aload_n 1 C dX8_drivesAt_56 rfl ?_
      refine v_getc C dX8_drivesAt_57 lf_X8_39 ck_8 rfl ?_
      refine v_iload_n 2 C dX8_drivesAt_60 rfl ?_
      refine v_iload_n 3 C dX8_drivesAt_61 rfl ?_
      refine v_cS2p C dX8_drivesAt_62 ls_X8_224 (kX8_cell p1 p2 _) (by decide) (Nat.le_of_ble_eq_true rfl) ?_
      refine v_iload 0 C dX8_drivesAt_65 rfl ?_
      refine v_bipush C dX8_drivesAt_67 kc_bipush_m2 ?_
      refine v_cut (pcJ := 87) (lv := [(5, .int x5), (0, .ref (adr Y 8 0)), (1, .int p1), (2, .int p2), (3, .int x2)]) (st := .int (if x5 = (-2) then x2 else ((x2 >>> ((x5 + (nI 1)) &&& 31)) <<< ((x5 + (nI 1)) &&& 31))) :: [.int (fX8_cell p1 p2), .ref (adr Y 51 0)]) ?_ (fun hj6 => ?_)
      rotate_left
      · skip
        refine v_icmp_ne_b (tgt := 76) C dX8_drivesAt_69 (by decide) (fun h7 => ?_) (fun h7 => ?_)
        · have hj8 := v_jneg h7 hj6
          refine v_iload_n 4 C dX8_drivesAt_76 rfl ?_
          refine v_iload 0 C dX8_drivesAt_77 rfl ?_
          refine v_iconst C dX8_drivesAt_79 kc_iconst_1 ?_
          refine v_iadd C dX8_drivesAt_80 ?_
          refine v_ishr C dX8_drivesAt_81 ?_
          refine v_iload 0 C dX8_drivesAt_82 rfl ?_
          refine v_iconst C dX8_drivesAt_84 kc_iconst_1 ?_
          refine v_iadd C dX8_drivesAt_85 ?_
          refine v_ishl C dX8_drivesAt_86 ?_
          exact hj8
        · have hj8 := v_jpos h7 hj6
          refine v_iload_n 4 C dX8_drivesAt_72 rfl ?_
          refine v_goto (tgt := 87) C dX8_drivesAt_73 (by decide) ?_
          exact hj8
      refine v_iastoreL C dX8_drivesAt_87 ck_51 (by decide) rfl (fun σ9 => ?_)
      exact v_vret C M dX8_drivesAt_88
    · intro j54 hj54
      refine v_icmp_ge (tgt := 41) C dX8_drivesAt_33 (by decide) ?_ ?_
      · skip
        refine v_aload_n 2 C dX8_drivesAt_41 rfl ?_
        refine v_getc C dX8_drivesAt_42 lf_X8_48 ck_8 rfl ?_
        refine v_iload_n 3 C dX8_drivesAt_45 rfl ?_
        refine v_iload_n 4 C dX8_drivesAt_46 rfl ?_
        refine v_iload 0 C dX8_drivesAt_47 rfl ?_
        refine v_isub C dX8_drivesAt_49 ?_
        refine v_cS2p C dX8_drivesAt_50 ls_X8_224 (kX8_cell p1 (p2 - x3) _) (by decide) (Nat.le_of_ble_eq_true rfl) ?_
        refine v_iaload C dX8_drivesAt_53 ck_54 (by decide) rfl ?_
        exact v_lv (hj54 (σ1.1 54 0 (fX8_cell p1 (p2 - x3)).toNatClampNeg) σ1) [2, 3, 4, 1] rfl
      · skip
        refine v_bipush C dX8_drivesAt_36 kc_bipush_m2 ?_
        refine v_goto (tgt := 54) C dX8_drivesAt_38 (by decide) ?_
        exact v_lv (hj54 (-2) σ1) [2, 3, 4, 1] rfl
  · intro j21 hj21
    refine v_if_eq (tgt := 20) C dX8_drivesAt_8 (by decide) ?_ ?_
    · skip
      refine v_iconst C dX8_drivesAt_20 kc_iconst_0 ?_
      exact v_lv (hj21 0 σ) [0, 1, 2] rfl
    · skip
      refine v_aload_n 0 C dX8_drivesAt_11 rfl ?_
      refine v_getc C dX8_drivesAt_12 lf_X8_36 ck_8 rfl ?_
      refine v_iload_n 1 C dX8_drivesAt_15 rfl ?_
      refine v_iaload C dX8_drivesAt_16 ck_50 (by decide) rfl ?_
      refine v_goto (tgt := 21) C dX8_drivesAt_17 (by decide) ?_
      exact v_lv (hj21 (σ.1 50 0 p1.toNatClampNeg) σ) [0, 1, 2] rfl
-- OpenLinesModel isSeen(III)Z, depth 1
def LX8_isSeen_74 (a1 : Int32) (a2 : Int32) (a3 : Int32) (ke : St → Option (Int32 × St)) : Nat → Int32 → St → Option (Int32 × St)
  | 0, _, _ => none
  | n + 1, b4, σ => gi (nI 3) 59 <| (if (σ.1 44 0 (nI 3).toNatClampNeg) ≤ b4 then ke σ else bd (fX8_slotsApart a1 b4 σ) fun (r2 : Int32) (σ1 : St) => lt (a3 - r2) fun (x3 : Int32) => (jn (fun (σ4 : St) => LX8_isSeen_74 a1 a2 a3 ke n (b4 + nI 1) σ4) fun j128 => if b4 = a1 then j128 σ1 else (if x3 < 0 then j128 σ1 else gi (fX8_cell b4 x3) 2406 <| (if (fX8_has (σ1.1 51 0 (fX8_cell b4 x3).toNatClampNeg) a2) = 0 then j128 σ1 else some (nI 1, σ1)))))
def fX8_isSeen (p1 : Int32) (p2 : Int32) (p3 : Int32) (σ : St) : Option (Int32 × St) :=
  gi (fX8_cell p1 p3) 2406 <| (if (fX8_has (σ.1 51 0 (fX8_cell p1 p3).toNatClampNeg) p2) = 0 then gi ((nI 12) + p2) 251 <| (if (σ.1 47 0 ((nI 12) + p2).toNatClampNeg) = 0 then gi (((nI 461) * p1) + p3) 2766 <| (if (fX8_has (σ.1 55 0 (((nI 461) * p1) + p3).toNatClampNeg) p2) = 0 then (LX8_isSeen_74 p1 p2 p3 (fun (σ5 : St) => some (0, σ5)) FU 0 σ) else some (0, σ)) else gi ((nI 12) + p2) 251 <| rz (if (σ.1 47 0 ((nI 12) + p2).toNatClampNeg) = (nI 1) then (nI 1) else 0) σ) else some (nI 1, σ))
set_option maxRecDepth 20000 in
theorem vLX8_isSeen_74 {Y : Cx} (a1 : Int32) (a2 : Int32) (a3 : Int32) (C : Ok Y RX8 cX8_isSeen 6 1) (M : OkM Y (some .boolean)) (ke : St → Option (Int32 × St)) (hke : ∀ (σ : St), V Y gI 134 [] [] σ (ke σ)) : ∀ (n : Nat) (b4 : Int32) (σ : St), V Y gI 74 [(0, .ref (adr Y 8 0)), (1, .int a1), (2, .int a2), (3, .int a3), (4, .int b4)] [] σ (LX8_isSeen_74 a1 a2 a3 ke n b4 σ) := by
  intro n
  induction n with
  | zero => intros; exact v_none
  | succ n ih =>
    intro b4 σ
    rw [LX8_isSeen_74]
    refine v_iload 4 C dX8_isSeen_74 rfl ?_
    refine v_aload_n 0 C dX8_isSeen_76 rfl ?_
    refine v_getc C dX8_isSeen_77 lf_X8_17 ck_8 rfl ?_
    refine v_iconst C dX8_isSeen_80 kc_iconst_3 ?_
    refine v_iaload C dX8_isSeen_81 ck_44 (by decide) rfl ?_
    refine v_icmp_ge (tgt := 134) C dX8_isSeen_82 (by decide) ?_ ?_
    · skip
      exact v_lv (hke σ) [] rfl
    · skip
      refine v_iload_n 3 C dX8_isSeen_85 rfl ?_
      refine v_aload_n 0 C dX8_isSeen_86 rfl ?_
      refine v_iload_n 1 C dX8_isSeen_87 rfl ?_
      refine v_iload 4 C dX8_isSeen_88 rfl ?_
      refine v_cV2i C dX8_isSeen_90 lv_X8_227 ck_8 (kX8_slotsApart a1 b4 _) (by decide) (Nat.le_of_ble_eq_true rfl) (fun r2 σ1 => ?_)
      refine v_isub C dX8_isSeen_93 ?_
      refine v_istoreL (lv0 := [(0, .ref (adr Y 8 0)), (1, .int a1), (2, .int a2), (3, .int a3), (4, .int b4)]) C dX8_isSeen_94 (by decide) rfl (fun x3 => ?_)
      refine v_iload 5 C dX8_isSeen_96 rfl ?_
      refine v_iload_n 2 C dX8_isSeen_98 rfl ?_
      refine v_jn (fun j128 => ∀ (σ4 : St), V Y gI 128 [(0, .ref (adr Y 8 0)), (1, .int a1), (2, .int a2), (3, .int a3), (4, .int b4)] [] σ4 (j128 σ4)) ?_ ?_
      · intro σ4
        refine v_iinc (lv' := [(4, .int (b4 + nI 1)), (0, .ref (adr Y 8 0)), (1, .int a1), (2, .int a2), (3, .int a3)]) 4 C dX8_isSeen_128 rfl (congrArg (b4 + ·) kc_iconst_1) (by decide) rfl ?_
        refine v_goto (tgt := 74) C dX8_isSeen_131 (by decide) ?_
        exact v_lv (ih (b4 + nI 1) σ4) [1, 2, 3, 4, 0] rfl
      · intro j128 hj128
        refine v_icmp_eq (tgt := 128) C dX8_isSeen_99 (by decide) ?_ ?_
        · skip
          exact v_lv (hj128 σ1) [1, 2, 3, 4, 5] rfl
        · skip
          refine v_iload 0 C dX8_isSeen_102 rfl ?_
          refine v_if_lt (tgt := 128) C dX8_isSeen_104 (by decide) ?_ ?_
          · skip
            exact v_lv (hj128 σ1) [1, 2, 3, 4, 5] rfl
          · skip
            refine v_aload_n 1 C dX8_isSeen_107 rfl ?_
            refine v_getc C dX8_isSeen_108 lf_X8_39 ck_8 rfl ?_
            refine v_iload 5 C dX8_isSeen_111 rfl ?_
            refine v_iload 0 C dX8_isSeen_113 rfl ?_
            refine v_cS2p C dX8_isSeen_115 ls_X8_224 (kX8_cell b4 x3 _) (by decide) (Nat.le_of_ble_eq_true rfl) ?_
            refine v_iaload C dX8_isSeen_118 ck_51 (by decide) rfl ?_
            refine v_iload_n 3 C dX8_isSeen_119 rfl ?_
            refine v_cS2p C dX8_isSeen_120 ls_X8_221 (kX8_has (σ1.1 51 0 (fX8_cell b4 x3).toNatClampNeg) a2 _) (by decide) (Nat.le_of_ble_eq_true rfl) ?_
            refine v_if_eq (tgt := 128) C dX8_isSeen_123 (by decide) ?_ ?_
            · skip
              exact v_lv (hj128 σ1) [1, 2, 3, 4, 5] rfl
            · skip
              refine v_iconst C dX8_isSeen_126 kc_iconst_1 ?_
              exact v_zret C M (by decide) dX8_isSeen_127
set_option maxRecDepth 20000 in
theorem kX8_isSeen {X : Cx} (p1 : Int32) (p2 : Int32) (p3 : Int32) (σ : St) : Kon X 1 yX8_isSeen cX8_isSeen 6 (some .boolean) gI [.ref (adr X 8 0), .int p1, .int p2, .int p3] σ (fX8_isSeen p1 p2 p3 σ) := by
  refine konJ (own := RX8) (fun _ => gI) (fun a b => [.ref (a 8 0), .int p1, .int p2, .int p3]) (by decide +kernel) rfl (fun _ _ => Nat.le_of_ble_eq_true rfl) (fun Y C M => ?_)
  show V Y gI 0 [(0, .ref (adr Y 8 0)), (1, .int p1), (2, .int p2), (3, .int p3)] [] σ (fX8_isSeen p1 p2 p3 σ)
  unfold fX8_isSeen
  refine v_aload_n 0 C dX8_isSeen_0 rfl ?_
  refine v_getc C dX8_isSeen_1 lf_X8_39 ck_8 rfl ?_
  refine v_iload_n 1 C dX8_isSeen_4 rfl ?_
  refine v_iload_n 3 C dX8_isSeen_5 rfl ?_
  refine v_cS2p C dX8_isSeen_6 ls_X8_224 (kX8_cell p1 p3 _) (by decide) (Nat.le_of_ble_eq_true rfl) ?_
  refine v_iaload C dX8_isSeen_9 ck_51 (by decide) rfl ?_
  refine v_iload_n 2 C dX8_isSeen_10 rfl ?_
  refine v_cS2p C dX8_isSeen_11 ls_X8_221 (kX8_has (σ.1 51 0 (fX8_cell p1 p3).toNatClampNeg) p2 _) (by decide) (Nat.le_of_ble_eq_true rfl) ?_
  refine v_if_eq (tgt := 19) C dX8_isSeen_14 (by decide) ?_ ?_
  · skip
    refine v_aload_n 0 C dX8_isSeen_19 rfl ?_
    refine v_getc C dX8_isSeen_20 lf_X8_27 ck_8 rfl ?_
    refine v_bipush C dX8_isSeen_23 kc_bipush_12 ?_
    refine v_iload_n 2 C dX8_isSeen_25 rfl ?_
    refine v_iadd C dX8_isSeen_26 ?_
    refine v_iaload C dX8_isSeen_27 ck_47 (by decide) rfl ?_
    refine v_if_eq (tgt := 50) C dX8_isSeen_28 (by decide) ?_ ?_
    · skip
      refine v_aload_n 0 C dX8_isSeen_50 rfl ?_
      refine v_getc C dX8_isSeen_51 lf_X8_51 ck_8 rfl ?_
      refine v_sipush C dX8_isSeen_54 kc_sipush_461 ?_
      refine v_iload_n 1 C dX8_isSeen_57 rfl ?_
      refine v_imul C dX8_isSeen_58 ?_
      refine v_iload_n 3 C dX8_isSeen_59 rfl ?_
      refine v_iadd C dX8_isSeen_60 ?_
      refine v_iaload C dX8_isSeen_61 ck_55 (by decide) rfl ?_
      refine v_iload_n 2 C dX8_isSeen_62 rfl ?_
      refine v_cS2p C dX8_isSeen_63 ls_X8_221 (kX8_has (σ.1 55 0 (((nI 461) * p1) + p3).toNatClampNeg) p2 _) (by decide) (Nat.le_of_ble_eq_true rfl) ?_
      refine v_if_eq (tgt := 71) C dX8_isSeen_66 (by decide) ?_ ?_
      · skip
        refine v_iconst C dX8_isSeen_71 kc_iconst_0 ?_
        refine v_istore (lv' := [(4, .int 0), (0, .ref (adr Y 8 0)), (1, .int p1), (2, .int p2), (3, .int p3)]) C dX8_isSeen_72 (by decide) rfl ?_
        refine v_lv (vLX8_isSeen_74 _ _ _ C M _ (fun σ5 => ?_) FU _ _) [1, 2, 3, 4, 0] rfl
        refine v_iconst C dX8_isSeen_134 kc_iconst_0 ?_
        exact v_zret C M (by decide) dX8_isSeen_135
      · skip
        refine v_iconst C dX8_isSeen_69 kc_iconst_0 ?_
        exact v_zret C M (by decide) dX8_isSeen_70
    · skip
      refine v_aload_n 0 C dX8_isSeen_31 rfl ?_
      refine v_getc C dX8_isSeen_32 lf_X8_27 ck_8 rfl ?_
      refine v_bipush C dX8_isSeen_35 kc_bipush_12 ?_
      refine v_iload_n 2 C dX8_isSeen_37 rfl ?_
      refine v_iadd C dX8_isSeen_38 ?_
      refine v_iaload C dX8_isSeen_39 ck_47 (by decide) rfl ?_
      refine v_iconst C dX8_isSeen_40 kc_iconst_1 ?_
      refine v_cut (pcJ := 49) (lv := [(0, .ref (adr Y 8 0)), (1, .int p1), (2, .int p2), (3, .int p3)]) (st := .int (if (σ.1 47 0 ((nI 12) + p2).toNatClampNeg) = (nI 1) then (nI 1) else 0) :: []) ?_ (fun hj6 => ?_)
      rotate_left
      · skip
        refine v_icmp_ne_b (tgt := 48) C dX8_isSeen_41 (by decide) (fun h7 => ?_) (fun h7 => ?_)
        · have hj8 := v_jneg h7 hj6
          refine v_iconst C dX8_isSeen_48 kc_iconst_0 ?_
          exact hj8
        · have hj8 := v_jpos h7 hj6
          refine v_iconst C dX8_isSeen_44 kc_iconst_1 ?_
          refine v_goto (tgt := 49) C dX8_isSeen_45 (by decide) ?_
          exact hj8
      exact v_zretg C M dX8_isSeen_49
  · skip
    refine v_iconst C dX8_isSeen_17 kc_iconst_1 ?_
    exact v_zret C M (by decide) dX8_isSeen_18
-- OpenLinesModel nearest(III)I, depth 1
def LX8_nearest_6 (a1 : Int32) (a2 : Int32) (a3 : Int32) (ke : Int32 → St → Option (Int32 × St)) : Nat → Int32 → Int32 → St → Option (Int32 × St)
  | 0, _, _, _ => none
  | n + 1, b4, b5, σ => gi (nI 3) 59 <| (if (σ.1 44 0 (nI 3).toNatClampNeg) ≤ b5 then ke b4 σ else bd (fX8_slotsApart a1 b5 σ) fun (r2 : Int32) (σ1 : St) => (jn (fun (x4 : Int32) (σ3 : St) => LX8_nearest_6 a1 a2 a3 ke n x4 (b5 + nI 1) σ3) fun j69 => jn (fun (σ5 : St) => j69 b4 σ5) fun j67 => if b5 = a1 then j67 σ1 else gi (fX8_cell b5 a3) 2406 <| (if (fX8_has (σ1.1 51 0 (fX8_cell b5 a3).toNatClampNeg) a2) = 0 then j67 σ1 else (jn (fun (σ6 : St) => j69 r2 σ6) fun j62 => if b4 = 0 then j62 σ1 else (if b4 ≤ r2 then j67 σ1 else j62 σ1)))))
def fX8_nearest (p1 : Int32) (p2 : Int32) (p3 : Int32) (σ : St) : Option (Int32 × St) :=
  (LX8_nearest_6 p1 p2 p3 (fun (x7 : Int32) (σ8 : St) => some (x7, σ8)) FU 0 0 σ)
set_option maxRecDepth 20000 in
theorem vLX8_nearest_6 {Y : Cx} (a1 : Int32) (a2 : Int32) (a3 : Int32) (C : Ok Y RX8 cX8_nearest 7 1) (M : OkM Y (some .int)) (ke : Int32 → St → Option (Int32 × St)) (hke : ∀ (b4 : Int32) (σ : St), V Y gI 77 [(4, .int b4)] [] σ (ke b4 σ)) : ∀ (n : Nat) (b4 : Int32) (b5 : Int32) (σ : St), V Y gI 6 [(0, .ref (adr Y 8 0)), (1, .int a1), (2, .int a2), (3, .int a3), (4, .int b4), (5, .int b5)] [] σ (LX8_nearest_6 a1 a2 a3 ke n b4 b5 σ) := by
  intro n
  induction n with
  | zero => intros; exact v_none
  | succ n ih =>
    intro b4 b5 σ
    rw [LX8_nearest_6]
    refine v_iload 5 C dX8_nearest_6 rfl ?_
    refine v_aload_n 0 C dX8_nearest_8 rfl ?_
    refine v_getc C dX8_nearest_9 lf_X8_17 ck_8 rfl ?_
    refine v_iconst C dX8_nearest_12 kc_iconst_3 ?_
    refine v_iaload C dX8_nearest_13 ck_44 (by decide) rfl ?_
    refine v_icmp_ge (tgt := 77) C dX8_nearest_14 (by decide) ?_ ?_
    · skip
      exact v_lv (hke b4 σ) [4] rfl
    · skip
      refine v_aload_n 0 C dX8_nearest_17 rfl ?_
      refine v_iload_n 1 C dX8_nearest_18 rfl ?_
      refine v_iload 5 C dX8_nearest_19 rfl ?_
      refine v_cV2i C dX8_nearest_21 lv_X8_227 ck_8 (kX8_slotsApart a1 b5 _) (by decide) (Nat.le_of_ble_eq_true rfl) (fun r2 σ1 => ?_)
      refine v_istore (lv' := [(6, .int r2), (0, .ref (adr Y 8 0)), (1, .int a1), (2, .int a2), (3, .int a3), (4, .int b4), (5, .int b5)]) C dX8_nearest_24 (by decide) rfl ?_
      refine v_iload 6 C dX8_nearest_26 rfl ?_
      refine v_iload_n 2 C dX8_nearest_28 rfl ?_
      refine v_jn (fun j69 => ∀ (x4 : Int32) (σ3 : St), V Y gI 69 [(0, .ref (adr Y 8 0)), (1, .int a1), (2, .int a2), (3, .int a3), (5, .int b5)] [.int x4] σ3 (j69 x4 σ3)) ?_ ?_
      · intro x4 σ3
        refine v_istore (lv' := [(4, .int x4), (0, .ref (adr Y 8 0)), (1, .int a1), (2, .int a2), (3, .int a3), (5, .int b5)]) C dX8_nearest_69 (by decide) rfl ?_
        refine v_iinc (lv' := [(5, .int (b5 + nI 1)), (4, .int x4), (0, .ref (adr Y 8 0)), (1, .int a1), (2, .int a2), (3, .int a3)]) 5 C dX8_nearest_71 rfl (congrArg (b5 + ·) kc_iconst_1) (by decide) rfl ?_
        refine v_goto (tgt := 6) C dX8_nearest_74 (by decide) ?_
        exact v_lv (ih x4 (b5 + nI 1) σ3) [2, 3, 4, 5, 1, 0] rfl
      · intro j69 hj69
        refine v_jn (fun j67 => ∀ (σ5 : St), V Y gI 67 [(0, .ref (adr Y 8 0)), (1, .int a1), (2, .int a2), (3, .int a3), (4, .int b4), (5, .int b5)] [] σ5 (j67 σ5)) ?_ ?_
        · intro σ5
          refine v_iload 4 C dX8_nearest_67 rfl ?_
          exact v_lv (hj69 b4 σ5) [0, 1, 2, 3, 5] rfl
        · intro j67 hj67
          refine v_icmp_eq (tgt := 67) C dX8_nearest_29 (by decide) ?_ ?_
          · skip
            exact v_lv (hj67 σ1) [1, 2, 3, 4, 5, 6] rfl
          · skip
            refine v_aload_n 1 C dX8_nearest_32 rfl ?_
            refine v_getc C dX8_nearest_33 lf_X8_39 ck_8 rfl ?_
            refine v_iload 6 C dX8_nearest_36 rfl ?_
            refine v_iload_n 4 C dX8_nearest_38 rfl ?_
            refine v_cS2p C dX8_nearest_39 ls_X8_224 (kX8_cell b5 a3 _) (by decide) (Nat.le_of_ble_eq_true rfl) ?_
            refine v_iaload C dX8_nearest_42 ck_51 (by decide) rfl ?_
            refine v_iload_n 3 C dX8_nearest_43 rfl ?_
            refine v_cS2p C dX8_nearest_44 ls_X8_221 (kX8_has (σ1.1 51 0 (fX8_cell b5 a3).toNatClampNeg) a2 _) (by decide) (Nat.le_of_ble_eq_true rfl) ?_
            refine v_if_eq (tgt := 67) C dX8_nearest_47 (by decide) ?_ ?_
            · skip
              exact v_lv (hj67 σ1) [1, 2, 3, 4, 5, 6] rfl
            · skip
              refine v_iload 5 C dX8_nearest_50 rfl ?_
              refine v_jn (fun j62 => ∀ (σ6 : St), V Y gI 62 [(0, .ref (adr Y 8 0)), (1, .int a1), (2, .int a2), (3, .int a3), (5, .int b5), (6, .int r2)] [] σ6 (j62 σ6)) ?_ ?_
              · intro σ6
                refine v_iload 5 C dX8_nearest_62 rfl ?_
                refine v_goto (tgt := 69) C dX8_nearest_64 (by decide) ?_
                exact v_lv (hj69 r2 σ6) [0, 1, 2, 3, 4] rfl
              · intro j62 hj62
                refine v_if_eq (tgt := 62) C dX8_nearest_52 (by decide) ?_ ?_
                · skip
                  exact v_lv (hj62 σ1) [1, 2, 3, 4, 6, 0] rfl
                · skip
                  refine v_iload 0 C dX8_nearest_55 rfl ?_
                  refine v_iload 5 C dX8_nearest_57 rfl ?_
                  refine v_icmp_ge (tgt := 67) C dX8_nearest_59 (by decide) ?_ ?_
                  · skip
                    exact v_lv (hj67 σ1) [1, 2, 3, 4, 5, 6] rfl
                  · skip
                    exact v_lv (hj62 σ1) [1, 2, 3, 4, 6, 0] rfl
set_option maxRecDepth 20000 in
theorem kX8_nearest {X : Cx} (p1 : Int32) (p2 : Int32) (p3 : Int32) (σ : St) : Kon X 1 yX8_nearest cX8_nearest 7 (some .int) gI [.ref (adr X 8 0), .int p1, .int p2, .int p3] σ (fX8_nearest p1 p2 p3 σ) := by
  refine konJ (own := RX8) (fun _ => gI) (fun a b => [.ref (a 8 0), .int p1, .int p2, .int p3]) (by decide +kernel) rfl (fun _ _ => Nat.le_of_ble_eq_true rfl) (fun Y C M => ?_)
  show V Y gI 0 [(0, .ref (adr Y 8 0)), (1, .int p1), (2, .int p2), (3, .int p3)] [] σ (fX8_nearest p1 p2 p3 σ)
  unfold fX8_nearest
  refine v_iconst C dX8_nearest_0 kc_iconst_0 ?_
  refine v_istore (lv' := [(4, .int 0), (0, .ref (adr Y 8 0)), (1, .int p1), (2, .int p2), (3, .int p3)]) C dX8_nearest_1 (by decide) rfl ?_
  refine v_iconst C dX8_nearest_3 kc_iconst_0 ?_
  refine v_istore (lv' := [(5, .int 0), (4, .int 0), (0, .ref (adr Y 8 0)), (1, .int p1), (2, .int p2), (3, .int p3)]) C dX8_nearest_4 (by decide) rfl ?_
  refine v_lv (vLX8_nearest_6 _ _ _ C M _ (fun x7 σ8 => ?_) FU _ _ _) [2, 3, 4, 5, 1, 0] rfl
  refine v_iload 0 C dX8_nearest_77 rfl ?_
  exact v_iret C M dX8_nearest_79
-- OpenLinesModel dipsAt(II)V, depth 2
def LX8_dipsAt_114 (a1 : Int32) (a2 : Int32) (a3 : Int32) (a4 : Int32) (a5 : Int32) (a6 : Int32) (a7 : Int32) (ke : St → Option (Unit × St)) : Nat → Int32 → St → Option (Unit × St)
  | 0, _, _ => none
  | n + 1, b8, σ => (if (a7 + ((nI 2) * a5)) ≤ b8 then ke σ else gi (((nI 461) * a6) + b8) 2766 <| gi (((nI 461) * a6) + b8) 2766 <| lt (wI σ 55 0 (((nI 461) * a6) + b8).toNatClampNeg ((σ.1 55 0 (((nI 461) * a6) + b8).toNatClampNeg) ||| ((nI 1) <<< (a4 &&& 31)))) fun (σ10 : St) => LX8_dipsAt_114 a1 a2 a3 a4 a5 a6 a7 ke n (b8 + nI 1) σ10)
def LX8_dipsAt_88 (a1 : Int32) (a2 : Int32) (a3 : Int32) (a4 : Int32) (a5 : Int32) (ke : St → Option (Unit × St)) : Nat → Int32 → St → Option (Unit × St)
  | 0, _, _ => none
  | n + 1, b6, σ => gi (nI 3) 59 <| (if (σ.1 44 0 (nI 3).toNatClampNeg) ≤ b6 then ke σ else bd (fX8_slotsApart a1 b6 σ) fun (r8 : Int32) (σ7 : St) => lt (a2 + r8) fun (x9 : Int32) => (LX8_dipsAt_114 a1 a2 a3 a4 a5 b6 x9 (fun (σ11 : St) => LX8_dipsAt_88 a1 a2 a3 a4 a5 ke n (b6 + nI 1) σ11) FU x9 σ7))
def LX8_dipsAt_37 (a1 : Int32) (a2 : Int32) (a3 : Int32) (ke : St → Option (Unit × St)) : Nat → Int32 → St → Option (Unit × St)
  | 0, _, _ => none
  | n + 1, b4, σ => (if (nI 6) ≤ b4 then ke σ else (jn (fun (x4 : Int32) (σ3 : St) => (jn (fun (σ5 : St) => LX8_dipsAt_37 a1 a2 a3 ke n (b4 + nI 1) σ5) fun j159 => if x4 = 0 then j159 σ3 else lt (wI σ3 8 0 29 ((σ3.1 8 0 29) + (nI 1))) fun (σ6 : St) => (LX8_dipsAt_88 a1 a2 a3 b4 x4 (fun (σ12 : St) => j159 σ12) FU 0 σ6))) fun j65 => if (fX8_has a3 b4) = 0 then j65 0 σ else bd (fX8_nearest a1 b4 a2 σ) fun (r14 : Int32) (σ13 : St) => j65 r14 σ13))
def fX8_dipsAt (p1 : Int32) (p2 : Int32) (σ : St) : Option (Unit × St) :=
  (jn (fun (x2 : Int32) (σ1 : St) => (LX8_dipsAt_37 p1 p2 x2 (fun (σ15 : St) => some ((), σ15)) FU 0 σ1)) fun j33 => if p2 = 0 then j33 0 σ else gi (fX8_cell p1 (p2 - (nI 1))) 2406 <| gi (fX8_cell p1 p2) 2406 <| j33 ((σ.1 51 0 (fX8_cell p1 (p2 - (nI 1))).toNatClampNeg) &&& ((σ.1 51 0 (fX8_cell p1 p2).toNatClampNeg) ^^^ (-1))) σ)
set_option maxRecDepth 20000 in
theorem vLX8_dipsAt_114 {Y : Cx} (a1 : Int32) (a2 : Int32) (a3 : Int32) (a4 : Int32) (a5 : Int32) (a6 : Int32) (a7 : Int32) (C : Ok Y RX8 cX8_dipsAt 9 2) (M : OkM Y none) (ke : St → Option (Unit × St)) (hke : ∀ (σ : St), V Y gV 153 [(0, .ref (adr Y 8 0)), (1, .int a1), (2, .int a2), (3, .int a3), (4, .int a4), (5, .int a5), (6, .int a6)] [] σ (ke σ)) : ∀ (n : Nat) (b8 : Int32) (σ : St), V Y gV 114 [(0, .ref (adr Y 8 0)), (1, .int a1), (2, .int a2), (3, .int a3), (4, .int a4), (5, .int a5), (6, .int a6), (7, .int a7), (8, .int b8)] [] σ (LX8_dipsAt_114 a1 a2 a3 a4 a5 a6 a7 ke n b8 σ) := by
  intro n
  induction n with
  | zero => intros; exact v_none
  | succ n ih =>
    intro b8 σ
    rw [LX8_dipsAt_114]
    refine v_iload 8 C dX8_dipsAt_114 rfl ?_
    refine v_iload 7 C dX8_dipsAt_116 rfl ?_
    refine v_iconst C dX8_dipsAt_118 kc_iconst_2 ?_
    refine v_iload 5 C dX8_dipsAt_119 rfl ?_
    refine v_imul C dX8_dipsAt_121 ?_
    refine v_iadd C dX8_dipsAt_122 ?_
    refine v_icmp_ge (tgt := 153) C dX8_dipsAt_123 (by decide) ?_ ?_
    · skip
      exact v_lv (hke σ) [0, 1, 2, 3, 4, 5, 6] rfl
    · skip
      refine v_aload_n 0 C dX8_dipsAt_126 rfl ?_
      refine v_getc C dX8_dipsAt_127 lf_X8_51 ck_8 rfl ?_
      refine v_sipush C dX8_dipsAt_130 kc_sipush_461 ?_
      refine v_iload 6 C dX8_dipsAt_133 rfl ?_
      refine v_imul C dX8_dipsAt_135 ?_
      refine v_iload 8 C dX8_dipsAt_136 rfl ?_
      refine v_iadd C dX8_dipsAt_138 ?_
      refine v_dup2 C dX8_dipsAt_139 rfl rfl ?_
      refine v_iaload C dX8_dipsAt_140 ck_55 (by decide) rfl ?_
      refine v_iconst C dX8_dipsAt_141 kc_iconst_1 ?_
      refine v_iload 4 C dX8_dipsAt_142 rfl ?_
      refine v_ishl C dX8_dipsAt_144 ?_
      refine v_ior C dX8_dipsAt_145 ?_
      refine v_iastoreL C dX8_dipsAt_146 ck_55 (by decide) rfl (fun σ10 => ?_)
      refine v_iinc (lv' := [(8, .int (b8 + nI 1)), (0, .ref (adr Y 8 0)), (1, .int a1), (2, .int a2), (3, .int a3), (4, .int a4), (5, .int a5), (6, .int a6), (7, .int a7)]) 8 C dX8_dipsAt_147 rfl (congrArg (b8 + ·) kc_iconst_1) (by decide) rfl ?_
      refine v_goto (tgt := 114) C dX8_dipsAt_150 (by decide) ?_
      exact v_lv (ih (b8 + nI 1) σ10) [1, 2, 3, 4, 5, 6, 7, 8, 0] rfl
set_option maxRecDepth 20000 in
theorem vLX8_dipsAt_88 {Y : Cx} (a1 : Int32) (a2 : Int32) (a3 : Int32) (a4 : Int32) (a5 : Int32) (C : Ok Y RX8 cX8_dipsAt 9 2) (M : OkM Y none) (ke : St → Option (Unit × St)) (hke : ∀ (σ : St), V Y gV 159 [(0, .ref (adr Y 8 0)), (1, .int a1), (2, .int a2), (3, .int a3), (4, .int a4)] [] σ (ke σ)) : ∀ (n : Nat) (b6 : Int32) (σ : St), V Y gV 88 [(0, .ref (adr Y 8 0)), (1, .int a1), (2, .int a2), (3, .int a3), (4, .int a4), (5, .int a5), (6, .int b6)] [] σ (LX8_dipsAt_88 a1 a2 a3 a4 a5 ke n b6 σ) := by
  intro n
  induction n with
  | zero => intros; exact v_none
  | succ n ih =>
    intro b6 σ
    rw [LX8_dipsAt_88]
    refine v_iload 6 C dX8_dipsAt_88 rfl ?_
    refine v_aload_n 0 C dX8_dipsAt_90 rfl ?_
    refine v_getc C dX8_dipsAt_91 lf_X8_17 ck_8 rfl ?_
    refine v_iconst C dX8_dipsAt_94 kc_iconst_3 ?_
    refine v_iaload C dX8_dipsAt_95 ck_44 (by decide) rfl ?_
    refine v_icmp_ge (tgt := 159) C dX8_dipsAt_96 (by decide) ?_ ?_
    · skip
      exact v_lv (hke σ) [0, 1, 2, 3, 4] rfl
    · skip
      refine v_iload_n 2 C dX8_dipsAt_99 rfl ?_
      refine v_aload_n 0 C dX8_dipsAt_100 rfl ?_
      refine v_iload_n 1 C dX8_dipsAt_101 rfl ?_
      refine v_iload 6 C dX8_dipsAt_102 rfl ?_
      refine v_cV2i C dX8_dipsAt_104 lv_X8_227 ck_8 (kX8_slotsApart a1 b6 _) (by decide) (Nat.le_of_ble_eq_true rfl) (fun r8 σ7 => ?_)
      refine v_iadd C dX8_dipsAt_107 ?_
      refine v_istoreL (lv0 := [(0, .ref (adr Y 8 0)), (1, .int a1), (2, .int a2), (3, .int a3), (4, .int a4), (5, .int a5), (6, .int b6)]) C dX8_dipsAt_108 (by decide) rfl (fun x9 => ?_)
      refine v_iload 0 C dX8_dipsAt_110 rfl ?_
      refine v_istore (lv' := [(8, .int x9), (7, .int x9), (0, .ref (adr Y 8 0)), (1, .int a1), (2, .int a2), (3, .int a3), (4, .int a4), (5, .int a5), (6, .int b6)]) C dX8_dipsAt_112 (by decide) rfl ?_
      refine v_lv (vLX8_dipsAt_114 _ _ _ _ _ _ _ C M _ (fun σ11 => ?_) FU _ _) [2, 3, 4, 5, 6, 7, 8, 1, 0] rfl
      refine v_iinc (lv' := [(6, .int (b6 + nI 1)), (0, .ref (adr Y 8 0)), (1, .int a1), (2, .int a2), (3, .int a3), (4, .int a4), (5, .int a5)]) 6 C dX8_dipsAt_153 rfl (congrArg (b6 + ·) kc_iconst_1) (by decide) rfl ?_
      refine v_goto (tgt := 88) C dX8_dipsAt_156 (by decide) ?_
      exact v_lv (ih (b6 + nI 1) σ11) [1, 2, 3, 4, 5, 6, 0] rfl
set_option maxRecDepth 20000 in
theorem vLX8_dipsAt_37 {Y : Cx} (a1 : Int32) (a2 : Int32) (a3 : Int32) (C : Ok Y RX8 cX8_dipsAt 9 2) (M : OkM Y none) (ke : St → Option (Unit × St)) (hke : ∀ (σ : St), V Y gV 165 [] [] σ (ke σ)) : ∀ (n : Nat) (b4 : Int32) (σ : St), V Y gV 37 [(0, .ref (adr Y 8 0)), (1, .int a1), (2, .int a2), (3, .int a3), (4, .int b4)] [] σ (LX8_dipsAt_37 a1 a2 a3 ke n b4 σ) := by
  intro n
  induction n with
  | zero => intros; exact v_none
  | succ n ih =>
    intro b4 σ
    rw [LX8_dipsAt_37]
    refine v_iload 4 C dX8_dipsAt_37 rfl ?_
    refine v_bipush C dX8_dipsAt_39 kc_bipush_6 ?_
    refine v_icmp_ge (tgt := 165) C dX8_dipsAt_41 (by decide) ?_ ?_
    · skip
      exact v_lv (hke σ) [] rfl
    · skip
      refine v_iload_n 3 C dX8_dipsAt_44 rfl ?_
      refine v_iload 4 C dX8_dipsAt_45 rfl ?_
      refine v_cS2p C dX8_dipsAt_47 ls_X8_221 (kX8_has a3 b4 _) (by decide) (Nat.le_of_ble_eq_true rfl) ?_
      refine v_jn (fun j65 => ∀ (x4 : Int32) (σ3 : St), V Y gV 65 [(0, .ref (adr Y 8 0)), (1, .int a1), (2, .int a2), (3, .int a3), (4, .int b4)] [.int x4] σ3 (j65 x4 σ3)) ?_ ?_
      · intro x4 σ3
        refine v_istore (lv' := [(5, .int x4), (0, .ref (adr Y 8 0)), (1, .int a1), (2, .int a2), (3, .int a3), (4, .int b4)]) C dX8_dipsAt_65 (by decide) rfl ?_
        refine v_iload 0 C dX8_dipsAt_67 rfl ?_
        refine v_jn (fun j159 => ∀ (σ5 : St), V Y gV 159 [(0, .ref (adr Y 8 0)), (1, .int a1), (2, .int a2), (3, .int a3), (4, .int b4)] [] σ5 (j159 σ5)) ?_ ?_
        · intro σ5
          refine v_iinc (lv' := [(4, .int (b4 + nI 1)), (0, .ref (adr Y 8 0)), (1, .int a1), (2, .int a2), (3, .int a3)]) 4 C dX8_dipsAt_159 rfl (congrArg (b4 + ·) kc_iconst_1) (by decide) rfl ?_
          refine v_goto (tgt := 37) C dX8_dipsAt_162 (by decide) ?_
          exact v_lv (ih (b4 + nI 1) σ5) [1, 2, 3, 4, 0] rfl
        · intro j159 hj159
          refine v_if_ne (tgt := 75) C dX8_dipsAt_69 (by decide) ?_ ?_
          · skip
            refine v_aload_n 1 C dX8_dipsAt_75 rfl ?_
            refine v_dup C dX8_dipsAt_76 rfl ?_
            refine v_geti C dX8_dipsAt_77 lf_X8_234 ck_8 (by decide) ?_
            refine v_iconst C dX8_dipsAt_80 kc_iconst_1 ?_
            refine v_iadd C dX8_dipsAt_81 ?_
            refine v_putiL C dX8_dipsAt_82 lp_X8_234 ck_8 (by decide) (fun σ6 => ?_)
            refine v_iconst C dX8_dipsAt_85 kc_iconst_0 ?_
            refine v_istore (lv' := [(6, .int 0), (5, .int x4), (0, .ref (adr Y 8 0)), (1, .int a1), (2, .int a2), (3, .int a3), (4, .int b4)]) C dX8_dipsAt_86 (by decide) rfl ?_
            refine v_lv (vLX8_dipsAt_88 _ _ _ _ _ C M _ (fun σ12 => ?_) FU _ _) [2, 3, 4, 5, 6, 1, 0] rfl
            exact v_lv (hj159 σ12) [0, 1, 2, 3, 4] rfl
          · skip
            refine v_goto (tgt := 159) C dX8_dipsAt_72 (by decide) ?_
            exact v_lv (hj159 σ3) [1, 2, 3, 4, 5] rfl
      · intro j65 hj65
        refine v_if_eq (tgt := 64) C dX8_dipsAt_50 (by decide) ?_ ?_
        · skip
          refine v_iconst C dX8_dipsAt_64 kc_iconst_0 ?_
          exact v_lv (hj65 0 σ) [0, 1, 2, 3, 4] rfl
        · skip
          refine v_aload_n 0 C dX8_dipsAt_53 rfl ?_
          refine v_iload_n 1 C dX8_dipsAt_54 rfl ?_
          refine v_iload 4 C dX8_dipsAt_55 rfl ?_
          refine v_iload_n 2 C dX8_dipsAt_57 rfl ?_
          refine v_cV3i C dX8_dipsAt_58 lv_X8_230 ck_8 (kX8_nearest a1 b4 a2 _) (by decide) (Nat.le_of_ble_eq_true rfl) (fun r14 σ13 => ?_)
          refine v_goto (tgt := 65) C dX8_dipsAt_61 (by decide) ?_
          exact v_lv (hj65 r14 σ13) [0, 1, 2, 3, 4] rfl
set_option maxRecDepth 20000 in
theorem kX8_dipsAt {X : Cx} (p1 : Int32) (p2 : Int32) (σ : St) : Kon X 2 yX8_dipsAt cX8_dipsAt 9 none gV [.ref (adr X 8 0), .int p1, .int p2] σ (fX8_dipsAt p1 p2 σ) := by
  refine konJ (own := RX8) (fun _ => gV) (fun a b => [.ref (a 8 0), .int p1, .int p2]) (by decide +kernel) rfl (fun _ _ => Nat.le_of_ble_eq_true rfl) (fun Y C M => ?_)
  show V Y gV 0 [(0, .ref (adr Y 8 0)), (1, .int p1), (2, .int p2)] [] σ (fX8_dipsAt p1 p2 σ)
  unfold fX8_dipsAt
  refine v_iload_n 2 C dX8_dipsAt_0 rfl ?_
  refine v_jn (fun j33 => ∀ (x2 : Int32) (σ1 : St), V Y gV 33 [(0, .ref (adr Y 8 0)), (1, .int p1), (2, .int p2)] [.int x2] σ1 (j33 x2 σ1)) ?_ ?_
  · intro x2 σ1
    refine v_istore_n (lv' := [(3, .int x2), (0, .ref (adr Y 8 0)), (1, .int p1), (2, .int p2)]) C dX8_dipsAt_33 rfl (by decide) rfl ?_
    refine v_iconst C dX8_dipsAt_34 kc_iconst_0 ?_
    refine v_istore (lv' := [(4, .int 0), (3, .int x2), (0, .ref (adr Y 8 0)), (1, .int p1), (2, .int p2)]) C dX8_dipsAt_35 (by decide) rfl ?_
    refine v_lv (vLX8_dipsAt_37 _ _ _ C M _ (fun σ15 => ?_) FU _ _) [2, 3, 4, 1, 0] rfl
    exact v_vret C M dX8_dipsAt_165
  · intro j33 hj33
    refine v_if_ne (tgt := 8) C dX8_dipsAt_1 (by decide) ?_ ?_
    · skip
      refine v_aload_n 0 C dX8_dipsAt_8 rfl ?_
      refine v_getc C dX8_dipsAt_9 lf_X8_39 ck_8 rfl ?_
      refine v_iload_n 1 C dX8_dipsAt_12 rfl ?_
      refine v_iload_n 2 C dX8_dipsAt_13 rfl ?_
      refine v_iconst C dX8_dipsAt_14 kc_iconst_1 ?_
      refine v_isub C dX8_dipsAt_15 ?_
      refine v_cS2p C dX8_dipsAt_16 ls_X8_224 (kX8_cell p1 (p2 - (nI 1)) _) (by decide) (Nat.le_of_ble_eq_true rfl) ?_
      refine v_iaload C dX8_dipsAt_19 ck_51 (by decide) rfl ?_
      refine v_aload_n 0 C dX8_dipsAt_20 rfl ?_
      refine v_getc C dX8_dipsAt_21 lf_X8_39 ck_8 rfl ?_
      refine v_iload_n 1 C dX8_dipsAt_24 rfl ?_
      refine v_iload_n 2 C dX8_dipsAt_25 rfl ?_
      refine v_cS2p C dX8_dipsAt_26 ls_X8_224 (kX8_cell p1 p2 _) (by decide) (Nat.le_of_ble_eq_true rfl) ?_
      refine v_iaload C dX8_dipsAt_29 ck_51 (by decide) rfl ?_
      refine v_iconst C dX8_dipsAt_30 kc_iconst_m1 ?_
      refine v_ixor C dX8_dipsAt_31 ?_
      refine v_iand C dX8_dipsAt_32 ?_
      exact v_lv (hj33 ((σ.1 51 0 (fX8_cell p1 (p2 - (nI 1))).toNatClampNeg) &&& ((σ.1 51 0 (fX8_cell p1 p2).toNatClampNeg) ^^^ (-1))) σ) [0, 1, 2] rfl
    · skip
      refine v_iconst C dX8_dipsAt_4 kc_iconst_0 ?_
      refine v_goto (tgt := 33) C dX8_dipsAt_5 (by decide) ?_
      exact v_lv (hj33 0 σ) [0, 1, 2] rfl
-- OpenLinesModel looksAt(II)V, depth 2
def LX8_looksAt_5 (a1 : Int32) (a2 : Int32) (ke : Int32 → St → Option (Unit × St)) : Nat → Int32 → Int32 → St → Option (Unit × St)
  | 0, _, _, _ => none
  | n + 1, b3, b4, σ => (if (nI 6) ≤ b4 then ke b3 σ else bd (fX8_isSeen a1 b4 a2 σ) fun (r2 : Int32) (σ1 : St) => lt (b3 ||| (if r2 = 0 then 0 else ((nI 1) <<< (b4 &&& 31)))) fun (x6 : Int32) => LX8_looksAt_5 a1 a2 ke n x6 (b4 + nI 1) σ1)
def LX8_looksAt_57 (a1 : Int32) (a2 : Int32) (ke : Int32 → St → Option (Unit × St)) : Nat → Int32 → Int32 → St → Option (Unit × St)
  | 0, _, _, _ => none
  | n + 1, b4, b5, σ => (if b5 < 0 then ke b4 σ else gi (nI 1) 59 <| (if b5 < (a2 - (σ.1 44 0 (nI 1).toNatClampNeg)) then ke b4 σ else gi (fX8_cell a1 b5) 2406 <| lt (b4 ||| (σ.1 52 0 (fX8_cell a1 b5).toNatClampNeg)) fun (x10 : Int32) => LX8_looksAt_57 a1 a2 ke n x10 (b5 + (-1)) σ))
def LX8_looksAt_116 (a1 : Int32) (a2 : Int32) (a4 : Int32) (ke : Int32 → St → Option (Unit × St)) : Nat → Int32 → Int32 → St → Option (Unit × St)
  | 0, _, _, _ => none
  | n + 1, b5, b6, σ => (if (nI 6) ≤ b6 then ke b5 σ else (if (fX8_has (σ.1 8 0 23) a1) = 0 then ke b5 σ else (jn (fun (x15 : Int32) (σ14 : St) => LX8_looksAt_116 a1 a2 a4 ke n x15 (b6 + nI 1) σ14) fun j165 => jn (fun (σ16 : St) => j165 b5 σ16) fun j163 => if (fX8_has a4 b6) = 0 then j163 σ else gi a1 6 <| (if (fX8_has (σ.1 50 0 a1.toNatClampNeg) b6) = 0 then j165 b6 σ else j163 σ))))
def fX8_looksAt (p1 : Int32) (p2 : Int32) (σ : St) : Option (Unit × St) :=
  (LX8_looksAt_5 p1 p2 (fun (x7 : Int32) (σ8 : St) => gi (fX8_cell p1 p2) 2406 <| lt (wI σ8 52 0 (fX8_cell p1 p2).toNatClampNeg x7) fun (σ9 : St) => (LX8_looksAt_57 p1 p2 (fun (x11 : Int32) (σ12 : St) => gi (fX8_cell p1 p2) 2406 <| lt (wI σ12 53 0 (fX8_cell p1 p2).toNatClampNeg x11) fun (σ13 : St) => (LX8_looksAt_116 p1 p2 x11 (fun (x17 : Int32) (σ18 : St) => gi (fX8_cell p1 p2) 2406 <| lt (wI σ18 54 0 (fX8_cell p1 p2).toNatClampNeg x17) fun (σ19 : St) => some ((), σ19)) FU (-2) 0 σ13)) FU 0 p2 σ9)) FU 0 0 σ)
set_option maxRecDepth 20000 in
theorem vLX8_looksAt_5 {Y : Cx} (a1 : Int32) (a2 : Int32) (C : Ok Y RX8 cX8_looksAt 7 2) (M : OkM Y none) (ke : Int32 → St → Option (Unit × St)) (hke : ∀ (b3 : Int32) (σ : St), V Y gV 40 [(0, .ref (adr Y 8 0)), (1, .int a1), (2, .int a2), (3, .int b3)] [] σ (ke b3 σ)) : ∀ (n : Nat) (b3 : Int32) (b4 : Int32) (σ : St), V Y gV 5 [(0, .ref (adr Y 8 0)), (1, .int a1), (2, .int a2), (3, .int b3), (4, .int b4)] [] σ (LX8_looksAt_5 a1 a2 ke n b3 b4 σ) := by
  intro n
  induction n with
  | zero => intros; exact v_none
  | succ n ih =>
    intro b3 b4 σ
    rw [LX8_looksAt_5]
    refine v_iload 4 C dX8_looksAt_5 rfl ?_
    refine v_bipush C dX8_looksAt_7 kc_bipush_6 ?_
    refine v_icmp_ge (tgt := 40) C dX8_looksAt_9 (by decide) ?_ ?_
    · skip
      exact v_lv (hke b3 σ) [0, 1, 2, 3] rfl
    · skip
      refine v_iload_n 3 C dX8_looksAt_12 rfl ?_
      refine v_aload_n 0 C dX8_looksAt_13 rfl ?_
      refine v_iload_n 1 C dX8_looksAt_14 rfl ?_
      refine v_iload 4 C dX8_looksAt_15 rfl ?_
      refine v_iload_n 2 C dX8_looksAt_17 rfl ?_
      refine v_cV3i C dX8_looksAt_18 lv_X8_237 ck_8 (kX8_isSeen a1 b4 a2 _) (by decide) (Nat.le_of_ble_eq_true rfl) (fun r2 σ1 => ?_)
      refine v_cut (pcJ := 32) (lv := [(0, .ref (adr Y 8 0)), (1, .int a1), (2, .int a2), (3, .int b3), (4, .int b4)]) (st := .int (if r2 = 0 then 0 else ((nI 1) <<< (b4 &&& 31))) :: [.int b3]) ?_ (fun hj3 => ?_)
      rotate_left
      · skip
        refine v_if_eq_b (tgt := 31) C dX8_looksAt_21 (by decide) (fun h4 => ?_) (fun h4 => ?_)
        · have hj5 := v_jpos h4 hj3
          refine v_iconst C dX8_looksAt_31 kc_iconst_0 ?_
          exact hj5
        · have hj5 := v_jneg h4 hj3
          refine v_iconst C dX8_looksAt_24 kc_iconst_1 ?_
          refine v_iload 4 C dX8_looksAt_25 rfl ?_
          refine v_ishl C dX8_looksAt_27 ?_
          refine v_goto (tgt := 32) C dX8_looksAt_28 (by decide) ?_
          exact hj5
      refine v_ior C dX8_looksAt_32 ?_
      refine v_istore_nL (lv0 := [(0, .ref (adr Y 8 0)), (1, .int a1), (2, .int a2), (4, .int b4)]) C dX8_looksAt_33 rfl (by decide) rfl (fun x6 => ?_)
      refine v_iinc (lv' := [(4, .int (b4 + nI 1)), (3, .int x6), (0, .ref (adr Y 8 0)), (1, .int a1), (2, .int a2)]) 4 C dX8_looksAt_34 rfl (congrArg (b4 + ·) kc_iconst_1) (by decide) rfl ?_
      refine v_goto (tgt := 5) C dX8_looksAt_37 (by decide) ?_
      exact v_lv (ih x6 (b4 + nI 1) σ1) [2, 3, 4, 1, 0] rfl
set_option maxRecDepth 20000 in
theorem vLX8_looksAt_57 {Y : Cx} (a1 : Int32) (a2 : Int32) (C : Ok Y RX8 cX8_looksAt 7 2) (M : OkM Y none) (ke : Int32 → St → Option (Unit × St)) (hke : ∀ (b4 : Int32) (σ : St), V Y gV 97 [(0, .ref (adr Y 8 0)), (1, .int a1), (2, .int a2), (4, .int b4)] [] σ (ke b4 σ)) : ∀ (n : Nat) (b4 : Int32) (b5 : Int32) (σ : St), V Y gV 57 [(0, .ref (adr Y 8 0)), (1, .int a1), (2, .int a2), (4, .int b4), (5, .int b5)] [] σ (LX8_looksAt_57 a1 a2 ke n b4 b5 σ) := by
  intro n
  induction n with
  | zero => intros; exact v_none
  | succ n ih =>
    intro b4 b5 σ
    rw [LX8_looksAt_57]
    refine v_iload 4 C dX8_looksAt_57 rfl ?_
    refine v_if_lt (tgt := 97) C dX8_looksAt_59 (by decide) ?_ ?_
    · skip
      exact v_lv (hke b4 σ) [0, 1, 2, 3] rfl
    · skip
      refine v_iload 4 C dX8_looksAt_62 rfl ?_
      refine v_iload_n 2 C dX8_looksAt_64 rfl ?_
      refine v_aload_n 0 C dX8_looksAt_65 rfl ?_
      refine v_getc C dX8_looksAt_66 lf_X8_17 ck_8 rfl ?_
      refine v_iconst C dX8_looksAt_69 kc_iconst_1 ?_
      refine v_iaload C dX8_looksAt_70 ck_44 (by decide) rfl ?_
      refine v_isub C dX8_looksAt_71 ?_
      refine v_icmp_lt (tgt := 97) C dX8_looksAt_72 (by decide) ?_ ?_
      · skip
        exact v_lv (hke b4 σ) [0, 1, 2, 3] rfl
      · skip
        refine v_iload 3 C dX8_looksAt_75 rfl ?_
        refine v_aload_n 0 C dX8_looksAt_77 rfl ?_
        refine v_getc C dX8_looksAt_78 lf_X8_42 ck_8 rfl ?_
        refine v_iload_n 1 C dX8_looksAt_81 rfl ?_
        refine v_iload 4 C dX8_looksAt_82 rfl ?_
        refine v_cS2p C dX8_looksAt_84 ls_X8_224 (kX8_cell a1 b5 _) (by decide) (Nat.le_of_ble_eq_true rfl) ?_
        refine v_iaload C dX8_looksAt_87 ck_52 (by decide) rfl ?_
        refine v_ior C dX8_looksAt_88 ?_
        refine v_istoreL (lv0 := [(0, .ref (adr Y 8 0)), (1, .int a1), (2, .int a2), (5, .int b5)]) C dX8_looksAt_89 (by decide) rfl (fun x10 => ?_)
        refine v_iinc (lv' := [(5, .int (b5 + (-1))), (4, .int x10), (0, .ref (adr Y 8 0)), (1, .int a1), (2, .int a2)]) 4 C dX8_looksAt_91 rfl (congrArg (b5 + ·) kc_iconst_m1) (by decide) rfl ?_
        refine v_goto (tgt := 57) C dX8_looksAt_94 (by decide) ?_
        exact v_lv (ih x10 (b5 + (-1)) σ) [2, 3, 4, 1, 0] rfl
set_option maxRecDepth 20000 in
theorem vLX8_looksAt_116 {Y : Cx} (a1 : Int32) (a2 : Int32) (a4 : Int32) (C : Ok Y RX8 cX8_looksAt 7 2) (M : OkM Y none) (ke : Int32 → St → Option (Unit × St)) (hke : ∀ (b5 : Int32) (σ : St), V Y gV 173 [(0, .ref (adr Y 8 0)), (1, .int a1), (2, .int a2), (5, .int b5)] [] σ (ke b5 σ)) : ∀ (n : Nat) (b5 : Int32) (b6 : Int32) (σ : St), V Y gV 116 [(0, .ref (adr Y 8 0)), (1, .int a1), (2, .int a2), (4, .int a4), (5, .int b5), (6, .int b6)] [] σ (LX8_looksAt_116 a1 a2 a4 ke n b5 b6 σ) := by
  intro n
  induction n with
  | zero => intros; exact v_none
  | succ n ih =>
    intro b5 b6 σ
    rw [LX8_looksAt_116]
    refine v_iload 5 C dX8_looksAt_116 rfl ?_
    refine v_bipush C dX8_looksAt_118 kc_bipush_6 ?_
    refine v_icmp_ge (tgt := 173) C dX8_looksAt_120 (by decide) ?_ ?_
    · skip
      exact v_lv (hke b5 σ) [0, 1, 2, 4] rfl
    · skip
      refine v_aload_n 0 C dX8_looksAt_123 rfl ?_
      refine v_geti C dX8_looksAt_124 lf_X8_218 ck_8 (by decide) ?_
      refine v_iload_n 1 C dX8_looksAt_127 rfl ?_
      refine v_cS2p C dX8_looksAt_128 ls_X8_221 (kX8_has (σ.1 8 0 23) a1 _) (by decide) (Nat.le_of_ble_eq_true rfl) ?_
      refine v_if_eq (tgt := 173) C dX8_looksAt_131 (by decide) ?_ ?_
      · skip
        exact v_lv (hke b5 σ) [0, 1, 2, 4] rfl
      · skip
        refine v_iload 3 C dX8_looksAt_134 rfl ?_
        refine v_iload 5 C dX8_looksAt_136 rfl ?_
        refine v_cS2p C dX8_looksAt_138 ls_X8_221 (kX8_has a4 b6 _) (by decide) (Nat.le_of_ble_eq_true rfl) ?_
        refine v_jn (fun j165 => ∀ (x15 : Int32) (σ14 : St), V Y gV 165 [(0, .ref (adr Y 8 0)), (1, .int a1), (2, .int a2), (4, .int a4), (6, .int b6)] [.int x15] σ14 (j165 x15 σ14)) ?_ ?_
        · intro x15 σ14
          refine v_istore (lv' := [(5, .int x15), (0, .ref (adr Y 8 0)), (1, .int a1), (2, .int a2), (4, .int a4), (6, .int b6)]) C dX8_looksAt_165 (by decide) rfl ?_
          refine v_iinc (lv' := [(6, .int (b6 + nI 1)), (5, .int x15), (0, .ref (adr Y 8 0)), (1, .int a1), (2, .int a2), (4, .int a4)]) 5 C dX8_looksAt_167 rfl (congrArg (b6 + ·) kc_iconst_1) (by decide) rfl ?_
          refine v_goto (tgt := 116) C dX8_looksAt_170 (by decide) ?_
          exact v_lv (ih x15 (b6 + nI 1) σ14) [2, 3, 4, 5, 1, 0] rfl
        · intro j165 hj165
          refine v_jn (fun j163 => ∀ (σ16 : St), V Y gV 163 [(0, .ref (adr Y 8 0)), (1, .int a1), (2, .int a2), (4, .int a4), (5, .int b5), (6, .int b6)] [] σ16 (j163 σ16)) ?_ ?_
          · intro σ16
            refine v_iload 4 C dX8_looksAt_163 rfl ?_
            exact v_lv (hj165 b5 σ16) [0, 1, 2, 3, 5] rfl
          · intro j163 hj163
            refine v_if_eq (tgt := 163) C dX8_looksAt_141 (by decide) ?_ ?_
            · skip
              exact v_lv (hj163 σ) [0, 1, 2, 3, 4, 5] rfl
            · skip
              refine v_aload_n 0 C dX8_looksAt_144 rfl ?_
              refine v_getc C dX8_looksAt_145 lf_X8_36 ck_8 rfl ?_
              refine v_iload_n 1 C dX8_looksAt_148 rfl ?_
              refine v_iaload C dX8_looksAt_149 ck_50 (by decide) rfl ?_
              refine v_iload 5 C dX8_looksAt_150 rfl ?_
              refine v_cS2p C dX8_looksAt_152 ls_X8_221 (kX8_has (σ.1 50 0 a1.toNatClampNeg) b6 _) (by decide) (Nat.le_of_ble_eq_true rfl) ?_
              refine v_if_ne (tgt := 163) C dX8_looksAt_155 (by decide) ?_ ?_
              · skip
                exact v_lv (hj163 σ) [0, 1, 2, 3, 4, 5] rfl
              · skip
                refine v_iload 5 C dX8_looksAt_158 rfl ?_
                refine v_goto (tgt := 165) C dX8_looksAt_160 (by decide) ?_
                exact v_lv (hj165 b6 σ) [0, 1, 2, 3, 5] rfl
set_option maxRecDepth 20000 in
theorem kX8_looksAt {X : Cx} (p1 : Int32) (p2 : Int32) (σ : St) : Kon X 2 yX8_looksAt cX8_looksAt 7 none gV [.ref (adr X 8 0), .int p1, .int p2] σ (fX8_looksAt p1 p2 σ) := by
  refine konJ (own := RX8) (fun _ => gV) (fun a b => [.ref (a 8 0), .int p1, .int p2]) (by decide +kernel) rfl (fun _ _ => Nat.le_of_ble_eq_true rfl) (fun Y C M => ?_)
  show V Y gV 0 [(0, .ref (adr Y 8 0)), (1, .int p1), (2, .int p2)] [] σ (fX8_looksAt p1 p2 σ)
  unfold fX8_looksAt
  refine v_iconst C dX8_looksAt_0 kc_iconst_0 ?_
  refine v_istore_n (lv' := [(3, .int 0), (0, .ref (adr Y 8 0)), (1, .int p1), (2, .int p2)]) C dX8_looksAt_1 rfl (by decide) rfl ?_
  refine v_iconst C dX8_looksAt_2 kc_iconst_0 ?_
  refine v_istore (lv' := [(4, .int 0), (3, .int 0), (0, .ref (adr Y 8 0)), (1, .int p1), (2, .int p2)]) C dX8_looksAt_3 (by decide) rfl ?_
  refine v_lv (vLX8_looksAt_5 _ _ C M _ (fun x7 σ8 => ?_) FU _ _ _) [2, 3, 4, 1, 0] rfl
  refine v_aload_n 0 C dX8_looksAt_40 rfl ?_
  refine v_getc C dX8_looksAt_41 lf_X8_42 ck_8 rfl ?_
  refine v_iload_n 1 C dX8_looksAt_44 rfl ?_
  refine v_iload_n 2 C dX8_looksAt_45 rfl ?_
  refine v_cS2p C dX8_looksAt_46 ls_X8_224 (kX8_cell p1 p2 _) (by decide) (Nat.le_of_ble_eq_true rfl) ?_
  refine v_iload_n 3 C dX8_looksAt_49 rfl ?_
  refine v_iastoreL C dX8_looksAt_50 ck_52 (by decide) rfl (fun σ9 => ?_)
  refine v_iconst C dX8_looksAt_51 kc_iconst_0 ?_
  refine v_istore (lv' := [(4, .int 0), (0, .ref (adr Y 8 0)), (1, .int p1), (2, .int p2), (3, .int x7)]) C dX8_looksAt_52 (by decide) rfl ?_
  refine v_iload_n 3 C dX8_looksAt_54 rfl ?_
  refine v_istore (lv' := [(5, .int p2), (4, .int 0), (0, .ref (adr Y 8 0)), (1, .int p1), (2, .int p2), (3, .int x7)]) C dX8_looksAt_55 (by decide) rfl ?_
  refine v_lv (vLX8_looksAt_57 _ _ C M _ (fun x11 σ12 => ?_) FU _ _ _) [2, 3, 4, 1, 0] rfl
  refine v_aload_n 0 C dX8_looksAt_97 rfl ?_
  refine v_getc C dX8_looksAt_98 lf_X8_45 ck_8 rfl ?_
  refine v_iload_n 1 C dX8_looksAt_101 rfl ?_
  refine v_iload_n 2 C dX8_looksAt_102 rfl ?_
  refine v_cS2p C dX8_looksAt_103 ls_X8_224 (kX8_cell p1 p2 _) (by decide) (Nat.le_of_ble_eq_true rfl) ?_
  refine v_iload 3 C dX8_looksAt_106 rfl ?_
  refine v_iastoreL C dX8_looksAt_108 ck_53 (by decide) rfl (fun σ13 => ?_)
  refine v_bipush C dX8_looksAt_109 kc_bipush_m2 ?_
  refine v_istore (lv' := [(5, .int (-2)), (0, .ref (adr Y 8 0)), (1, .int p1), (2, .int p2), (4, .int x11)]) C dX8_looksAt_111 (by decide) rfl ?_
  refine v_iconst C dX8_looksAt_113 kc_iconst_0 ?_
  refine v_istore (lv' := [(6, .int 0), (5, .int (-2)), (0, .ref (adr Y 8 0)), (1, .int p1), (2, .int p2), (4, .int x11)]) C dX8_looksAt_114 (by decide) rfl ?_
  refine v_lv (vLX8_looksAt_116 _ _ _ C M _ (fun x17 σ18 => ?_) FU _ _ _) [2, 3, 4, 5, 1, 0] rfl
  refine v_aload_n 0 C dX8_looksAt_173 rfl ?_
  refine v_getc C dX8_looksAt_174 lf_X8_48 ck_8 rfl ?_
  refine v_iload_n 1 C dX8_looksAt_177 rfl ?_
  refine v_iload_n 2 C dX8_looksAt_178 rfl ?_
  refine v_cS2p C dX8_looksAt_179 ls_X8_224 (kX8_cell p1 p2 _) (by decide) (Nat.le_of_ble_eq_true rfl) ?_
  refine v_iload 3 C dX8_looksAt_182 rfl ?_
  refine v_iastoreL C dX8_looksAt_184 ck_54 (by decide) rfl (fun σ19 => ?_)
  exact v_vret C M dX8_looksAt_185
-- OpenLinesModel laysPass(I)V, depth 3
def LX8_laysPass_12 (ke : St → Option (Unit × St)) : Nat → Int32 → St → Option (Unit × St)
  | 0, _, _ => none
  | n + 1, b2, σ => (if (nI 2766) ≤ b2 then ke σ else gi b2 2766 <| lt (wI σ 55 0 b2.toNatClampNeg 0) fun (σ3 : St) => LX8_laysPass_12 ke n (b2 + nI 1) σ3)
def LX8_laysPass_43 (a2 : Int32) (ke : St → Option (Unit × St)) : Nat → Int32 → St → Option (Unit × St)
  | 0, _, _ => none
  | n + 1, b3, σ => gi (nI 3) 59 <| (if (σ.1 44 0 (nI 3).toNatClampNeg) ≤ b3 then ke σ else bd (fX8_drivesAt b3 a2 σ) fun _ (σ5 : St) => LX8_laysPass_43 a2 ke n (b3 + nI 1) σ5)
def LX8_laysPass_67 (a2 : Int32) (ke : St → Option (Unit × St)) : Nat → Int32 → St → Option (Unit × St)
  | 0, _, _ => none
  | n + 1, b3, σ => gi (nI 3) 59 <| (if (σ.1 44 0 (nI 3).toNatClampNeg) ≤ b3 then ke σ else bd (fX8_dipsAt b3 a2 σ) fun _ (σ7 : St) => LX8_laysPass_67 a2 ke n (b3 + nI 1) σ7)
def LX8_laysPass_91 (a2 : Int32) (ke : St → Option (Unit × St)) : Nat → Int32 → St → Option (Unit × St)
  | 0, _, _ => none
  | n + 1, b3, σ => gi (nI 3) 59 <| (if (σ.1 44 0 (nI 3).toNatClampNeg) ≤ b3 then ke σ else bd (fX8_looksAt b3 a2 σ) fun _ (σ9 : St) => LX8_laysPass_91 a2 ke n (b3 + nI 1) σ9)
def LX8_laysPass_34 (ke : St → Option (Unit × St)) : Nat → Int32 → St → Option (Unit × St)
  | 0, _, _ => none
  | n + 1, b2, σ => (if (nI 401) ≤ b2 then ke σ else (LX8_laysPass_43 b2 (fun (σ6 : St) => (LX8_laysPass_67 b2 (fun (σ8 : St) => (LX8_laysPass_91 b2 (fun (σ10 : St) => LX8_laysPass_34 ke n (b2 + nI 1) σ10) FU 0 σ8)) FU 0 σ6)) FU 0 σ))
def fX8_laysPass (p1 : Int32) (σ : St) : Option (Unit × St) :=
  lt (wI σ 8 0 23 p1) fun (σ1 : St) => lt (wI σ1 8 0 29 0) fun (σ2 : St) => (LX8_laysPass_12 (fun (σ4 : St) => (LX8_laysPass_34 (fun (σ11 : St) => some ((), σ11)) FU 0 σ4)) FU 0 σ2)
set_option maxRecDepth 20000 in
theorem vLX8_laysPass_12 {Y : Cx} (C : Ok Y RX8 cX8_laysPass 4 3) (M : OkM Y none) (ke : St → Option (Unit × St)) (hke : ∀ (σ : St), V Y gV 32 [(0, .ref (adr Y 8 0))] [] σ (ke σ)) : ∀ (n : Nat) (b2 : Int32) (σ : St), V Y gV 12 [(0, .ref (adr Y 8 0)), (2, .int b2)] [] σ (LX8_laysPass_12 ke n b2 σ) := by
  intro n
  induction n with
  | zero => intros; exact v_none
  | succ n ih =>
    intro b2 σ
    rw [LX8_laysPass_12]
    refine v_iload_n 1 C dX8_laysPass_12 rfl ?_
    refine v_sipush C dX8_laysPass_13 kc_sipush_2766 ?_
    refine v_icmp_ge (tgt := 32) C dX8_laysPass_16 (by decide) ?_ ?_
    · skip
      exact v_lv (hke σ) [0] rfl
    · skip
      refine v_aload_n 0 C dX8_laysPass_19 rfl ?_
      refine v_getc C dX8_laysPass_20 lf_X8_51 ck_8 rfl ?_
      refine v_iload_n 1 C dX8_laysPass_23 rfl ?_
      refine v_iconst C dX8_laysPass_24 kc_iconst_0 ?_
      refine v_iastoreL C dX8_laysPass_25 ck_55 (by decide) rfl (fun σ3 => ?_)
      refine v_iinc (lv' := [(2, .int (b2 + nI 1)), (0, .ref (adr Y 8 0))]) 1 C dX8_laysPass_26 rfl (congrArg (b2 + ·) kc_iconst_1) (by decide) rfl ?_
      refine v_goto (tgt := 12) C dX8_laysPass_29 (by decide) ?_
      exact v_lv (ih (b2 + nI 1) σ3) [1, 0] rfl
set_option maxRecDepth 20000 in
theorem vLX8_laysPass_43 {Y : Cx} (a2 : Int32) (C : Ok Y RX8 cX8_laysPass 4 3) (M : OkM Y none) (ke : St → Option (Unit × St)) (hke : ∀ (σ : St), V Y gV 65 [(0, .ref (adr Y 8 0)), (2, .int a2)] [] σ (ke σ)) : ∀ (n : Nat) (b3 : Int32) (σ : St), V Y gV 43 [(0, .ref (adr Y 8 0)), (2, .int a2), (3, .int b3)] [] σ (LX8_laysPass_43 a2 ke n b3 σ) := by
  intro n
  induction n with
  | zero => intros; exact v_none
  | succ n ih =>
    intro b3 σ
    rw [LX8_laysPass_43]
    refine v_iload_n 2 C dX8_laysPass_43 rfl ?_
    refine v_aload_n 0 C dX8_laysPass_44 rfl ?_
    refine v_getc C dX8_laysPass_45 lf_X8_17 ck_8 rfl ?_
    refine v_iconst C dX8_laysPass_48 kc_iconst_3 ?_
    refine v_iaload C dX8_laysPass_49 ck_44 (by decide) rfl ?_
    refine v_icmp_ge (tgt := 65) C dX8_laysPass_50 (by decide) ?_ ?_
    · skip
      exact v_lv (hke σ) [0, 1] rfl
    · skip
      refine v_aload_n 0 C dX8_laysPass_53 rfl ?_
      refine v_iload_n 2 C dX8_laysPass_54 rfl ?_
      refine v_iload_n 1 C dX8_laysPass_55 rfl ?_
      refine v_cV2v C dX8_laysPass_56 lv_X8_240 ck_8 (kX8_drivesAt b3 a2 _) (by decide) (Nat.le_of_ble_eq_true rfl) (fun _ σ5 => ?_)
      refine v_iinc (lv' := [(3, .int (b3 + nI 1)), (0, .ref (adr Y 8 0)), (2, .int a2)]) 2 C dX8_laysPass_59 rfl (congrArg (b3 + ·) kc_iconst_1) (by decide) rfl ?_
      refine v_goto (tgt := 43) C dX8_laysPass_62 (by decide) ?_
      exact v_lv (ih (b3 + nI 1) σ5) [1, 2, 0] rfl
set_option maxRecDepth 20000 in
theorem vLX8_laysPass_67 {Y : Cx} (a2 : Int32) (C : Ok Y RX8 cX8_laysPass 4 3) (M : OkM Y none) (ke : St → Option (Unit × St)) (hke : ∀ (σ : St), V Y gV 89 [(0, .ref (adr Y 8 0)), (2, .int a2)] [] σ (ke σ)) : ∀ (n : Nat) (b3 : Int32) (σ : St), V Y gV 67 [(0, .ref (adr Y 8 0)), (2, .int a2), (3, .int b3)] [] σ (LX8_laysPass_67 a2 ke n b3 σ) := by
  intro n
  induction n with
  | zero => intros; exact v_none
  | succ n ih =>
    intro b3 σ
    rw [LX8_laysPass_67]
    refine v_iload_n 2 C dX8_laysPass_67 rfl ?_
    refine v_aload_n 0 C dX8_laysPass_68 rfl ?_
    refine v_getc C dX8_laysPass_69 lf_X8_17 ck_8 rfl ?_
    refine v_iconst C dX8_laysPass_72 kc_iconst_3 ?_
    refine v_iaload C dX8_laysPass_73 ck_44 (by decide) rfl ?_
    refine v_icmp_ge (tgt := 89) C dX8_laysPass_74 (by decide) ?_ ?_
    · skip
      exact v_lv (hke σ) [0, 1] rfl
    · skip
      refine v_aload_n 0 C dX8_laysPass_77 rfl ?_
      refine v_iload_n 2 C dX8_laysPass_78 rfl ?_
      refine v_iload_n 1 C dX8_laysPass_79 rfl ?_
      refine v_cV2v C dX8_laysPass_80 lv_X8_244 ck_8 (kX8_dipsAt b3 a2 _) (by decide) (Nat.le_of_ble_eq_true rfl) (fun _ σ7 => ?_)
      refine v_iinc (lv' := [(3, .int (b3 + nI 1)), (0, .ref (adr Y 8 0)), (2, .int a2)]) 2 C dX8_laysPass_83 rfl (congrArg (b3 + ·) kc_iconst_1) (by decide) rfl ?_
      refine v_goto (tgt := 67) C dX8_laysPass_86 (by decide) ?_
      exact v_lv (ih (b3 + nI 1) σ7) [1, 2, 0] rfl
set_option maxRecDepth 20000 in
theorem vLX8_laysPass_91 {Y : Cx} (a2 : Int32) (C : Ok Y RX8 cX8_laysPass 4 3) (M : OkM Y none) (ke : St → Option (Unit × St)) (hke : ∀ (σ : St), V Y gV 113 [(0, .ref (adr Y 8 0)), (2, .int a2)] [] σ (ke σ)) : ∀ (n : Nat) (b3 : Int32) (σ : St), V Y gV 91 [(0, .ref (adr Y 8 0)), (2, .int a2), (3, .int b3)] [] σ (LX8_laysPass_91 a2 ke n b3 σ) := by
  intro n
  induction n with
  | zero => intros; exact v_none
  | succ n ih =>
    intro b3 σ
    rw [LX8_laysPass_91]
    refine v_iload_n 2 C dX8_laysPass_91 rfl ?_
    refine v_aload_n 0 C dX8_laysPass_92 rfl ?_
    refine v_getc C dX8_laysPass_93 lf_X8_17 ck_8 rfl ?_
    refine v_iconst C dX8_laysPass_96 kc_iconst_3 ?_
    refine v_iaload C dX8_laysPass_97 ck_44 (by decide) rfl ?_
    refine v_icmp_ge (tgt := 113) C dX8_laysPass_98 (by decide) ?_ ?_
    · skip
      exact v_lv (hke σ) [0, 1] rfl
    · skip
      refine v_aload_n 0 C dX8_laysPass_101 rfl ?_
      refine v_iload_n 2 C dX8_laysPass_102 rfl ?_
      refine v_iload_n 1 C dX8_laysPass_103 rfl ?_
      refine v_cV2v C dX8_laysPass_104 lv_X8_247 ck_8 (kX8_looksAt b3 a2 _) (by decide) (Nat.le_of_ble_eq_true rfl) (fun _ σ9 => ?_)
      refine v_iinc (lv' := [(3, .int (b3 + nI 1)), (0, .ref (adr Y 8 0)), (2, .int a2)]) 2 C dX8_laysPass_107 rfl (congrArg (b3 + ·) kc_iconst_1) (by decide) rfl ?_
      refine v_goto (tgt := 91) C dX8_laysPass_110 (by decide) ?_
      exact v_lv (ih (b3 + nI 1) σ9) [1, 2, 0] rfl
set_option maxRecDepth 20000 in
theorem vLX8_laysPass_34 {Y : Cx} (C : Ok Y RX8 cX8_laysPass 4 3) (M : OkM Y none) (ke : St → Option (Unit × St)) (hke : ∀ (σ : St), V Y gV 119 [] [] σ (ke σ)) : ∀ (n : Nat) (b2 : Int32) (σ : St), V Y gV 34 [(0, .ref (adr Y 8 0)), (2, .int b2)] [] σ (LX8_laysPass_34 ke n b2 σ) := by
  intro n
  induction n with
  | zero => intros; exact v_none
  | succ n ih =>
    intro b2 σ
    rw [LX8_laysPass_34]
    refine v_iload_n 1 C dX8_laysPass_34 rfl ?_
    refine v_sipush C dX8_laysPass_35 kc_sipush_401 ?_
    refine v_icmp_ge (tgt := 119) C dX8_laysPass_38 (by decide) ?_ ?_
    · skip
      exact v_lv (hke σ) [] rfl
    · skip
      refine v_iconst C dX8_laysPass_41 kc_iconst_0 ?_
      refine v_istore_n (lv' := [(3, .int 0), (0, .ref (adr Y 8 0)), (2, .int b2)]) C dX8_laysPass_42 rfl (by decide) rfl ?_
      refine v_lv (vLX8_laysPass_43 _ C M _ (fun σ6 => ?_) FU _ _) [1, 2, 0] rfl
      refine v_iconst C dX8_laysPass_65 kc_iconst_0 ?_
      refine v_istore_n (lv' := [(3, .int 0), (0, .ref (adr Y 8 0)), (2, .int b2)]) C dX8_laysPass_66 rfl (by decide) rfl ?_
      refine v_lv (vLX8_laysPass_67 _ C M _ (fun σ8 => ?_) FU _ _) [1, 2, 0] rfl
      refine v_iconst C dX8_laysPass_89 kc_iconst_0 ?_
      refine v_istore_n (lv' := [(3, .int 0), (0, .ref (adr Y 8 0)), (2, .int b2)]) C dX8_laysPass_90 rfl (by decide) rfl ?_
      refine v_lv (vLX8_laysPass_91 _ C M _ (fun σ10 => ?_) FU _ _) [1, 2, 0] rfl
      refine v_iinc (lv' := [(2, .int (b2 + nI 1)), (0, .ref (adr Y 8 0))]) 1 C dX8_laysPass_113 rfl (congrArg (b2 + ·) kc_iconst_1) (by decide) rfl ?_
      refine v_goto (tgt := 34) C dX8_laysPass_116 (by decide) ?_
      exact v_lv (ih (b2 + nI 1) σ10) [1, 0] rfl
set_option maxRecDepth 20000 in
theorem kX8_laysPass {X : Cx} (p1 : Int32) (σ : St) : Kon X 3 yX8_laysPass cX8_laysPass 4 none gV [.ref (adr X 8 0), .int p1] σ (fX8_laysPass p1 σ) := by
  refine konJ (own := RX8) (fun _ => gV) (fun a b => [.ref (a 8 0), .int p1]) (by decide +kernel) rfl (fun _ _ => Nat.le_of_ble_eq_true rfl) (fun Y C M => ?_)
  show V Y gV 0 [(0, .ref (adr Y 8 0)), (1, .int p1)] [] σ (fX8_laysPass p1 σ)
  unfold fX8_laysPass
  refine v_aload_n 0 C dX8_laysPass_0 rfl ?_
  refine v_iload_n 1 C dX8_laysPass_1 rfl ?_
  refine v_putiL C dX8_laysPass_2 lp_X8_218 ck_8 (by decide) (fun σ1 => ?_)
  refine v_aload_n 0 C dX8_laysPass_5 rfl ?_
  refine v_iconst C dX8_laysPass_6 kc_iconst_0 ?_
  refine v_putiL C dX8_laysPass_7 lp_X8_234 ck_8 (by decide) (fun σ2 => ?_)
  refine v_iconst C dX8_laysPass_10 kc_iconst_0 ?_
  refine v_istore_n (lv' := [(2, .int 0), (0, .ref (adr Y 8 0)), (1, .int p1)]) C dX8_laysPass_11 rfl (by decide) rfl ?_
  refine v_lv (vLX8_laysPass_12 C M _ (fun σ4 => ?_) FU _ _) [1, 0] rfl
  refine v_iconst C dX8_laysPass_32 kc_iconst_0 ?_
  refine v_istore_n (lv' := [(2, .int 0), (0, .ref (adr Y 8 0))]) C dX8_laysPass_33 rfl (by decide) rfl ?_
  refine v_lv (vLX8_laysPass_34 C M _ (fun σ11 => ?_) FU _ _) [1, 0] rfl
  exact v_vret C M dX8_laysPass_119
-- OpenLinesModel rightOnes()I, depth 1
def LX8_rightOnes_6 (ke : Int32 → St → Option (Int32 × St)) : Nat → Int32 → Int32 → Int32 → St → Option (Int32 × St)
  | 0, _, _, _, _ => none
  | n + 1, b1, b2, b3, σ => gi (nI 3) 59 <| (if (σ.1 44 0 (nI 3).toNatClampNeg) ≤ b3 then ke b2 σ else (jn (fun (x2 : Int32) (x3 : Int32) (σ1 : St) => LX8_rightOnes_6 ke n x2 x3 (b3 + nI 1) σ1) fun j66 => if (fX8_has (σ.1 8 0 23) b3) = 0 then j66 b1 b2 σ else gi b3 6 <| (if (σ.1 50 0 b3.toNatClampNeg) < b1 then j66 b1 b2 σ else gi b3 6 <| lt (if (σ.1 50 0 b3.toNatClampNeg) ≤ b1 then (b2 ||| ((nI 1) <<< (b3 &&& 31))) else ((nI 1) <<< (b3 &&& 31))) fun (x7 : Int32) => gi b3 6 <| lt (σ.1 50 0 b3.toNatClampNeg) fun (x8 : Int32) => j66 x8 x7 σ)))
def fX8_rightOnes (σ : St) : Option (Int32 × St) :=
  (LX8_rightOnes_6 (fun (x9 : Int32) (σ10 : St) => some (x9, σ10)) FU (-1) 0 0 σ)
set_option maxRecDepth 20000 in
theorem vLX8_rightOnes_6 {Y : Cx} (C : Ok Y RX8 cX8_rightOnes 4 1) (M : OkM Y (some .int)) (ke : Int32 → St → Option (Int32 × St)) (hke : ∀ (b2 : Int32) (σ : St), V Y gI 72 [(2, .int b2)] [] σ (ke b2 σ)) : ∀ (n : Nat) (b1 : Int32) (b2 : Int32) (b3 : Int32) (σ : St), V Y gI 6 [(0, .ref (adr Y 8 0)), (1, .int b1), (2, .int b2), (3, .int b3)] [] σ (LX8_rightOnes_6 ke n b1 b2 b3 σ) := by
  intro n
  induction n with
  | zero => intros; exact v_none
  | succ n ih =>
    intro b1 b2 b3 σ
    rw [LX8_rightOnes_6]
    refine v_iload_n 3 C dX8_rightOnes_6 rfl ?_
    refine v_aload_n 0 C dX8_rightOnes_7 rfl ?_
    refine v_getc C dX8_rightOnes_8 lf_X8_17 ck_8 rfl ?_
    refine v_iconst C dX8_rightOnes_11 kc_iconst_3 ?_
    refine v_iaload C dX8_rightOnes_12 ck_44 (by decide) rfl ?_
    refine v_icmp_ge (tgt := 72) C dX8_rightOnes_13 (by decide) ?_ ?_
    · skip
      exact v_lv (hke b2 σ) [2] rfl
    · skip
      refine v_aload_n 0 C dX8_rightOnes_16 rfl ?_
      refine v_geti C dX8_rightOnes_17 lf_X8_218 ck_8 (by decide) ?_
      refine v_iload_n 3 C dX8_rightOnes_20 rfl ?_
      refine v_cS2p C dX8_rightOnes_21 ls_X8_221 (kX8_has (σ.1 8 0 23) b3 _) (by decide) (Nat.le_of_ble_eq_true rfl) ?_
      refine v_jn (fun j66 => ∀ (x2 : Int32) (x3 : Int32) (σ1 : St), V Y gI 66 [(0, .ref (adr Y 8 0)), (1, .int x2), (2, .int x3), (3, .int b3)] [] σ1 (j66 x2 x3 σ1)) ?_ ?_
      · intro x2 x3 σ1
        refine v_iinc (lv' := [(3, .int (b3 + nI 1)), (0, .ref (adr Y 8 0)), (1, .int x2), (2, .int x3)]) 3 C dX8_rightOnes_66 rfl (congrArg (b3 + ·) kc_iconst_1) (by decide) rfl ?_
        refine v_goto (tgt := 6) C dX8_rightOnes_69 (by decide) ?_
        exact v_lv (ih x2 x3 (b3 + nI 1) σ1) [1, 2, 3, 0] rfl
      · intro j66 hj66
        refine v_if_eq (tgt := 66) C dX8_rightOnes_24 (by decide) ?_ ?_
        · skip
          exact v_lv (hj66 b1 b2 σ) [0, 1, 2, 3] rfl
        · skip
          refine v_aload_n 0 C dX8_rightOnes_27 rfl ?_
          refine v_getc C dX8_rightOnes_28 lf_X8_36 ck_8 rfl ?_
          refine v_iload_n 3 C dX8_rightOnes_31 rfl ?_
          refine v_iaload C dX8_rightOnes_32 ck_50 (by decide) rfl ?_
          refine v_iload_n 1 C dX8_rightOnes_33 rfl ?_
          refine v_icmp_lt (tgt := 66) C dX8_rightOnes_34 (by decide) ?_ ?_
          · skip
            exact v_lv (hj66 b1 b2 σ) [0, 1, 2, 3] rfl
          · skip
            refine v_aload_n 0 C dX8_rightOnes_37 rfl ?_
            refine v_getc C dX8_rightOnes_38 lf_X8_36 ck_8 rfl ?_
            refine v_iload_n 3 C dX8_rightOnes_41 rfl ?_
            refine v_iaload C dX8_rightOnes_42 ck_50 (by decide) rfl ?_
            refine v_iload_n 1 C dX8_rightOnes_43 rfl ?_
            refine v_cut (pcJ := 58) (lv := [(0, .ref (adr Y 8 0)), (1, .int b1), (2, .int b2), (3, .int b3)]) (st := .int (if (σ.1 50 0 b3.toNatClampNeg) ≤ b1 then (b2 ||| ((nI 1) <<< (b3 &&& 31))) else ((nI 1) <<< (b3 &&& 31))) :: []) ?_ (fun hj4 => ?_)
            rotate_left
            · skip
              refine v_icmp_le_b (tgt := 53) C dX8_rightOnes_44 (by decide) (fun h5 => ?_) (fun h5 => ?_)
              · have hj6 := v_jpos h5 hj4
                refine v_iload_n 2 C dX8_rightOnes_53 rfl ?_
                refine v_iconst C dX8_rightOnes_54 kc_iconst_1 ?_
                refine v_iload_n 3 C dX8_rightOnes_55 rfl ?_
                refine v_ishl C dX8_rightOnes_56 ?_
                refine v_ior C dX8_rightOnes_57 ?_
                exact hj6
              · have hj6 := v_jneg h5 hj4
                refine v_iconst C dX8_rightOnes_47 kc_iconst_1 ?_
                refine v_iload_n 3 C dX8_rightOnes_48 rfl ?_
                refine v_ishl C dX8_rightOnes_49 ?_
                refine v_goto (tgt := 58) C dX8_rightOnes_50 (by decide) ?_
                exact hj6
            refine v_istore_nL (lv0 := [(0, .ref (adr Y 8 0)), (1, .int b1), (3, .int b3)]) C dX8_rightOnes_58 rfl (by decide) rfl (fun x7 => ?_)
            refine v_aload_n 1 C dX8_rightOnes_59 rfl ?_
            refine v_getc C dX8_rightOnes_60 lf_X8_36 ck_8 rfl ?_
            refine v_iload_n 3 C dX8_rightOnes_63 rfl ?_
            refine v_iaload C dX8_rightOnes_64 ck_50 (by decide) rfl ?_
            refine v_istore_nL (lv0 := [(2, .int x7), (0, .ref (adr Y 8 0)), (3, .int b3)]) C dX8_rightOnes_65 rfl (by decide) rfl (fun x8 => ?_)
            exact v_lv (hj66 x8 x7 σ) [2, 0, 1, 3] rfl
set_option maxRecDepth 20000 in
theorem kX8_rightOnes {X : Cx} (σ : St) : Kon X 1 yX8_rightOnes cX8_rightOnes 4 (some .int) gI [.ref (adr X 8 0)] σ (fX8_rightOnes σ) := by
  refine konJ (own := RX8) (fun _ => gI) (fun a b => [.ref (a 8 0)]) (by decide +kernel) rfl (fun _ _ => Nat.le_of_ble_eq_true rfl) (fun Y C M => ?_)
  show V Y gI 0 [(0, .ref (adr Y 8 0))] [] σ (fX8_rightOnes σ)
  unfold fX8_rightOnes
  refine v_iconst C dX8_rightOnes_0 kc_iconst_m1 ?_
  refine v_istore_n (lv' := [(1, .int (-1)), (0, .ref (adr Y 8 0))]) C dX8_rightOnes_1 rfl (by decide) rfl ?_
  refine v_iconst C dX8_rightOnes_2 kc_iconst_0 ?_
  refine v_istore_n (lv' := [(2, .int 0), (1, .int (-1)), (0, .ref (adr Y 8 0))]) C dX8_rightOnes_3 rfl (by decide) rfl ?_
  refine v_iconst C dX8_rightOnes_4 kc_iconst_0 ?_
  refine v_istore_n (lv' := [(3, .int 0), (2, .int 0), (1, .int (-1)), (0, .ref (adr Y 8 0))]) C dX8_rightOnes_5 rfl (by decide) rfl ?_
  refine v_lv (vLX8_rightOnes_6 C M _ (fun x9 σ10 => ?_) FU _ _ _ _) [3, 2, 1, 0] rfl
  refine v_iload_n 0 C dX8_rightOnes_72 rfl ?_
  exact v_iret C M dX8_rightOnes_73
-- OpenLinesModel winnersAt(I)I, depth 1
def LX8_winnersAt_4 (a1 : Int32) (ke : Int32 → St → Option (Int32 × St)) : Nat → Int32 → Int32 → St → Option (Int32 × St)
  | 0, _, _, _ => none
  | n + 1, b2, b3, σ => gi (nI 3) 59 <| (if (σ.1 44 0 (nI 3).toNatClampNeg) ≤ b3 then ke b2 σ else (jn (fun (x2 : Int32) (σ1 : St) => lt (b2 ||| x2) fun (x3 : Int32) => LX8_winnersAt_4 a1 ke n x3 (b3 + nI 1) σ1) fun j48 => jn (fun (σ4 : St) => j48 0 σ4) fun j47 => if (fX8_has (σ.1 8 0 23) b3) = 0 then j47 σ else gi (fX8_cell b3 a1) 2406 <| (if (σ.1 54 0 (fX8_cell b3 a1).toNatClampNeg) = (-2) then j48 ((nI 1) <<< (b3 &&& 31)) σ else j47 σ)))
def fX8_winnersAt (p1 : Int32) (σ : St) : Option (Int32 × St) :=
  (LX8_winnersAt_4 p1 (fun (x5 : Int32) (σ6 : St) => some (x5, σ6)) FU 0 0 σ)
set_option maxRecDepth 20000 in
theorem vLX8_winnersAt_4 {Y : Cx} (a1 : Int32) (C : Ok Y RX8 cX8_winnersAt 4 1) (M : OkM Y (some .int)) (ke : Int32 → St → Option (Int32 × St)) (hke : ∀ (b2 : Int32) (σ : St), V Y gI 56 [(2, .int b2)] [] σ (ke b2 σ)) : ∀ (n : Nat) (b2 : Int32) (b3 : Int32) (σ : St), V Y gI 4 [(0, .ref (adr Y 8 0)), (1, .int a1), (2, .int b2), (3, .int b3)] [] σ (LX8_winnersAt_4 a1 ke n b2 b3 σ) := by
  intro n
  induction n with
  | zero => intros; exact v_none
  | succ n ih =>
    intro b2 b3 σ
    rw [LX8_winnersAt_4]
    refine v_iload_n 3 C dX8_winnersAt_4 rfl ?_
    refine v_aload_n 0 C dX8_winnersAt_5 rfl ?_
    refine v_getc C dX8_winnersAt_6 lf_X8_17 ck_8 rfl ?_
    refine v_iconst C dX8_winnersAt_9 kc_iconst_3 ?_
    refine v_iaload C dX8_winnersAt_10 ck_44 (by decide) rfl ?_
    refine v_icmp_ge (tgt := 56) C dX8_winnersAt_11 (by decide) ?_ ?_
    · skip
      exact v_lv (hke b2 σ) [2] rfl
    · skip
      refine v_iload_n 2 C dX8_winnersAt_14 rfl ?_
      refine v_aload_n 0 C dX8_winnersAt_15 rfl ?_
      refine v_geti C dX8_winnersAt_16 lf_X8_218 ck_8 (by decide) ?_
      refine v_iload_n 3 C dX8_winnersAt_19 rfl ?_
      refine v_cS2p C dX8_winnersAt_20 ls_X8_221 (kX8_has (σ.1 8 0 23) b3 _) (by decide) (Nat.le_of_ble_eq_true rfl) ?_
      refine v_jn (fun j48 => ∀ (x2 : Int32) (σ1 : St), V Y gI 48 [(0, .ref (adr Y 8 0)), (1, .int a1), (3, .int b3)] [.int x2, .int b2] σ1 (j48 x2 σ1)) ?_ ?_
      · intro x2 σ1
        refine v_ior C dX8_winnersAt_48 ?_
        refine v_istore_nL (lv0 := [(0, .ref (adr Y 8 0)), (1, .int a1), (3, .int b3)]) C dX8_winnersAt_49 rfl (by decide) rfl (fun x3 => ?_)
        refine v_iinc (lv' := [(3, .int (b3 + nI 1)), (2, .int x3), (0, .ref (adr Y 8 0)), (1, .int a1)]) 3 C dX8_winnersAt_50 rfl (congrArg (b3 + ·) kc_iconst_1) (by decide) rfl ?_
        refine v_goto (tgt := 4) C dX8_winnersAt_53 (by decide) ?_
        exact v_lv (ih x3 (b3 + nI 1) σ1) [2, 3, 1, 0] rfl
      · intro j48 hj48
        refine v_jn (fun j47 => ∀ (σ4 : St), V Y gI 47 [(0, .ref (adr Y 8 0)), (1, .int a1), (3, .int b3)] [.int b2] σ4 (j47 σ4)) ?_ ?_
        · intro σ4
          refine v_iconst C dX8_winnersAt_47 kc_iconst_0 ?_
          exact v_lv (hj48 0 σ4) [0, 1, 2] rfl
        · intro j47 hj47
          refine v_if_eq (tgt := 47) C dX8_winnersAt_23 (by decide) ?_ ?_
          · skip
            exact v_lv (hj47 σ) [0, 1, 3] rfl
          · skip
            refine v_aload_n 0 C dX8_winnersAt_26 rfl ?_
            refine v_getc C dX8_winnersAt_27 lf_X8_48 ck_8 rfl ?_
            refine v_iload_n 3 C dX8_winnersAt_30 rfl ?_
            refine v_iload_n 1 C dX8_winnersAt_31 rfl ?_
            refine v_cS2p C dX8_winnersAt_32 ls_X8_224 (kX8_cell b3 a1 _) (by decide) (Nat.le_of_ble_eq_true rfl) ?_
            refine v_iaload C dX8_winnersAt_35 ck_54 (by decide) rfl ?_
            refine v_bipush C dX8_winnersAt_36 kc_bipush_m2 ?_
            refine v_icmp_ne (tgt := 47) C dX8_winnersAt_38 (by decide) ?_ ?_
            · skip
              exact v_lv (hj47 σ) [0, 1, 3] rfl
            · skip
              refine v_iconst C dX8_winnersAt_41 kc_iconst_1 ?_
              refine v_iload_n 3 C dX8_winnersAt_42 rfl ?_
              refine v_ishl C dX8_winnersAt_43 ?_
              refine v_goto (tgt := 48) C dX8_winnersAt_44 (by decide) ?_
              exact v_lv (hj48 ((nI 1) <<< (b3 &&& 31)) σ) [0, 1, 3] rfl
set_option maxRecDepth 20000 in
theorem kX8_winnersAt {X : Cx} (p1 : Int32) (σ : St) : Kon X 1 yX8_winnersAt cX8_winnersAt 4 (some .int) gI [.ref (adr X 8 0), .int p1] σ (fX8_winnersAt p1 σ) := by
  refine konJ (own := RX8) (fun _ => gI) (fun a b => [.ref (a 8 0), .int p1]) (by decide +kernel) rfl (fun _ _ => Nat.le_of_ble_eq_true rfl) (fun Y C M => ?_)
  show V Y gI 0 [(0, .ref (adr Y 8 0)), (1, .int p1)] [] σ (fX8_winnersAt p1 σ)
  unfold fX8_winnersAt
  refine v_iconst C dX8_winnersAt_0 kc_iconst_0 ?_
  refine v_istore_n (lv' := [(2, .int 0), (0, .ref (adr Y 8 0)), (1, .int p1)]) C dX8_winnersAt_1 rfl (by decide) rfl ?_
  refine v_iconst C dX8_winnersAt_2 kc_iconst_0 ?_
  refine v_istore_n (lv' := [(3, .int 0), (2, .int 0), (0, .ref (adr Y 8 0)), (1, .int p1)]) C dX8_winnersAt_3 rfl (by decide) rfl ?_
  refine v_lv (vLX8_winnersAt_4 _ C M _ (fun x5 σ6 => ?_) FU _ _ _) [2, 3, 1, 0] rfl
  refine v_iload_n 0 C dX8_winnersAt_56 rfl ?_
  exact v_iret C M dX8_winnersAt_57
-- OpenLinesModel sureAt()I, depth 2
def LX8_sureAt_9 (a1 : Int32) (ke : Int32 → St → Option (Int32 × St)) : Nat → Int32 → St → Option (Int32 × St)
  | 0, _, _ => none
  | n + 1, b2, σ => (if b2 ≤ 0 then ke b2 σ else bd (fX8_winnersAt (b2 - (nI 1)) σ) fun (r4 : Int32) (σ3 : St) => (if r4 = a1 then LX8_sureAt_9 a1 ke n (b2 + (-1)) σ3 else ke b2 σ3))
def fX8_sureAt (σ : St) : Option (Int32 × St) :=
  bd (fX8_rightOnes σ) fun (r2 : Int32) (σ1 : St) => (LX8_sureAt_9 r2 (fun (x5 : Int32) (σ6 : St) => some (if x5 = (nI 401) then (-2) else x5, σ6)) FU (nI 401) σ1)
set_option maxRecDepth 20000 in
theorem vLX8_sureAt_9 {Y : Cx} (a1 : Int32) (C : Ok Y RX8 cX8_sureAt 3 2) (M : OkM Y (some .int)) (ke : Int32 → St → Option (Int32 × St)) (hke : ∀ (b2 : Int32) (σ : St), V Y gI 30 [(2, .int b2)] [] σ (ke b2 σ)) : ∀ (n : Nat) (b2 : Int32) (σ : St), V Y gI 9 [(0, .ref (adr Y 8 0)), (1, .int a1), (2, .int b2)] [] σ (LX8_sureAt_9 a1 ke n b2 σ) := by
  intro n
  induction n with
  | zero => intros; exact v_none
  | succ n ih =>
    intro b2 σ
    rw [LX8_sureAt_9]
    refine v_iload_n 2 C dX8_sureAt_9 rfl ?_
    refine v_if_le (tgt := 30) C dX8_sureAt_10 (by decide) ?_ ?_
    · skip
      exact v_lv (hke b2 σ) [2] rfl
    · skip
      refine v_aload_n 0 C dX8_sureAt_13 rfl ?_
      refine v_iload_n 2 C dX8_sureAt_14 rfl ?_
      refine v_iconst C dX8_sureAt_15 kc_iconst_1 ?_
      refine v_isub C dX8_sureAt_16 ?_
      refine v_cV1i C dX8_sureAt_17 lv_X8_262 ck_8 (kX8_winnersAt (b2 - (nI 1)) _) (by decide) (Nat.le_of_ble_eq_true rfl) (fun r4 σ3 => ?_)
      refine v_iload_n 1 C dX8_sureAt_20 rfl ?_
      refine v_icmp_ne (tgt := 30) C dX8_sureAt_21 (by decide) ?_ ?_
      · skip
        exact v_lv (hke b2 σ3) [2] rfl
      · skip
        refine v_iinc (lv' := [(2, .int (b2 + (-1))), (0, .ref (adr Y 8 0)), (1, .int a1)]) 2 C dX8_sureAt_24 rfl (congrArg (b2 + ·) kc_iconst_m1) (by decide) rfl ?_
        refine v_goto (tgt := 9) C dX8_sureAt_27 (by decide) ?_
        exact v_lv (ih (b2 + (-1)) σ3) [1, 2, 0] rfl
set_option maxRecDepth 20000 in
theorem kX8_sureAt {X : Cx} (σ : St) : Kon X 2 yX8_sureAt cX8_sureAt 3 (some .int) gI [.ref (adr X 8 0)] σ (fX8_sureAt σ) := by
  refine konJ (own := RX8) (fun _ => gI) (fun a b => [.ref (a 8 0)]) (by decide +kernel) rfl (fun _ _ => Nat.le_of_ble_eq_true rfl) (fun Y C M => ?_)
  show V Y gI 0 [(0, .ref (adr Y 8 0))] [] σ (fX8_sureAt σ)
  unfold fX8_sureAt
  refine v_aload_n 0 C dX8_sureAt_0 rfl ?_
  refine v_cV0i C dX8_sureAt_1 lv_X8_259 ck_8 (kX8_rightOnes _) (by decide) (Nat.le_of_ble_eq_true rfl) (fun r2 σ1 => ?_)
  refine v_istore_n (lv' := [(1, .int r2), (0, .ref (adr Y 8 0))]) C dX8_sureAt_4 rfl (by decide) rfl ?_
  refine v_sipush C dX8_sureAt_5 kc_sipush_401 ?_
  refine v_istore_n (lv' := [(2, .int (nI 401)), (1, .int r2), (0, .ref (adr Y 8 0))]) C dX8_sureAt_8 rfl (by decide) rfl ?_
  refine v_lv (vLX8_sureAt_9 _ C M _ (fun x5 σ6 => ?_) FU _ _) [2, 1, 0] rfl
  refine v_iload_n 0 C dX8_sureAt_30 rfl ?_
  refine v_sipush C dX8_sureAt_31 kc_sipush_401 ?_
  refine v_cut (pcJ := 43) (lv := [(2, .int x5)]) (st := .int (if x5 = (nI 401) then (-2) else x5) :: []) ?_ (fun hj7 => ?_)
  rotate_left
  · skip
    refine v_icmp_ne_b (tgt := 42) C dX8_sureAt_34 (by decide) (fun h8 => ?_) (fun h8 => ?_)
    · have hj9 := v_jneg h8 hj7
      refine v_iload_n 0 C dX8_sureAt_42 rfl ?_
      exact hj9
    · have hj9 := v_jpos h8 hj7
      refine v_bipush C dX8_sureAt_37 kc_bipush_m2 ?_
      refine v_goto (tgt := 43) C dX8_sureAt_39 (by decide) ?_
      exact hj9
  exact v_iret C M dX8_sureAt_43
-- OpenLinesModel isSet(I)Z, depth 1
def fX8_isSet (p1 : Int32) (σ : St) : Option (Int32 × St) :=
  gi (nI 3) 59 <| rz (fX8_in p1 (nI 1) (((nI 1) <<< ((σ.1 44 0 (nI 3).toNatClampNeg) &&& 31)) - (nI 1))) σ
set_option maxRecDepth 20000 in
theorem kX8_isSet {X : Cx} (p1 : Int32) (σ : St) : Kon X 1 yX8_isSet cX8_isSet 2 (some .boolean) gI [.ref (adr X 8 0), .int p1] σ (fX8_isSet p1 σ) := by
  refine konJ (own := RX8) (fun _ => gI) (fun a b => [.ref (a 8 0), .int p1]) (by decide +kernel) rfl (fun _ _ => Nat.le_of_ble_eq_true rfl) (fun Y C M => ?_)
  show V Y gI 0 [(0, .ref (adr Y 8 0)), (1, .int p1)] [] σ (fX8_isSet p1 σ)
  unfold fX8_isSet
  refine v_iload_n 1 C dX8_isSet_0 rfl ?_
  refine v_iconst C dX8_isSet_1 kc_iconst_1 ?_
  refine v_iconst C dX8_isSet_2 kc_iconst_1 ?_
  refine v_aload_n 0 C dX8_isSet_3 rfl ?_
  refine v_getc C dX8_isSet_4 lf_X8_17 ck_8 rfl ?_
  refine v_iconst C dX8_isSet_7 kc_iconst_3 ?_
  refine v_iaload C dX8_isSet_8 ck_44 (by decide) rfl ?_
  refine v_ishl C dX8_isSet_9 ?_
  refine v_iconst C dX8_isSet_10 kc_iconst_1 ?_
  refine v_isub C dX8_isSet_11 ?_
  refine v_cS3p C dX8_isSet_12 ls_X8_83 (kX8_in p1 (nI 1) (((nI 1) <<< ((σ.1 44 0 (nI 3).toNatClampNeg) &&& 31)) - (nI 1)) _) (by decide) (Nat.le_of_ble_eq_true rfl) ?_
  exact v_zretg C M dX8_isSet_15
-- OpenLinesModel passWhy(ZIII)I, depth 2
def fX8_passWhy (p1 : Int32) (p2 : Int32) (p3 : Int32) (p4 : Int32) (σ : St) : Option (Int32 × St) :=
  (jn (fun (σ1 : St) => some (nI 1, σ1)) fun j11 => if (σ.1 8 0 9) = 0 then j11 σ else (if p1 = 0 then j11 σ else (if (fX8_in p2 (nI 1) (nI 2)) = 0 then some (nI 2, σ) else bd (fX8_isSet p3 σ) fun (r3 : Int32) (σ2 : St) => some (if r3 = 0 then (nI 2) else (if (fX8_in p4 0 (nI 400)) = 0 then (nI 2) else 0), σ2))))
set_option maxRecDepth 20000 in
theorem kX8_passWhy {X : Cx} (p1 : Int32) (p2 : Int32) (p3 : Int32) (p4 : Int32) (σ : St) : Kon X 2 yX8_passWhy cX8_passWhy 5 (some .int) gI [.ref (adr X 8 0), .int p1, .int p2, .int p3, .int p4] σ (fX8_passWhy p1 p2 p3 p4 σ) := by
  refine konJ (own := RX8) (fun _ => gI) (fun a b => [.ref (a 8 0), .int p1, .int p2, .int p3, .int p4]) (by decide +kernel) rfl (fun _ _ => Nat.le_of_ble_eq_true rfl) (fun Y C M => ?_)
  show V Y gI 0 [(0, .ref (adr Y 8 0)), (1, .int p1), (2, .int p2), (3, .int p3), (4, .int p4)] [] σ (fX8_passWhy p1 p2 p3 p4 σ)
  unfold fX8_passWhy
  refine v_aload_n 0 C dX8_passWhy_0 rfl ?_
  refine v_geti C dX8_passWhy_1 lf_X8_192 ck_8 (by decide) ?_
  refine v_jn (fun j11 => ∀ (σ1 : St), V Y gI 11 [] [] σ1 (j11 σ1)) ?_ ?_
  · intro σ1
    refine v_iconst C dX8_passWhy_11 kc_iconst_1 ?_
    refine v_goto (tgt := 49) C dX8_passWhy_12 (by decide) ?_
    exact v_iret C M dX8_passWhy_49
  · intro j11 hj11
    refine v_if_eq (tgt := 11) C dX8_passWhy_4 (by decide) ?_ ?_
    · skip
      exact v_lv (hj11 σ) [] rfl
    · skip
      refine v_iload_n 1 C dX8_passWhy_7 rfl ?_
      refine v_if_ne (tgt := 15) C dX8_passWhy_8 (by decide) ?_ ?_
      · skip
        refine v_iload_n 2 C dX8_passWhy_15 rfl ?_
        refine v_iconst C dX8_passWhy_16 kc_iconst_1 ?_
        refine v_iconst C dX8_passWhy_17 kc_iconst_2 ?_
        refine v_cS3p C dX8_passWhy_18 ls_X8_83 (kX8_in p2 (nI 1) (nI 2) _) (by decide) (Nat.le_of_ble_eq_true rfl) ?_
        refine v_if_eq (tgt := 48) C dX8_passWhy_21 (by decide) ?_ ?_
        · skip
          refine v_iconst C dX8_passWhy_48 kc_iconst_2 ?_
          exact v_iret C M dX8_passWhy_49
        · skip
          refine v_aload_n 0 C dX8_passWhy_24 rfl ?_
          refine v_iload_n 3 C dX8_passWhy_25 rfl ?_
          refine v_cV1i C dX8_passWhy_26 lv_X8_265 ck_8 (kX8_isSet p3 _) (by decide) (Nat.le_of_ble_eq_true rfl) (fun r3 σ2 => ?_)
          refine v_cut (pcJ := 49) (lv := [(0, .ref (adr Y 8 0)), (1, .int p1), (2, .int p2), (3, .int p3), (4, .int p4)]) (st := .int (if r3 = 0 then (nI 2) else (if (fX8_in p4 0 (nI 400)) = 0 then (nI 2) else 0)) :: []) ?_ (fun hj4 => ?_)
          rotate_left
          · skip
            refine v_if_eq_b (tgt := 48) C dX8_passWhy_29 (by decide) (fun h5 => ?_) (fun h5 => ?_)
            · have hj6 := v_jpos h5 hj4
              refine v_iconst C dX8_passWhy_48 kc_iconst_2 ?_
              exact hj6
            · have hj6 := v_jneg h5 hj4
              refine v_iload 4 C dX8_passWhy_32 rfl ?_
              refine v_iconst C dX8_passWhy_34 kc_iconst_0 ?_
              refine v_sipush C dX8_passWhy_35 kc_sipush_400 ?_
              refine v_cS3p C dX8_passWhy_38 ls_X8_83 (kX8_in p4 0 (nI 400) _) (by decide) (Nat.le_of_ble_eq_true rfl) ?_
              refine v_if_eq_b (tgt := 48) C dX8_passWhy_41 (by decide) (fun h7 => ?_) (fun h7 => ?_)
              · have hj8 := v_jpos h7 hj6
                refine v_iconst C dX8_passWhy_48 kc_iconst_2 ?_
                exact hj8
              · have hj8 := v_jneg h7 hj6
                refine v_iconst C dX8_passWhy_44 kc_iconst_0 ?_
                refine v_goto (tgt := 49) C dX8_passWhy_45 (by decide) ?_
                exact hj8
          exact v_iret C M dX8_passWhy_49
      · skip
        exact v_lv (hj11 σ) [] rfl
-- OpenLinesModel doesWait(II)Z, depth 1
def LX8_doesWait_2 (a2 : Int32) (ke : Int32 → St → Option (Int32 × St)) : Nat → Int32 → St → Option (Int32 × St)
  | 0, _, _ => none
  | n + 1, b3, σ => (if b3 = (-2) then ke b3 σ else (if b3 = a2 then ke b3 σ else gi (fX8_at b3 (nI 3)) 251 <| lt (σ.1 47 0 (fX8_at b3 (nI 3)).toNatClampNeg) fun (x1 : Int32) => LX8_doesWait_2 a2 ke n x1 σ))
def fX8_doesWait (p1 : Int32) (p2 : Int32) (σ : St) : Option (Int32 × St) :=
  (LX8_doesWait_2 p2 (fun (x2 : Int32) (σ3 : St) => rz (if x2 = p2 then (nI 1) else 0) σ3) FU p1 σ)
set_option maxRecDepth 20000 in
theorem vLX8_doesWait_2 {Y : Cx} (a2 : Int32) (C : Ok Y RX8 cX8_doesWait 4 1) (M : OkM Y (some .boolean)) (ke : Int32 → St → Option (Int32 × St)) (hke : ∀ (b3 : Int32) (σ : St), V Y gI 27 [(2, .int a2), (3, .int b3)] [] σ (ke b3 σ)) : ∀ (n : Nat) (b3 : Int32) (σ : St), V Y gI 2 [(0, .ref (adr Y 8 0)), (2, .int a2), (3, .int b3)] [] σ (LX8_doesWait_2 a2 ke n b3 σ) := by
  intro n
  induction n with
  | zero => intros; exact v_none
  | succ n ih =>
    intro b3 σ
    rw [LX8_doesWait_2]
    refine v_iload_n 2 C dX8_doesWait_2 rfl ?_
    refine v_bipush C dX8_doesWait_3 kc_bipush_m2 ?_
    refine v_icmp_eq (tgt := 27) C dX8_doesWait_5 (by decide) ?_ ?_
    · skip
      exact v_lv (hke b3 σ) [1, 2] rfl
    · skip
      refine v_iload_n 2 C dX8_doesWait_8 rfl ?_
      refine v_iload_n 1 C dX8_doesWait_9 rfl ?_
      refine v_icmp_eq (tgt := 27) C dX8_doesWait_10 (by decide) ?_ ?_
      · skip
        exact v_lv (hke b3 σ) [1, 2] rfl
      · skip
        refine v_aload_n 0 C dX8_doesWait_13 rfl ?_
        refine v_getc C dX8_doesWait_14 lf_X8_27 ck_8 rfl ?_
        refine v_iload_n 2 C dX8_doesWait_17 rfl ?_
        refine v_iconst C dX8_doesWait_18 kc_iconst_3 ?_
        refine v_cS2p C dX8_doesWait_19 ls_X8_201 (kX8_at b3 (nI 3) _) (by decide) (Nat.le_of_ble_eq_true rfl) ?_
        refine v_iaload C dX8_doesWait_22 ck_47 (by decide) rfl ?_
        refine v_istore_nL (lv0 := [(0, .ref (adr Y 8 0)), (2, .int a2)]) C dX8_doesWait_23 rfl (by decide) rfl (fun x1 => ?_)
        refine v_goto (tgt := 2) C dX8_doesWait_24 (by decide) ?_
        exact v_lv (ih x1 σ) [1, 2, 0] rfl
set_option maxRecDepth 20000 in
theorem kX8_doesWait {X : Cx} (p1 : Int32) (p2 : Int32) (σ : St) : Kon X 1 yX8_doesWait cX8_doesWait 4 (some .boolean) gI [.ref (adr X 8 0), .int p1, .int p2] σ (fX8_doesWait p1 p2 σ) := by
  refine konJ (own := RX8) (fun _ => gI) (fun a b => [.ref (a 8 0), .int p1, .int p2]) (by decide +kernel) rfl (fun _ _ => Nat.le_of_ble_eq_true rfl) (fun Y C M => ?_)
  show V Y gI 0 [(0, .ref (adr Y 8 0)), (1, .int p1), (2, .int p2)] [] σ (fX8_doesWait p1 p2 σ)
  unfold fX8_doesWait
  refine v_iload_n 1 C dX8_doesWait_0 rfl ?_
  refine v_istore_n (lv' := [(3, .int p1), (0, .ref (adr Y 8 0)), (1, .int p1), (2, .int p2)]) C dX8_doesWait_1 rfl (by decide) rfl ?_
  refine v_lv (vLX8_doesWait_2 _ C M _ (fun x2 σ3 => ?_) FU _ _) [1, 3, 0] rfl
  refine v_iload_n 1 C dX8_doesWait_27 rfl ?_
  refine v_iload_n 0 C dX8_doesWait_28 rfl ?_
  refine v_cut (pcJ := 37) (lv := [(2, .int p2), (3, .int x2)]) (st := .int (if x2 = p2 then (nI 1) else 0) :: []) ?_ (fun hj4 => ?_)
  rotate_left
  · skip
    refine v_icmp_ne_b (tgt := 36) C dX8_doesWait_29 (by decide) (fun h5 => ?_) (fun h5 => ?_)
    · have hj6 := v_jneg h5 hj4
      refine v_iconst C dX8_doesWait_36 kc_iconst_0 ?_
      exact hj6
    · have hj6 := v_jpos h5 hj4
      refine v_iconst C dX8_doesWait_32 kc_iconst_1 ?_
      refine v_goto (tgt := 37) C dX8_doesWait_33 (by decide) ?_
      exact hj6
  exact v_zretg C M dX8_doesWait_37
-- OpenLinesModel rankOf(I)I, depth 2
def LX8_rankOf_4 (a1 : Int32) (ke : Int32 → St → Option (Int32 × St)) : Nat → Int32 → Int32 → St → Option (Int32 × St)
  | 0, _, _, _ => none
  | n + 1, b2, b3, σ => gi (nI 3) 59 <| (if (σ.1 44 0 (nI 3).toNatClampNeg) ≤ b3 then ke b2 σ else bd (fX8_doesWait b3 a1 σ) fun (r2 : Int32) (σ1 : St) => (jn (fun (x4 : Int32) (σ3 : St) => LX8_rankOf_4 a1 ke n x4 (b3 + nI 1) σ3) fun j49 => jn (fun (σ5 : St) => j49 b2 σ5) fun j48 => if r2 = 0 then j48 σ1 else gi ((nI 17) + b3) 59 <| (if (σ1.1 44 0 ((nI 17) + b3).toNatClampNeg) ≤ b2 then j48 σ1 else gi ((nI 17) + b3) 59 <| j49 (σ1.1 44 0 ((nI 17) + b3).toNatClampNeg) σ1)))
def fX8_rankOf (p1 : Int32) (σ : St) : Option (Int32 × St) :=
  (LX8_rankOf_4 p1 (fun (x6 : Int32) (σ7 : St) => some (x6, σ7)) FU 0 0 σ)
set_option maxRecDepth 20000 in
theorem vLX8_rankOf_4 {Y : Cx} (a1 : Int32) (C : Ok Y RX8 cX8_rankOf 4 2) (M : OkM Y (some .int)) (ke : Int32 → St → Option (Int32 × St)) (hke : ∀ (b2 : Int32) (σ : St), V Y gI 56 [(2, .int b2)] [] σ (ke b2 σ)) : ∀ (n : Nat) (b2 : Int32) (b3 : Int32) (σ : St), V Y gI 4 [(0, .ref (adr Y 8 0)), (1, .int a1), (2, .int b2), (3, .int b3)] [] σ (LX8_rankOf_4 a1 ke n b2 b3 σ) := by
  intro n
  induction n with
  | zero => intros; exact v_none
  | succ n ih =>
    intro b2 b3 σ
    rw [LX8_rankOf_4]
    refine v_iload_n 3 C dX8_rankOf_4 rfl ?_
    refine v_aload_n 0 C dX8_rankOf_5 rfl ?_
    refine v_getc C dX8_rankOf_6 lf_X8_17 ck_8 rfl ?_
    refine v_iconst C dX8_rankOf_9 kc_iconst_3 ?_
    refine v_iaload C dX8_rankOf_10 ck_44 (by decide) rfl ?_
    refine v_icmp_ge (tgt := 56) C dX8_rankOf_11 (by decide) ?_ ?_
    · skip
      exact v_lv (hke b2 σ) [2] rfl
    · skip
      refine v_aload_n 0 C dX8_rankOf_14 rfl ?_
      refine v_iload_n 3 C dX8_rankOf_15 rfl ?_
      refine v_iload_n 1 C dX8_rankOf_16 rfl ?_
      refine v_cV2i C dX8_rankOf_17 lv_X8_205 ck_8 (kX8_doesWait b3 a1 _) (by decide) (Nat.le_of_ble_eq_true rfl) (fun r2 σ1 => ?_)
      refine v_jn (fun j49 => ∀ (x4 : Int32) (σ3 : St), V Y gI 49 [(0, .ref (adr Y 8 0)), (1, .int a1), (3, .int b3)] [.int x4] σ3 (j49 x4 σ3)) ?_ ?_
      · intro x4 σ3
        refine v_istore_n (lv' := [(2, .int x4), (0, .ref (adr Y 8 0)), (1, .int a1), (3, .int b3)]) C dX8_rankOf_49 rfl (by decide) rfl ?_
        refine v_iinc (lv' := [(3, .int (b3 + nI 1)), (2, .int x4), (0, .ref (adr Y 8 0)), (1, .int a1)]) 3 C dX8_rankOf_50 rfl (congrArg (b3 + ·) kc_iconst_1) (by decide) rfl ?_
        refine v_goto (tgt := 4) C dX8_rankOf_53 (by decide) ?_
        exact v_lv (ih x4 (b3 + nI 1) σ3) [2, 3, 1, 0] rfl
      · intro j49 hj49
        refine v_jn (fun j48 => ∀ (σ5 : St), V Y gI 48 [(0, .ref (adr Y 8 0)), (1, .int a1), (2, .int b2), (3, .int b3)] [] σ5 (j48 σ5)) ?_ ?_
        · intro σ5
          refine v_iload_n 2 C dX8_rankOf_48 rfl ?_
          exact v_lv (hj49 b2 σ5) [0, 1, 3] rfl
        · intro j48 hj48
          refine v_if_eq (tgt := 48) C dX8_rankOf_20 (by decide) ?_ ?_
          · skip
            exact v_lv (hj48 σ1) [0, 1, 2, 3] rfl
          · skip
            refine v_aload_n 0 C dX8_rankOf_23 rfl ?_
            refine v_getc C dX8_rankOf_24 lf_X8_17 ck_8 rfl ?_
            refine v_bipush C dX8_rankOf_27 kc_bipush_17 ?_
            refine v_iload_n 3 C dX8_rankOf_29 rfl ?_
            refine v_iadd C dX8_rankOf_30 ?_
            refine v_iaload C dX8_rankOf_31 ck_44 (by decide) rfl ?_
            refine v_iload_n 2 C dX8_rankOf_32 rfl ?_
            refine v_icmp_le (tgt := 48) C dX8_rankOf_33 (by decide) ?_ ?_
            · skip
              exact v_lv (hj48 σ1) [0, 1, 2, 3] rfl
            · skip
              refine v_aload_n 0 C dX8_rankOf_36 rfl ?_
              refine v_getc C dX8_rankOf_37 lf_X8_17 ck_8 rfl ?_
              refine v_bipush C dX8_rankOf_40 kc_bipush_17 ?_
              refine v_iload_n 3 C dX8_rankOf_42 rfl ?_
              refine v_iadd C dX8_rankOf_43 ?_
              refine v_iaload C dX8_rankOf_44 ck_44 (by decide) rfl ?_
              refine v_goto (tgt := 49) C dX8_rankOf_45 (by decide) ?_
              exact v_lv (hj49 (σ1.1 44 0 ((nI 17) + b3).toNatClampNeg) σ1) [0, 1, 3] rfl
set_option maxRecDepth 20000 in
theorem kX8_rankOf {X : Cx} (p1 : Int32) (σ : St) : Kon X 2 yX8_rankOf cX8_rankOf 4 (some .int) gI [.ref (adr X 8 0), .int p1] σ (fX8_rankOf p1 σ) := by
  refine konJ (own := RX8) (fun _ => gI) (fun a b => [.ref (a 8 0), .int p1]) (by decide +kernel) rfl (fun _ _ => Nat.le_of_ble_eq_true rfl) (fun Y C M => ?_)
  show V Y gI 0 [(0, .ref (adr Y 8 0)), (1, .int p1)] [] σ (fX8_rankOf p1 σ)
  unfold fX8_rankOf
  refine v_iconst C dX8_rankOf_0 kc_iconst_0 ?_
  refine v_istore_n (lv' := [(2, .int 0), (0, .ref (adr Y 8 0)), (1, .int p1)]) C dX8_rankOf_1 rfl (by decide) rfl ?_
  refine v_iconst C dX8_rankOf_2 kc_iconst_0 ?_
  refine v_istore_n (lv' := [(3, .int 0), (2, .int 0), (0, .ref (adr Y 8 0)), (1, .int p1)]) C dX8_rankOf_3 rfl (by decide) rfl ?_
  refine v_lv (vLX8_rankOf_4 _ C M _ (fun x6 σ7 => ?_) FU _ _ _) [2, 3, 1, 0] rfl
  refine v_iload_n 0 C dX8_rankOf_56 rfl ?_
  exact v_iret C M dX8_rankOf_57
end
