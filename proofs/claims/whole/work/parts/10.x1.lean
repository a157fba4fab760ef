noncomputable section
-- OpenLines$Plan sets()I, depth 0
def fX2_sets (k0 : Nat) (σ : St) : Option (Int32 × St) :=
  some ((nI 1) <<< ((σ.1 2 k0 3) &&& 31), σ)
set_option maxRecDepth 20000 in
theorem kX2_sets {X : Cx} (k0 : Nat) (hk0 : k0 < cnt 2) (σ : St) : Kon X 0 yX2_sets cX2_sets 1 (some .int) gI [.ref (adr X 2 k0)] σ (fX2_sets k0 σ) := by
  refine konJ (own := RX2) (fun _ => gI) (fun a b => [.ref (a 2 k0)]) (by decide +kernel) rfl (fun _ _ => Nat.le_of_ble_eq_true rfl) (fun Y C M => ?_)
  show V Y gI 0 [(0, .ref (adr Y 2 k0))] [] σ (fX2_sets k0 σ)
  unfold fX2_sets
  refine v_iconst C dX2_sets_0 kc_iconst_1 ?_
  refine v_aload_n 0 C dX2_sets_1 rfl ?_
  refine v_geti C dX2_sets_2 lf_X2_46 hk0 (by decide) ?_
  refine v_ishl C dX2_sets_5 ?_
  exact v_iret C M dX2_sets_6
-- OpenLines$Plan fact(I)I, depth 0
def fX2_fact (k0 : Nat) (p1 : Int32) (σ : St) : Option (Int32 × St) :=
  (if p1 = 0 then some (σ.1 2 k0 0, σ) else if p1 = nI 1 then some (σ.1 2 k0 1, σ) else if p1 = nI 2 then some (σ.1 2 k0 2, σ) else if p1 = nI 3 then some (σ.1 2 k0 3, σ) else some (σ.1 2 k0 4, σ))
set_option maxRecDepth 20000 in
theorem kX2_fact {X : Cx} (k0 : Nat) (p1 : Int32) (hk0 : k0 < cnt 2) (σ : St) : Kon X 0 yX2_fact cX2_fact 2 (some .int) gI [.ref (adr X 2 k0), .int p1] σ (fX2_fact k0 p1 σ) := by
  refine konJ (own := RX2) (fun _ => gI) (fun a b => [.ref (a 2 k0), .int p1]) (by decide +kernel) rfl (fun _ _ => Nat.le_of_ble_eq_true rfl) (fun Y C M => ?_)
  show V Y gI 0 [(0, .ref (adr Y 2 k0)), (1, .int p1)] [] σ (fX2_fact k0 p1 σ)
  unfold fX2_fact
  refine v_iload_n 1 C dX2_fact_0 rfl ?_
  refine v_swK (k := 0) (tgt := 32) C dX2_fact_1 (by decide) rfl (by decide) ?_ (fun h1 => ?_)
  · skip
    refine v_aload_n 0 C dX2_fact_32 rfl ?_
    refine v_geti C dX2_fact_33 lf_X2_36 hk0 (by decide) ?_
    exact v_iret C M dX2_fact_36
  refine v_swK (k := nI 1) (tgt := 37) C dX2_fact_1 (by decide) rfl (by decide) ?_ (fun h2 => ?_)
  · skip
    refine v_aload_n 0 C dX2_fact_37 rfl ?_
    refine v_geti C dX2_fact_38 lf_X2_40 hk0 (by decide) ?_
    exact v_iret C M dX2_fact_41
  refine v_swK (k := nI 2) (tgt := 42) C dX2_fact_1 (by decide) rfl (by decide) ?_ (fun h3 => ?_)
  · skip
    refine v_aload_n 0 C dX2_fact_42 rfl ?_
    refine v_geti C dX2_fact_43 lf_X2_43 hk0 (by decide) ?_
    exact v_iret C M dX2_fact_46
  refine v_swK (k := nI 3) (tgt := 47) C dX2_fact_1 (by decide) rfl (by decide) ?_ (fun h4 => ?_)
  · skip
    refine v_aload_n 0 C dX2_fact_47 rfl ?_
    refine v_geti C dX2_fact_48 lf_X2_46 hk0 (by decide) ?_
    exact v_iret C M dX2_fact_51
  refine v_swOut (tgt := 52) C dX2_fact_1 (by have qh1 := lv_neT (a := 0) h1 (by decide); have qh2 := lv_neT (a := 1) h2 (by decide); have qh3 := lv_neT (a := 2) h3 (by decide); have qh4 := lv_neT (a := 3) h4 (by decide); omega) (by decide) ?_
  refine v_aload_n 0 C dX2_fact_52 rfl ?_
  refine v_geti C dX2_fact_53 lf_X2_49 hk0 (by decide) ?_
  exact v_iret C M dX2_fact_56
-- OpenLines$Tape byteAt(I)I, depth 0
def fX6_byteAt (p1 : Int32) (σ : St) : Option (Int32 × St) :=
  (if p1 < 0 then some (nI 32, σ) else (if (σ.1 6 0 1) ≤ p1 then some (nI 32, σ) else gi p1 700 <| some ((σ.1 42 0 p1.toNatClampNeg) &&& (nI 255), σ)))
set_option maxRecDepth 20000 in
theorem kX6_byteAt {X : Cx} (p1 : Int32) (σ : St) : Kon X 0 yX6_byteAt cX6_byteAt 2 (some .int) gI [.ref (adr X 6 0), .int p1] σ (fX6_byteAt p1 σ) := by
  refine konJ (own := RX6) (fun _ => gI) (fun a b => [.ref (a 6 0), .int p1]) (by decide +kernel) rfl (fun _ _ => Nat.le_of_ble_eq_true rfl) (fun Y C M => ?_)
  show V Y gI 0 [(0, .ref (adr Y 6 0)), (1, .int p1)] [] σ (fX6_byteAt p1 σ)
  unfold fX6_byteAt
  refine v_iload_n 1 C dX6_byteAt_0 rfl ?_
  refine v_if_lt (tgt := 25) C dX6_byteAt_1 (by decide) ?_ ?_
  · skip
    refine v_bipush C dX6_byteAt_25 kc_bipush_32 ?_
    exact v_iret C M dX6_byteAt_27
  · skip
    refine v_iload_n 1 C dX6_byteAt_4 rfl ?_
    refine v_aload_n 0 C dX6_byteAt_5 rfl ?_
    refine v_geti C dX6_byteAt_6 lf_X6_15 ck_6 (by decide) ?_
    refine v_icmp_ge (tgt := 25) C dX6_byteAt_9 (by decide) ?_ ?_
    · skip
      refine v_bipush C dX6_byteAt_25 kc_bipush_32 ?_
      exact v_iret C M dX6_byteAt_27
    · skip
      refine v_aload_n 0 C dX6_byteAt_12 rfl ?_
      refine v_getc C dX6_byteAt_13 lf_X6_9 ck_6 rfl ?_
      refine v_iload_n 1 C dX6_byteAt_16 rfl ?_
      refine v_baload C dX6_byteAt_17 ck_42 (by decide) rfl ?_
      refine v_sipush C dX6_byteAt_18 kc_sipush_255 ?_
      refine v_iand C dX6_byteAt_21 ?_
      refine v_goto (tgt := 27) C dX6_byteAt_22 (by decide) ?_
      exact v_iret C M dX6_byteAt_27
-- OpenLines$Reader stepOverWord()V, depth 1
def LX3_stepOverWord_0 (ke : St → Option (Unit × St)) : Nat → St → Option (Unit × St)
  | 0, _ => none
  | n + 1, σ => (if (σ.1 3 0 4) ≤ (σ.1 3 0 5) then ke σ else bd (fX6_byteAt (σ.1 3 0 5) σ) fun (r2 : Int32) (σ1 : St) => (if (fX3_isLetter r2) = 0 then ke σ1 else bd (fX6_byteAt (σ1.1 3 0 5) σ1) fun (r4 : Int32) (σ3 : St) => lt (wI σ3 3 0 8 (((σ1.1 3 0 8) * (nI 27)) + (fX3_letter r4))) fun (σ5 : St) => lt (wI σ5 3 0 5 ((σ5.1 3 0 5) + (nI 1))) fun (σ6 : St) => LX3_stepOverWord_0 ke n σ6))
def fX3_stepOverWord (σ : St) : Option (Unit × St) :=
  (LX3_stepOverWord_0 (fun (σ7 : St) => lt (wI σ7 3 0 6 (if (nI 6) < ((σ7.1 3 0 5) - (σ7.1 3 0 7)) then (nI 4) else (nI 1))) fun (σ11 : St) => some ((), σ11)) FU σ)
set_option maxRecDepth 20000 in
theorem vLX3_stepOverWord_0 {Y : Cx} (C : Ok Y RX3 cX3_stepOverWord 1 1) (M : OkM Y none) (ke : St → Option (Unit × St)) (hke : ∀ (σ : St), V Y gV 67 [(0, .ref (adr Y 3 0))] [] σ (ke σ)) : ∀ (n : Nat) (σ : St), V Y gV 0 [(0, .ref (adr Y 3 0))] [] σ (LX3_stepOverWord_0 ke n σ) := by
  intro n
  induction n with
  | zero => intros; exact v_none
  | succ n ih =>
    intro σ
    rw [LX3_stepOverWord_0]
    refine v_aload_n 0 C dX3_stepOverWord_0 rfl ?_
    refine v_geti C dX3_stepOverWord_1 lf_X3_32 ck_3 (by decide) ?_
    refine v_aload_n 0 C dX3_stepOverWord_4 rfl ?_
    refine v_geti C dX3_stepOverWord_5 lf_X3_28 ck_3 (by decide) ?_
    refine v_icmp_ge (tgt := 67) C dX3_stepOverWord_8 (by decide) ?_ ?_
    · skip
      exact v_lv (hke σ) [0] rfl
    · skip
      refine v_aload_n 0 C dX3_stepOverWord_11 rfl ?_
      refine v_getk C dX3_stepOverWord_12 lf_X3_18 ck_3 rfl ?_
      refine v_aload_n 0 C dX3_stepOverWord_15 rfl ?_
      refine v_geti C dX3_stepOverWord_16 lf_X3_32 ck_3 (by decide) ?_
      refine v_cV1i C dX3_stepOverWord_19 lv_X3_150 ck_6 (kX6_byteAt (σ.1 3 0 5) _) (by decide) (Nat.le_of_ble_eq_true rfl) (fun r2 σ1 => ?_)
      refine v_cS1p C dX3_stepOverWord_22 ls_X3_155 (kX3_isLetter r2 _) (by decide) (Nat.le_of_ble_eq_true rfl) ?_
      refine v_if_eq (tgt := 67) C dX3_stepOverWord_25 (by decide) ?_ ?_
      · skip
        exact v_lv (hke σ1) [0] rfl
      · skip
        refine v_aload_n 0 C dX3_stepOverWord_28 rfl ?_
        refine v_aload_n 0 C dX3_stepOverWord_29 rfl ?_
        refine v_geti C dX3_stepOverWord_30 lf_X3_99 ck_3 (by decide) ?_
        refine v_bipush C dX3_stepOverWord_33 kc_bipush_27 ?_
        refine v_imul C dX3_stepOverWord_35 ?_
        refine v_aload_n 0 C dX3_stepOverWord_36 rfl ?_
        refine v_getk C dX3_stepOverWord_37 lf_X3_18 ck_3 rfl ?_
        refine v_aload_n 0 C dX3_stepOverWord_40 rfl ?_
        refine v_geti C dX3_stepOverWord_41 lf_X3_32 ck_3 (by decide) ?_
        refine v_cV1i C dX3_stepOverWord_44 lv_X3_150 ck_6 (kX6_byteAt (σ1.1 3 0 5) _) (by decide) (Nat.le_of_ble_eq_true rfl) (fun r4 σ3 => ?_)
        refine v_cS1p C dX3_stepOverWord_47 ls_X3_167 (kX3_letter r4 _) (by decide) (Nat.le_of_ble_eq_true rfl) ?_
        refine v_iadd C dX3_stepOverWord_50 ?_
        refine v_putiL C dX3_stepOverWord_51 lp_X3_99 ck_3 (by decide) (fun σ5 => ?_)
        refine v_aload_n 0 C dX3_stepOverWord_54 rfl ?_
        refine v_dup C dX3_stepOverWord_55 rfl ?_
        refine v_geti C dX3_stepOverWord_56 lf_X3_32 ck_3 (by decide) ?_
        refine v_iconst C dX3_stepOverWord_59 kc_iconst_1 ?_
        refine v_iadd C dX3_stepOverWord_60 ?_
        refine v_putiL C dX3_stepOverWord_61 lp_X3_32 ck_3 (by decide) (fun σ6 => ?_)
        refine v_goto (tgt := 0) C dX3_stepOverWord_64 (by decide) ?_
        exact v_lv (ih σ6) [0] rfl
set_option maxRecDepth 20000 in
theorem kX3_stepOverWord {X : Cx} (σ : St) : Kon X 1 yX3_stepOverWord cX3_stepOverWord 1 none gV [.ref (adr X 3 0)] σ (fX3_stepOverWord σ) := by
  refine konJ (own := RX3) (fun _ => gV) (fun a b => [.ref (a 3 0)]) (by decide +kernel) rfl (fun _ _ => Nat.le_of_ble_eq_true rfl) (fun Y C M => ?_)
  show V Y gV 0 [(0, .ref (adr Y 3 0))] [] σ (fX3_stepOverWord σ)
  unfold fX3_stepOverWord
  refine v_lv (vLX3_stepOverWord_0 C M _ (fun σ7 => ?_) FU _) [0] rfl
  refine v_aload_n 0 C dX3_stepOverWord_67 rfl ?_
  refine v_aload_n 0 C dX3_stepOverWord_68 rfl ?_
  refine v_geti C dX3_stepOverWord_69 lf_X3_32 ck_3 (by decide) ?_
  refine v_aload_n 0 C dX3_stepOverWord_72 rfl ?_
  refine v_geti C dX3_stepOverWord_73 lf_X3_147 ck_3 (by decide) ?_
  refine v_isub C dX3_stepOverWord_76 ?_
  refine v_bipush C dX3_stepOverWord_77 kc_bipush_6 ?_
  refine v_cut (pcJ := 87) (lv := [(0, .ref (adr Y 3 0))]) (st := .int (if (nI 6) < ((σ7.1 3 0 5) - (σ7.1 3 0 7)) then (nI 4) else (nI 1)) :: [.ref (adr Y 3 0)]) ?_ (fun hj8 => ?_)
  rotate_left
  · skip
    refine v_icmp_gt_b (tgt := 86) C dX3_stepOverWord_79 (by decide) (fun h9 => ?_) (fun h9 => ?_)
    · have hj10 := v_jpos h9 hj8
      refine v_iconst C dX3_stepOverWord_86 kc_iconst_4 ?_
      exact hj10
    · have hj10 := v_jneg h9 hj8
      refine v_iconst C dX3_stepOverWord_82 kc_iconst_1 ?_
      refine v_goto (tgt := 87) C dX3_stepOverWord_83 (by decide) ?_
      exact hj10
  refine v_putiL C dX3_stepOverWord_87 lp_X3_54 ck_3 (by decide) (fun σ11 => ?_)
  exact v_vret C M dX3_stepOverWord_90
-- OpenLines$Reader stepOverWhole()V, depth 1
def LX3_stepOverWhole_0 (ke : St → Option (Unit × St)) : Nat → St → Option (Unit × St)
  | 0, _ => none
  | n + 1, σ => (if (σ.1 3 0 4) ≤ (σ.1 3 0 5) then ke σ else bd (fX6_byteAt (σ.1 3 0 5) σ) fun (r2 : Int32) (σ1 : St) => (if (fX3_isDigit r2) = 0 then ke σ1 else bd (fX6_byteAt (σ1.1 3 0 5) σ1) fun (r4 : Int32) (σ3 : St) => lt (wI σ3 3 0 8 ((((σ1.1 3 0 8) * (nI 10)) + r4) - (nI 48))) fun (σ5 : St) => lt (wI σ5 3 0 5 ((σ5.1 3 0 5) + (nI 1))) fun (σ6 : St) => LX3_stepOverWhole_0 ke n σ6))
def fX3_stepOverWhole (σ : St) : Option (Unit × St) :=
  (LX3_stepOverWhole_0 (fun (σ7 : St) => lt (wI σ7 3 0 6 (if (nI 3) < ((σ7.1 3 0 5) - (σ7.1 3 0 7)) then (nI 4) else (nI 2))) fun (σ11 : St) => some ((), σ11)) FU σ)
set_option maxRecDepth 20000 in
theorem vLX3_stepOverWhole_0 {Y : Cx} (C : Ok Y RX3 cX3_stepOverWhole 1 1) (M : OkM Y none) (ke : St → Option (Unit × St)) (hke : ∀ (σ : St), V Y gV 67 [(0, .ref (adr Y 3 0))] [] σ (ke σ)) : ∀ (n : Nat) (σ : St), V Y gV 0 [(0, .ref (adr Y 3 0))] [] σ (LX3_stepOverWhole_0 ke n σ) := by
  intro n
  induction n with
  | zero => intros; exact v_none
  | succ n ih =>
    intro σ
    rw [LX3_stepOverWhole_0]
    refine v_aload_n 0 C dX3_stepOverWhole_0 rfl ?_
    refine v_geti C dX3_stepOverWhole_1 lf_X3_32 ck_3 (by decide) ?_
    refine v_aload_n 0 C dX3_stepOverWhole_4 rfl ?_
    refine v_geti C dX3_stepOverWhole_5 lf_X3_28 ck_3 (by decide) ?_
    refine v_icmp_ge (tgt := 67) C dX3_stepOverWhole_8 (by decide) ?_ ?_
    · skip
      exact v_lv (hke σ) [0] rfl
    · skip
      refine v_aload_n 0 C dX3_stepOverWhole_11 rfl ?_
      refine v_getk C dX3_stepOverWhole_12 lf_X3_18 ck_3 rfl ?_
      refine v_aload_n 0 C dX3_stepOverWhole_15 rfl ?_
      refine v_geti C dX3_stepOverWhole_16 lf_X3_32 ck_3 (by decide) ?_
      refine v_cV1i C dX3_stepOverWhole_19 lv_X3_150 ck_6 (kX6_byteAt (σ.1 3 0 5) _) (by decide) (Nat.le_of_ble_eq_true rfl) (fun r2 σ1 => ?_)
      refine v_cS1p C dX3_stepOverWhole_22 ls_X3_161 (kX3_isDigit r2 _) (by decide) (Nat.le_of_ble_eq_true rfl) ?_
      refine v_if_eq (tgt := 67) C dX3_stepOverWhole_25 (by decide) ?_ ?_
      · skip
        exact v_lv (hke σ1) [0] rfl
      · skip
        refine v_aload_n 0 C dX3_stepOverWhole_28 rfl ?_
        refine v_aload_n 0 C dX3_stepOverWhole_29 rfl ?_
        refine v_geti C dX3_stepOverWhole_30 lf_X3_99 ck_3 (by decide) ?_
        refine v_bipush C dX3_stepOverWhole_33 kc_bipush_10 ?_
        refine v_imul C dX3_stepOverWhole_35 ?_
        refine v_aload_n 0 C dX3_stepOverWhole_36 rfl ?_
        refine v_getk C dX3_stepOverWhole_37 lf_X3_18 ck_3 rfl ?_
        refine v_aload_n 0 C dX3_stepOverWhole_40 rfl ?_
        refine v_geti C dX3_stepOverWhole_41 lf_X3_32 ck_3 (by decide) ?_
        refine v_cV1i C dX3_stepOverWhole_44 lv_X3_150 ck_6 (kX6_byteAt (σ1.1 3 0 5) _) (by decide) (Nat.le_of_ble_eq_true rfl) (fun r4 σ3 => ?_)
        refine v_iadd C dX3_stepOverWhole_47 ?_
        refine v_bipush C dX3_stepOverWhole_48 kc_bipush_48 ?_
        refine v_isub C dX3_stepOverWhole_50 ?_
        refine v_putiL C dX3_stepOverWhole_51 lp_X3_99 ck_3 (by decide) (fun σ5 => ?_)
        refine v_aload_n 0 C dX3_stepOverWhole_54 rfl ?_
        refine v_dup C dX3_stepOverWhole_55 rfl ?_
        refine v_geti C dX3_stepOverWhole_56 lf_X3_32 ck_3 (by decide) ?_
        refine v_iconst C dX3_stepOverWhole_59 kc_iconst_1 ?_
        refine v_iadd C dX3_stepOverWhole_60 ?_
        refine v_putiL C dX3_stepOverWhole_61 lp_X3_32 ck_3 (by decide) (fun σ6 => ?_)
        refine v_goto (tgt := 0) C dX3_stepOverWhole_64 (by decide) ?_
        exact v_lv (ih σ6) [0] rfl
set_option maxRecDepth 20000 in
theorem kX3_stepOverWhole {X : Cx} (σ : St) : Kon X 1 yX3_stepOverWhole cX3_stepOverWhole 1 none gV [.ref (adr X 3 0)] σ (fX3_stepOverWhole σ) := by
  refine konJ (own := RX3) (fun _ => gV) (fun a b => [.ref (a 3 0)]) (by decide +kernel) rfl (fun _ _ => Nat.le_of_ble_eq_true rfl) (fun Y C M => ?_)
  show V Y gV 0 [(0, .ref (adr Y 3 0))] [] σ (fX3_stepOverWhole σ)
  unfold fX3_stepOverWhole
  refine v_lv (vLX3_stepOverWhole_0 C M _ (fun σ7 => ?_) FU _) [0] rfl
  refine v_aload_n 0 C dX3_stepOverWhole_67 rfl ?_
  refine v_aload_n 0 C dX3_stepOverWhole_68 rfl ?_
  refine v_geti C dX3_stepOverWhole_69 lf_X3_32 ck_3 (by decide) ?_
  refine v_aload_n 0 C dX3_stepOverWhole_72 rfl ?_
  refine v_geti C dX3_stepOverWhole_73 lf_X3_147 ck_3 (by decide) ?_
  refine v_isub C dX3_stepOverWhole_76 ?_
  refine v_iconst C dX3_stepOverWhole_77 kc_iconst_3 ?_
  refine v_cut (pcJ := 86) (lv := [(0, .ref (adr Y 3 0))]) (st := .int (if (nI 3) < ((σ7.1 3 0 5) - (σ7.1 3 0 7)) then (nI 4) else (nI 2)) :: [.ref (adr Y 3 0)]) ?_ (fun hj8 => ?_)
  rotate_left
  · skip
    refine v_icmp_gt_b (tgt := 85) C dX3_stepOverWhole_78 (by decide) (fun h9 => ?_) (fun h9 => ?_)
    · have hj10 := v_jpos h9 hj8
      refine v_iconst C dX3_stepOverWhole_85 kc_iconst_4 ?_
      exact hj10
    · have hj10 := v_jneg h9 hj8
      refine v_iconst C dX3_stepOverWhole_81 kc_iconst_2 ?_
      refine v_goto (tgt := 86) C dX3_stepOverWhole_82 (by decide) ?_
      exact hj10
  refine v_putiL C dX3_stepOverWhole_86 lp_X3_54 ck_3 (by decide) (fun σ11 => ?_)
  exact v_vret C M dX3_stepOverWhole_89
-- OpenLines$Reader step()V, depth 2
def LX3_step_0 (ke : St → Option (Unit × St)) : Nat → St → Option (Unit × St)
  | 0, _ => none
  | n + 1, σ => (if (σ.1 3 0 4) ≤ (σ.1 3 0 5) then ke σ else bd (fX6_byteAt (σ.1 3 0 5) σ) fun (r2 : Int32) (σ1 : St) => (if r2 = (nI 32) then lt (wI σ1 3 0 5 ((σ1.1 3 0 5) + (nI 1))) fun (σ3 : St) => LX3_step_0 ke n σ3 else ke σ1))
def fX3_step (σ : St) : Option (Unit × St) :=
  (LX3_step_0 (fun (σ4 : St) => lt (wI σ4 3 0 7 (σ4.1 3 0 5)) fun (σ5 : St) => lt (wI σ5 3 0 8 0) fun (σ6 : St) => (if (σ6.1 3 0 5) < (σ6.1 3 0 4) then bd (fX6_byteAt (σ6.1 3 0 5) σ6) fun (r8 : Int32) (σ7 : St) => (if (fX3_isLetter r8) = 0 then bd (fX6_byteAt (σ7.1 3 0 5) σ7) fun (r10 : Int32) (σ9 : St) => (if (fX3_isDigit r10) = 0 then bd (fX6_byteAt (σ9.1 3 0 5) σ9) fun (r12 : Int32) (σ11 : St) => lt (wI σ11 3 0 6 (if r12 = (nI 59) then (nI 3) else (nI 4))) fun (σ16 : St) => lt (wI σ16 3 0 5 ((σ16.1 3 0 5) + (nI 1))) fun (σ17 : St) => some ((), σ17) else bd (fX3_stepOverWhole σ9) fun _ (σ18 : St) => some ((), σ18)) else bd (fX3_stepOverWord σ7) fun _ (σ19 : St) => some ((), σ19)) else lt (wI σ6 3 0 6 0) fun (σ20 : St) => some ((), σ20))) FU σ)
set_option maxRecDepth 20000 in
theorem vLX3_step_0 {Y : Cx} (C : Ok Y RX3 cX3_step 1 2) (M : OkM Y none) (ke : St → Option (Unit × St)) (hke : ∀ (σ : St), V Y gV 40 [(0, .ref (adr Y 3 0))] [] σ (ke σ)) : ∀ (n : Nat) (σ : St), V Y gV 0 [(0, .ref (adr Y 3 0))] [] σ (LX3_step_0 ke n σ) := by
  intro n
  induction n with
  | zero => intros; exact v_none
  | succ n ih =>
    intro σ
    rw [LX3_step_0]
    refine v_aload_n 0 C dX3_step_0 rfl ?_
    refine v_geti C dX3_step_1 lf_X3_32 ck_3 (by decide) ?_
    refine v_aload_n 0 C dX3_step_4 rfl ?_
    refine v_geti C dX3_step_5 lf_X3_28 ck_3 (by decide) ?_
    refine v_icmp_ge (tgt := 40) C dX3_step_8 (by decide) ?_ ?_
    · skip
      exact v_lv (hke σ) [0] rfl
    · skip
      refine v_aload_n 0 C dX3_step_11 rfl ?_
      refine v_getk C dX3_step_12 lf_X3_18 ck_3 rfl ?_
      refine v_aload_n 0 C dX3_step_15 rfl ?_
      refine v_geti C dX3_step_16 lf_X3_32 ck_3 (by decide) ?_
      refine v_cV1i C dX3_step_19 lv_X3_150 ck_6 (kX6_byteAt (σ.1 3 0 5) _) (by decide) (Nat.le_of_ble_eq_true rfl) (fun r2 σ1 => ?_)
      refine v_bipush C dX3_step_22 kc_bipush_32 ?_
      refine v_icmp_ne (tgt := 40) C dX3_step_24 (by decide) ?_ ?_
      · skip
        exact v_lv (hke σ1) [0] rfl
      · skip
        refine v_aload_n 0 C dX3_step_27 rfl ?_
        refine v_dup C dX3_step_28 rfl ?_
        refine v_geti C dX3_step_29 lf_X3_32 ck_3 (by decide) ?_
        refine v_iconst C dX3_step_32 kc_iconst_1 ?_
        refine v_iadd C dX3_step_33 ?_
        refine v_putiL C dX3_step_34 lp_X3_32 ck_3 (by decide) (fun σ3 => ?_)
        refine v_goto (tgt := 0) C dX3_step_37 (by decide) ?_
        exact v_lv (ih σ3) [0] rfl
set_option maxRecDepth 20000 in
theorem kX3_step {X : Cx} (σ : St) : Kon X 2 yX3_step cX3_step 1 none gV [.ref (adr X 3 0)] σ (fX3_step σ) := by
  refine konJ (own := RX3) (fun _ => gV) (fun a b => [.ref (a 3 0)]) (by decide +kernel) rfl (fun _ _ => Nat.le_of_ble_eq_true rfl) (fun Y C M => ?_)
  show V Y gV 0 [(0, .ref (adr Y 3 0))] [] σ (fX3_step σ)
  unfold fX3_step
  refine v_lv (vLX3_step_0 C M _ (fun σ4 => ?_) FU _) [0] rfl
  refine v_aload_n 0 C dX3_step_40 rfl ?_
  refine v_aload_n 0 C dX3_step_41 rfl ?_
  refine v_geti C dX3_step_42 lf_X3_32 ck_3 (by decide) ?_
  refine v_putiL C dX3_step_45 lp_X3_147 ck_3 (by decide) (fun σ5 => ?_)
  refine v_aload_n 0 C dX3_step_48 rfl ?_
  refine v_iconst C dX3_step_49 kc_iconst_0 ?_
  refine v_putiL C dX3_step_50 lp_X3_99 ck_3 (by decide) (fun σ6 => ?_)
  refine v_aload_n 0 C dX3_step_53 rfl ?_
  refine v_geti C dX3_step_54 lf_X3_32 ck_3 (by decide) ?_
  refine v_aload_n 0 C dX3_step_57 rfl ?_
  refine v_geti C dX3_step_58 lf_X3_28 ck_3 (by decide) ?_
  refine v_icmp_lt (tgt := 72) C dX3_step_61 (by decide) ?_ ?_
  · skip
    refine v_aload_n 0 C dX3_step_72 rfl ?_
    refine v_getk C dX3_step_73 lf_X3_18 ck_3 rfl ?_
    refine v_aload_n 0 C dX3_step_76 rfl ?_
    refine v_geti C dX3_step_77 lf_X3_32 ck_3 (by decide) ?_
    refine v_cV1i C dX3_step_80 lv_X3_150 ck_6 (kX6_byteAt (σ6.1 3 0 5) _) (by decide) (Nat.le_of_ble_eq_true rfl) (fun r8 σ7 => ?_)
    refine v_cS1p C dX3_step_83 ls_X3_155 (kX3_isLetter r8 _) (by decide) (Nat.le_of_ble_eq_true rfl) ?_
    refine v_if_eq (tgt := 96) C dX3_step_86 (by decide) ?_ ?_
    · skip
      refine v_aload_n 0 C dX3_step_96 rfl ?_
      refine v_getk C dX3_step_97 lf_X3_18 ck_3 rfl ?_
      refine v_aload_n 0 C dX3_step_100 rfl ?_
      refine v_geti C dX3_step_101 lf_X3_32 ck_3 (by decide) ?_
      refine v_cV1i C dX3_step_104 lv_X3_150 ck_6 (kX6_byteAt (σ7.1 3 0 5) _) (by decide) (Nat.le_of_ble_eq_true rfl) (fun r10 σ9 => ?_)
      refine v_cS1p C dX3_step_107 ls_X3_161 (kX3_isDigit r10 _) (by decide) (Nat.le_of_ble_eq_true rfl) ?_
      refine v_if_eq (tgt := 120) C dX3_step_110 (by decide) ?_ ?_
      · skip
        refine v_aload_n 0 C dX3_step_120 rfl ?_
        refine v_aload_n 0 C dX3_step_121 rfl ?_
        refine v_getk C dX3_step_122 lf_X3_18 ck_3 rfl ?_
        refine v_aload_n 0 C dX3_step_125 rfl ?_
        refine v_geti C dX3_step_126 lf_X3_32 ck_3 (by decide) ?_
        refine v_cV1i C dX3_step_129 lv_X3_150 ck_6 (kX6_byteAt (σ9.1 3 0 5) _) (by decide) (Nat.le_of_ble_eq_true rfl) (fun r12 σ11 => ?_)
        refine v_bipush C dX3_step_132 kc_bipush_59 ?_
        refine v_cut (pcJ := 142) (lv := [(0, .ref (adr Y 3 0))]) (st := .int (if r12 = (nI 59) then (nI 3) else (nI 4)) :: [.ref (adr Y 3 0)]) ?_ (fun hj13 => ?_)
        rotate_left
        · skip
          refine v_icmp_ne_b (tgt := 141) C dX3_step_134 (by decide) (fun h14 => ?_) (fun h14 => ?_)
          · have hj15 := v_jneg h14 hj13
            refine v_iconst C dX3_step_141 kc_iconst_4 ?_
            exact hj15
          · have hj15 := v_jpos h14 hj13
            refine v_iconst C dX3_step_137 kc_iconst_3 ?_
            refine v_goto (tgt := 142) C dX3_step_138 (by decide) ?_
            exact hj15
        refine v_putiL C dX3_step_142 lp_X3_54 ck_3 (by decide) (fun σ16 => ?_)
        refine v_aload_n 0 C dX3_step_145 rfl ?_
        refine v_dup C dX3_step_146 rfl ?_
        refine v_geti C dX3_step_147 lf_X3_32 ck_3 (by decide) ?_
        refine v_iconst C dX3_step_150 kc_iconst_1 ?_
        refine v_iadd C dX3_step_151 ?_
        refine v_putiL C dX3_step_152 lp_X3_32 ck_3 (by decide) (fun σ17 => ?_)
        exact v_vret C M dX3_step_155
      · skip
        refine v_aload_n 0 C dX3_step_113 rfl ?_
        refine v_cV0v C dX3_step_114 lv_X3_164 ck_3 (kX3_stepOverWhole _) (by decide) (Nat.le_of_ble_eq_true rfl) (fun _ σ18 => ?_)
        refine v_goto (tgt := 155) C dX3_step_117 (by decide) ?_
        exact v_vret C M dX3_step_155
    · skip
      refine v_aload_n 0 C dX3_step_89 rfl ?_
      refine v_cV0v C dX3_step_90 lv_X3_158 ck_3 (kX3_stepOverWord _) (by decide) (Nat.le_of_ble_eq_true rfl) (fun _ σ19 => ?_)
      refine v_goto (tgt := 155) C dX3_step_93 (by decide) ?_
      exact v_vret C M dX3_step_155
  · skip
    refine v_aload_n 0 C dX3_step_64 rfl ?_
    refine v_iconst C dX3_step_65 kc_iconst_0 ?_
    refine v_putiL C dX3_step_66 lp_X3_54 ck_3 (by decide) (fun σ20 => ?_)
    refine v_goto (tgt := 155) C dX3_step_69 (by decide) ?_
    exact v_vret C M dX3_step_155
-- OpenLines$Reader fail(I)Z, depth 0
def fX3_fail (p1 : Int32) (σ : St) : Option (Int32 × St) :=
  lt (wI σ 3 0 1 p1) fun (σ1 : St) => lt (wI σ1 3 0 0 (σ1.1 3 0 7)) fun (σ2 : St) => some (0, σ2)
set_option maxRecDepth 20000 in
theorem kX3_fail {X : Cx} (p1 : Int32) (σ : St) : Kon X 0 yX3_fail cX3_fail 2 (some .boolean) gI [.ref (adr X 3 0), .int p1] σ (fX3_fail p1 σ) := by
  refine konJ (own := RX3) (fun _ => gI) (fun a b => [.ref (a 3 0), .int p1]) (by decide +kernel) rfl (fun _ _ => Nat.le_of_ble_eq_true rfl) (fun Y C M => ?_)
  show V Y gI 0 [(0, .ref (adr Y 3 0)), (1, .int p1)] [] σ (fX3_fail p1 σ)
  unfold fX3_fail
  refine v_aload_n 0 C dX3_fail_0 rfl ?_
  refine v_iload_n 1 C dX3_fail_1 rfl ?_
  refine v_putiL C dX3_fail_2 lp_X3_35 ck_3 (by decide) (fun σ1 => ?_)
  refine v_aload_n 0 C dX3_fail_5 rfl ?_
  refine v_aload_n 0 C dX3_fail_6 rfl ?_
  refine v_geti C dX3_fail_7 lf_X3_147 ck_3 (by decide) ?_
  refine v_putiL C dX3_fail_10 lp_X3_38 ck_3 (by decide) (fun σ2 => ?_)
  refine v_iconst C dX3_fail_13 kc_iconst_0 ?_
  exact v_zret C M (by decide) dX3_fail_14
-- OpenLines$Reader whole(II)Z, depth 3
def fX3_whole (p1 : Int32) (p2 : Int32) (σ : St) : Option (Int32 × St) :=
  bd (fX3_step σ) fun _ (σ1 : St) => (if (σ1.1 3 0 6) = (nI 2) then (jn (fun (σ2 : St) => some (nI 1, σ2)) fun j42 => jn (fun (σ3 : St) => bd (fX3_fail (nI 4) σ3) fun (r5 : Int32) (σ4 : St) => (if r5 = 0 then some (0, σ4) else j42 σ4)) fun j34 => if (σ1.1 3 0 8) < p1 then j34 σ1 else (if (σ1.1 3 0 8) ≤ p2 then j42 σ1 else j34 σ1)) else bd (fX3_fail (nI 1) σ1) fun (r7 : Int32) (σ6 : St) => rz r7 σ6)
set_option maxRecDepth 20000 in
theorem kX3_whole {X : Cx} (p1 : Int32) (p2 : Int32) (σ : St) : Kon X 3 yX3_whole cX3_whole 3 (some .boolean) gI [.ref (adr X 3 0), .int p1, .int p2] σ (fX3_whole p1 p2 σ) := by
  refine konJ (own := RX3) (fun _ => gI) (fun a b => [.ref (a 3 0), .int p1, .int p2]) (by decide +kernel) rfl (fun _ _ => Nat.le_of_ble_eq_true rfl) (fun Y C M => ?_)
  show V Y gI 0 [(0, .ref (adr Y 3 0)), (1, .int p1), (2, .int p2)] [] σ (fX3_whole p1 p2 σ)
  unfold fX3_whole
  refine v_aload_n 0 C dX3_whole_0 rfl ?_
  refine v_cV0v C dX3_whole_1 lv_X3_51 ck_3 (kX3_step _) (by decide) (Nat.le_of_ble_eq_true rfl) (fun _ σ1 => ?_)
  refine v_aload_n 0 C dX3_whole_4 rfl ?_
  refine v_geti C dX3_whole_5 lf_X3_54 ck_3 (by decide) ?_
  refine v_iconst C dX3_whole_8 kc_iconst_2 ?_
  refine v_icmp_eq (tgt := 18) C dX3_whole_9 (by decide) ?_ ?_
  · skip
    refine v_aload_n 0 C dX3_whole_18 rfl ?_
    refine v_geti C dX3_whole_19 lf_X3_99 ck_3 (by decide) ?_
    refine v_iload_n 1 C dX3_whole_22 rfl ?_
    refine v_jn (fun j42 => ∀ (σ2 : St), V Y gI 42 [] [] σ2 (j42 σ2)) ?_ ?_
    · intro σ2
      refine v_iconst C dX3_whole_42 kc_iconst_1 ?_
      refine v_goto (tgt := 47) C dX3_whole_43 (by decide) ?_
      exact v_zret C M (by decide) dX3_whole_47
    · intro j42 hj42
      refine v_jn (fun j34 => ∀ (σ3 : St), V Y gI 34 [(0, .ref (adr Y 3 0))] [] σ3 (j34 σ3)) ?_ ?_
      · intro σ3
        refine v_aload_n 0 C dX3_whole_34 rfl ?_
        refine v_iconst C dX3_whole_35 kc_iconst_4 ?_
        refine v_cV1i C dX3_whole_36 lv_X3_60 ck_3 (kX3_fail (nI 4) _) (by decide) (Nat.le_of_ble_eq_true rfl) (fun r5 σ4 => ?_)
        refine v_if_eq (tgt := 46) C dX3_whole_39 (by decide) ?_ ?_
        · skip
          refine v_iconst C dX3_whole_46 kc_iconst_0 ?_
          exact v_zret C M (by decide) dX3_whole_47
        · skip
          exact v_lv (hj42 σ4) [] rfl
      · intro j34 hj34
        refine v_icmp_lt (tgt := 34) C dX3_whole_23 (by decide) ?_ ?_
        · skip
          exact v_lv (hj34 σ1) [0] rfl
        · skip
          refine v_aload_n 0 C dX3_whole_26 rfl ?_
          refine v_geti C dX3_whole_27 lf_X3_99 ck_3 (by decide) ?_
          refine v_iload_n 2 C dX3_whole_30 rfl ?_
          refine v_icmp_le (tgt := 42) C dX3_whole_31 (by decide) ?_ ?_
          · skip
            exact v_lv (hj42 σ1) [] rfl
          · skip
            exact v_lv (hj34 σ1) [0] rfl
  · skip
    refine v_aload_n 0 C dX3_whole_12 rfl ?_
    refine v_iconst C dX3_whole_13 kc_iconst_1 ?_
    refine v_cV1i C dX3_whole_14 lv_X3_60 ck_3 (kX3_fail (nI 1) _) (by decide) (Nat.le_of_ble_eq_true rfl) (fun r7 σ6 => ?_)
    exact v_zretg C M dX3_whole_17
-- OpenLines$Reader goesOn()Z, depth 3
def fX3_goesOn (σ : St) : Option (Int32 × St) :=
  bd (fX3_step σ) fun _ (σ1 : St) => (if (σ1.1 3 0 6) = 0 then gd (σ1.2.2 3 0 3 < 6) <| (if (σ1.1 2 (σ1.2.2 3 0 3) 3) ≤ 0 then bd (fX3_fail (nI 6) σ1) fun (r7 : Int32) (σ6 : St) => rz r7 σ6 else some (0, σ1)) else (jn (fun (σ2 : St) => some (nI 1, σ2)) fun j48 => if (σ1.1 3 0 6) = (nI 3) then j48 σ1 else bd (fX3_fail (nI 1) σ1) fun (r4 : Int32) (σ3 : St) => (if r4 = 0 then some (0, σ3) else j48 σ3)))
set_option maxRecDepth 20000 in
theorem kX3_goesOn {X : Cx} (σ : St) : Kon X 3 yX3_goesOn cX3_goesOn 1 (some .boolean) gI [.ref (adr X 3 0)] σ (fX3_goesOn σ) := by
  refine konJ (own := RX3) (fun _ => gI) (fun a b => [.ref (a 3 0)]) (by decide +kernel) rfl (fun _ _ => Nat.le_of_ble_eq_true rfl) (fun Y C M => ?_)
  show V Y gI 0 [(0, .ref (adr Y 3 0))] [] σ (fX3_goesOn σ)
  unfold fX3_goesOn
  refine v_aload_n 0 C dX3_goesOn_0 rfl ?_
  refine v_cV0v C dX3_goesOn_1 lv_X3_51 ck_3 (kX3_step _) (by decide) (Nat.le_of_ble_eq_true rfl) (fun _ σ1 => ?_)
  refine v_aload_n 0 C dX3_goesOn_4 rfl ?_
  refine v_geti C dX3_goesOn_5 lf_X3_54 ck_3 (by decide) ?_
  refine v_if_ne (tgt := 32) C dX3_goesOn_8 (by decide) ?_ ?_
  · skip
    refine v_aload_n 0 C dX3_goesOn_32 rfl ?_
    refine v_geti C dX3_goesOn_33 lf_X3_54 ck_3 (by decide) ?_
    refine v_iconst C dX3_goesOn_36 kc_iconst_3 ?_
    refine v_jn (fun j48 => ∀ (σ2 : St), V Y gI 48 [] [] σ2 (j48 σ2)) ?_ ?_
    · intro σ2
      refine v_iconst C dX3_goesOn_48 kc_iconst_1 ?_
      refine v_goto (tgt := 53) C dX3_goesOn_49 (by decide) ?_
      exact v_zret C M (by decide) dX3_goesOn_53
    · intro j48 hj48
      refine v_icmp_eq (tgt := 48) C dX3_goesOn_37 (by decide) ?_ ?_
      · skip
        exact v_lv (hj48 σ1) [] rfl
      · skip
        refine v_aload_n 0 C dX3_goesOn_40 rfl ?_
        refine v_iconst C dX3_goesOn_41 kc_iconst_1 ?_
        refine v_cV1i C dX3_goesOn_42 lv_X3_60 ck_3 (kX3_fail (nI 1) _) (by decide) (Nat.le_of_ble_eq_true rfl) (fun r4 σ3 => ?_)
        refine v_if_eq (tgt := 52) C dX3_goesOn_45 (by decide) ?_ ?_
        · skip
          refine v_iconst C dX3_goesOn_52 kc_iconst_0 ?_
          exact v_zret C M (by decide) dX3_goesOn_53
        · skip
          exact v_lv (hj48 σ3) [] rfl
  · skip
    refine v_aload_n 0 C dX3_goesOn_11 rfl ?_
    refine v_getr C dX3_goesOn_12 lf_X3_12 ck_3 rfl rfl (fun hq5 => ?_)
    refine v_geti C dX3_goesOn_15 lf_X3_57 hq5 (by decide) ?_
    refine v_if_le (tgt := 25) C dX3_goesOn_18 (by decide) ?_ ?_
    · skip
      refine v_aload_n 0 C dX3_goesOn_25 rfl ?_
      refine v_bipush C dX3_goesOn_26 kc_bipush_6 ?_
      refine v_cV1i C dX3_goesOn_28 lv_X3_60 ck_3 (kX3_fail (nI 6) _) (by decide) (Nat.le_of_ble_eq_true rfl) (fun r7 σ6 => ?_)
      exact v_zretg C M dX3_goesOn_31
    · skip
      refine v_iconst C dX3_goesOn_21 kc_iconst_0 ?_
      refine v_goto (tgt := 31) C dX3_goesOn_22 (by decide) ?_
      exact v_zret C M (by decide) dX3_goesOn_31
-- OpenLines$Tally start()V, depth 1
def LX5_start_27 (k0 : Nat) (ke : St → Option (Unit × St)) : Nat → Int32 → St → Option (Unit × St)
  | 0, _, _ => none
  | n + 1, b1, σ => (if (nI 6) ≤ b1 then ke σ else gi b1 6 <| bd (fJ7_fill_53178 38 (6 * k0 + b1.toNatClampNeg) 0 σ) fun _ (σ7 : St) => gi b1 6 <| gi (nI 4) 6 <| lt (wI σ7 38 (6 * k0 + b1.toNatClampNeg) (nI 4).toNatClampNeg (-2)) fun (σ9 : St) => LX5_start_27 k0 ke n (b1 + nI 1) σ9)
def LX5_start_61 (k0 : Nat) (ke : St → Option (Unit × St)) : Nat → Int32 → St → Option (Unit × St)
  | 0, _, _ => none
  | n + 1, b1, σ => (if (nI 16) ≤ b1 then ke σ else gi b1 16 <| bd (fJ7_fill_53178 40 (16 * k0 + b1.toNatClampNeg) 0 σ) fun _ (σ12 : St) => LX5_start_61 k0 ke n (b1 + nI 1) σ12)
def fX5_start (k0 : Nat) (σ : St) : Option (Unit × St) :=
  lt (wI σ 5 k0 0 0) fun (σ1 : St) => lt (wI σ1 5 k0 1 0) fun (σ2 : St) => lt (wI σ2 5 k0 2 0) fun (σ3 : St) => lt (wI σ3 5 k0 3 0) fun (σ4 : St) => lt (wI σ4 5 k0 4 0) fun (σ5 : St) => (LX5_start_27 k0 (fun (σ10 : St) => (LX5_start_61 k0 (fun (σ13 : St) => bd (fJ7_fill_53178 41 k0 (-2) σ13) fun _ (σ14 : St) => some ((), σ14)) FU 0 σ10)) FU 0 σ5)
set_option maxRecDepth 20000 in
theorem vLX5_start_27 {Y : Cx} (k0 : Nat) (hk0 : k0 < cnt 5) (C : Ok Y RX5 cX5_start 2 1) (M : OkM Y none) (ke : St → Option (Unit × St)) (hke : ∀ (σ : St), V Y gV 59 [(0, .ref (adr Y 5 k0))] [] σ (ke σ)) : ∀ (n : Nat) (b1 : Int32) (σ : St), V Y gV 27 [(0, .ref (adr Y 5 k0)), (1, .int b1)] [] σ (LX5_start_27 k0 ke n b1 σ) := by
  intro n
  induction n with
  | zero => intros; exact v_none
  | succ n ih =>
    intro b1 σ
    rw [LX5_start_27]
    refine v_iload_n 1 C dX5_start_27 rfl ?_
    refine v_bipush C dX5_start_28 kc_bipush_6 ?_
    refine v_icmp_ge (tgt := 59) C dX5_start_30 (by decide) ?_ ?_
    · skip
      exact v_lv (hke σ) [0] rfl
    · skip
      refine v_aload_n 0 C dX5_start_33 rfl ?_
      refine v_getc C dX5_start_34 lf_X5_11 hk0 rfl ?_
      refine v_iload_n 1 C dX5_start_37 rfl ?_
      refine v_aaloadK C dX5_start_38 hk0 (by decide) rfl rfl (fun hq6 => ?_)
      refine v_iconst C dX5_start_39 kc_iconst_0 ?_
      refine v_cS2v C dX5_start_40 ls_X5_39 (kJ7_fill_53178 38 (6 * k0 + b1.toNatClampNeg) 0 (by decide) (row_lt (m := 3) hk0 hq6 rfl) _) (by decide) (Nat.le_of_ble_eq_true rfl) (fun _ σ7 => ?_)
      refine v_aload_n 0 C dX5_start_43 rfl ?_
      refine v_getc C dX5_start_44 lf_X5_11 hk0 rfl ?_
      refine v_iload_n 1 C dX5_start_47 rfl ?_
      refine v_aaloadK C dX5_start_48 hk0 (by decide) rfl rfl (fun hq8 => ?_)
      refine v_iconst C dX5_start_49 kc_iconst_4 ?_
      refine v_bipush C dX5_start_50 kc_bipush_m2 ?_
      refine v_iastoreL C dX5_start_52 (row_lt (m := 3) hk0 hq8 rfl) (by decide) rfl (fun σ9 => ?_)
      refine v_iinc (lv' := [(1, .int (b1 + nI 1)), (0, .ref (adr Y 5 k0))]) 1 C dX5_start_53 rfl (congrArg (b1 + ·) kc_iconst_1) (by decide) rfl ?_
      refine v_goto (tgt := 27) C dX5_start_56 (by decide) ?_
      exact v_lv (ih (b1 + nI 1) σ9) [1, 0] rfl
set_option maxRecDepth 20000 in
theorem vLX5_start_61 {Y : Cx} (k0 : Nat) (hk0 : k0 < cnt 5) (C : Ok Y RX5 cX5_start 2 1) (M : OkM Y none) (ke : St → Option (Unit × St)) (hke : ∀ (σ : St), V Y gV 83 [(0, .ref (adr Y 5 k0))] [] σ (ke σ)) : ∀ (n : Nat) (b1 : Int32) (σ : St), V Y gV 61 [(0, .ref (adr Y 5 k0)), (1, .int b1)] [] σ (LX5_start_61 k0 ke n b1 σ) := by
  intro n
  induction n with
  | zero => intros; exact v_none
  | succ n ih =>
    intro b1 σ
    rw [LX5_start_61]
    refine v_iload_n 1 C dX5_start_61 rfl ?_
    refine v_bipush C dX5_start_62 kc_bipush_16 ?_
    refine v_icmp_ge (tgt := 83) C dX5_start_64 (by decide) ?_ ?_
    · skip
      exact v_lv (hke σ) [0] rfl
    · skip
      refine v_aload_n 0 C dX5_start_67 rfl ?_
      refine v_getc C dX5_start_68 lf_X5_16 hk0 rfl ?_
      refine v_iload_n 1 C dX5_start_71 rfl ?_
      refine v_aaloadK C dX5_start_72 hk0 (by decide) rfl rfl (fun hq11 => ?_)
      refine v_iconst C dX5_start_73 kc_iconst_0 ?_
      refine v_cS2v C dX5_start_74 ls_X5_39 (kJ7_fill_53178 40 (16 * k0 + b1.toNatClampNeg) 0 (by decide) (row_lt (m := 3) hk0 hq11 rfl) _) (by decide) (Nat.le_of_ble_eq_true rfl) (fun _ σ12 => ?_)
      refine v_iinc (lv' := [(1, .int (b1 + nI 1)), (0, .ref (adr Y 5 k0))]) 1 C dX5_start_77 rfl (congrArg (b1 + ·) kc_iconst_1) (by decide) rfl ?_
      refine v_goto (tgt := 61) C dX5_start_80 (by decide) ?_
      exact v_lv (ih (b1 + nI 1) σ12) [1, 0] rfl
set_option maxRecDepth 20000 in
theorem kX5_start {X : Cx} (k0 : Nat) (hk0 : k0 < cnt 5) (σ : St) : Kon X 1 yX5_start cX5_start 2 none gV [.ref (adr X 5 k0)] σ (fX5_start k0 σ) := by
  refine konJ (own := RX5) (fun _ => gV) (fun a b => [.ref (a 5 k0)]) (by decide +kernel) rfl (fun _ _ => Nat.le_of_ble_eq_true rfl) (fun Y C M => ?_)
  show V Y gV 0 [(0, .ref (adr Y 5 k0))] [] σ (fX5_start k0 σ)
  unfold fX5_start
  refine v_aload_n 0 C dX5_start_0 rfl ?_
  refine v_iconst C dX5_start_1 kc_iconst_0 ?_
  refine v_putiL C dX5_start_2 lp_X5_23 hk0 (by decide) (fun σ1 => ?_)
  refine v_aload_n 0 C dX5_start_5 rfl ?_
  refine v_iconst C dX5_start_6 kc_iconst_0 ?_
  refine v_putiL C dX5_start_7 lp_X5_27 hk0 (by decide) (fun σ2 => ?_)
  refine v_aload_n 0 C dX5_start_10 rfl ?_
  refine v_iconst C dX5_start_11 kc_iconst_0 ?_
  refine v_putiL C dX5_start_12 lp_X5_30 hk0 (by decide) (fun σ3 => ?_)
  refine v_aload_n 0 C dX5_start_15 rfl ?_
  refine v_iconst C dX5_start_16 kc_iconst_0 ?_
  refine v_putiL C dX5_start_17 lp_X5_33 hk0 (by decide) (fun σ4 => ?_)
  refine v_aload_n 0 C dX5_start_20 rfl ?_
  refine v_iconst C dX5_start_21 kc_iconst_0 ?_
  refine v_putiL C dX5_start_22 lp_X5_36 hk0 (by decide) (fun σ5 => ?_)
  refine v_iconst C dX5_start_25 kc_iconst_0 ?_
  refine v_istore_n (lv' := [(1, .int 0), (0, .ref (adr Y 5 k0))]) C dX5_start_26 rfl (by decide) rfl ?_
  refine v_lv (vLX5_start_27 _ hk0 C M _ (fun σ10 => ?_) FU _ _) [1, 0] rfl
  refine v_iconst C dX5_start_59 kc_iconst_0 ?_
  refine v_istore_n (lv' := [(1, .int 0), (0, .ref (adr Y 5 k0))]) C dX5_start_60 rfl (by decide) rfl ?_
  refine v_lv (vLX5_start_61 _ hk0 C M _ (fun σ13 => ?_) FU _ _) [1, 0] rfl
  refine v_aload_n 0 C dX5_start_83 rfl ?_
  refine v_getc C dX5_start_84 lf_X5_19 hk0 rfl ?_
  refine v_bipush C dX5_start_87 kc_bipush_m2 ?_
  refine v_cS2v C dX5_start_89 ls_X5_39 (kJ7_fill_53178 41 k0 (-2) (by decide) hk0 _) (by decide) (Nat.le_of_ble_eq_true rfl) (fun _ σ14 => ?_)
  exact v_vret C M dX5_start_92
-- OpenLines$Run start(LOpenLines$Plan;)V, depth 2
def fX4_start (k0 : Nat) (k1 : Nat) (σ : St) : Option (Unit × St) :=
  lt (wR σ 4 k0 1 k1) fun (σ1 : St) => lt (wI σ1 4 k0 2 0) fun (σ2 : St) => lt (wI σ2 4 k0 3 (-2)) fun (σ3 : St) => lt (wI σ3 4 k0 4 (-2)) fun (σ4 : St) => lt (wI σ4 4 k0 5 (-2)) fun (σ5 : St) => lt (wI σ5 4 k0 6 (-2)) fun (σ6 : St) => lt (wI σ6 4 k0 7 0) fun (σ7 : St) => gd (σ7.2.2 4 k0 1 < 6) <| bd (fX2_sets (σ7.2.2 4 k0 1) σ7) fun (r10 : Int32) (σ9 : St) => lt (wI σ9 4 k0 8 (r10 - (nI 1))) fun (σ11 : St) => bd (fJ7_fill_53178 32 k0 0 σ11) fun _ (σ12 : St) => bd (fJ7_fill_53178 33 k0 0 σ12) fun _ (σ13 : St) => bd (fJ7_fill_53178 34 k0 0 σ13) fun _ (σ14 : St) => bd (fJ7_fill_53178 35 k0 0 σ14) fun _ (σ15 : St) => bd (fJ7_fill_53178 36 k0 (-2) σ15) fun _ (σ16 : St) => bd (fX5_start k0 σ16) fun _ (σ17 : St) => some ((), σ17)
set_option maxRecDepth 20000 in
theorem kX4_start {X : Cx} (k0 : Nat) (k1 : Nat) (hk0 : k0 < cnt 4) (hk1 : k1 < cnt 2) (σ : St) : Kon X 2 yX4_start cX4_start 2 none gV [.ref (adr X 4 k0), .ref (adr X 2 k1)] σ (fX4_start k0 k1 σ) := by
  refine konJ (own := RX4) (fun _ => gV) (fun a b => [.ref (a 4 k0), .ref (a 2 k1)]) (by decide +kernel) rfl (fun _ _ => Nat.le_of_ble_eq_true rfl) (fun Y C M => ?_)
  show V Y gV 0 [(0, .ref (adr Y 4 k0)), (1, .ref (adr Y 2 k1))] [] σ (fX4_start k0 k1 σ)
  unfold fX4_start
  refine v_aload_n 0 C dX4_start_0 rfl ?_
  refine v_aload_n 1 C dX4_start_1 rfl ?_
  refine v_putrL C dX4_start_2 lp_X4_21 rfl hk0 rfl (fun σ1 => ?_)
  refine v_aload_n 0 C dX4_start_5 rfl ?_
  refine v_iconst C dX4_start_6 kc_iconst_0 ?_
  refine v_putiL C dX4_start_7 lp_X4_44 hk0 (by decide) (fun σ2 => ?_)
  refine v_aload_n 0 C dX4_start_10 rfl ?_
  refine v_bipush C dX4_start_11 kc_bipush_m2 ?_
  refine v_putiL C dX4_start_13 lp_X4_48 hk0 (by decide) (fun σ3 => ?_)
  refine v_aload_n 0 C dX4_start_16 rfl ?_
  refine v_bipush C dX4_start_17 kc_bipush_m2 ?_
  refine v_putiL C dX4_start_19 lp_X4_51 hk0 (by decide) (fun σ4 => ?_)
  refine v_aload_n 0 C dX4_start_22 rfl ?_
  refine v_bipush C dX4_start_23 kc_bipush_m2 ?_
  refine v_putiL C dX4_start_25 lp_X4_54 hk0 (by decide) (fun σ5 => ?_)
  refine v_aload_n 0 C dX4_start_28 rfl ?_
  refine v_bipush C dX4_start_29 kc_bipush_m2 ?_
  refine v_putiL C dX4_start_31 lp_X4_57 hk0 (by decide) (fun σ6 => ?_)
  refine v_aload_n 0 C dX4_start_34 rfl ?_
  refine v_iconst C dX4_start_35 kc_iconst_0 ?_
  refine v_putiL C dX4_start_36 lp_X4_60 hk0 (by decide) (fun σ7 => ?_)
  refine v_aload_n 0 C dX4_start_39 rfl ?_
  refine v_aload_n 0 C dX4_start_40 rfl ?_
  refine v_getr C dX4_start_41 lf_X4_21 hk0 rfl rfl (fun hq8 => ?_)
  refine v_cV0i C dX4_start_44 lv_X4_63 hq8 (kX2_sets (σ7.2.2 4 k0 1) hq8 _) (by decide) (Nat.le_of_ble_eq_true rfl) (fun r10 σ9 => ?_)
  refine v_iconst C dX4_start_47 kc_iconst_1 ?_
  refine v_isub C dX4_start_48 ?_
  refine v_putiL C dX4_start_49 lp_X4_67 hk0 (by decide) (fun σ11 => ?_)
  refine v_aload_n 0 C dX4_start_52 rfl ?_
  refine v_getc C dX4_start_53 lf_X4_29 hk0 rfl ?_
  refine v_iconst C dX4_start_56 kc_iconst_0 ?_
  refine v_cS2v C dX4_start_57 ls_X4_70 (kJ7_fill_53178 32 k0 0 (by decide) hk0 _) (by decide) (Nat.le_of_ble_eq_true rfl) (fun _ σ12 => ?_)
  refine v_aload_n 0 C dX4_start_60 rfl ?_
  refine v_getc C dX4_start_61 lf_X4_32 hk0 rfl ?_
  refine v_iconst C dX4_start_64 kc_iconst_0 ?_
  refine v_cS2v C dX4_start_65 ls_X4_70 (kJ7_fill_53178 33 k0 0 (by decide) hk0 _) (by decide) (Nat.le_of_ble_eq_true rfl) (fun _ σ13 => ?_)
  refine v_aload_n 0 C dX4_start_68 rfl ?_
  refine v_getc C dX4_start_69 lf_X4_35 hk0 rfl ?_
  refine v_iconst C dX4_start_72 kc_iconst_0 ?_
  refine v_cS2v C dX4_start_73 ls_X4_70 (kJ7_fill_53178 34 k0 0 (by decide) hk0 _) (by decide) (Nat.le_of_ble_eq_true rfl) (fun _ σ14 => ?_)
  refine v_aload_n 0 C dX4_start_76 rfl ?_
  refine v_getc C dX4_start_77 lf_X4_38 hk0 rfl ?_
  refine v_iconst C dX4_start_80 kc_iconst_0 ?_
  refine v_cS2v C dX4_start_81 ls_X4_70 (kJ7_fill_53178 35 k0 0 (by decide) hk0 _) (by decide) (Nat.le_of_ble_eq_true rfl) (fun _ σ15 => ?_)
  refine v_aload_n 0 C dX4_start_84 rfl ?_
  refine v_getc C dX4_start_85 lf_X4_41 hk0 rfl ?_
  refine v_bipush C dX4_start_88 kc_bipush_m2 ?_
  refine v_cS2v C dX4_start_90 ls_X4_70 (kJ7_fill_53178 36 k0 (-2) (by decide) hk0 _) (by decide) (Nat.le_of_ble_eq_true rfl) (fun _ σ16 => ?_)
  refine v_aload_n 0 C dX4_start_93 rfl ?_
  refine v_getc C dX4_start_94 lf_X4_12 hk0 rfl ?_
  refine v_cV0v C dX4_start_97 lv_X4_76 hk0 (kX5_start k0 hk0 _) (by decide) (Nat.le_of_ble_eq_true rfl) (fun _ σ17 => ?_)
  exact v_vret C M dX4_start_100
-- OpenLines$Tally copy(LOpenLines$Tally;)V, depth 1
def LX5_copy_42 (k0 : Nat) (k1 : Nat) (ke : St → Option (Unit × St)) : Nat → Int32 → St → Option (Unit × St)
  | 0, _, _ => none
  | n + 1, b2, σ => (if (nI 6) ≤ b2 then ke σ else gi b2 6 <| gi b2 6 <| gd (¬ (0 : Int32) < 0 ∧ ¬ (0 : Int32) < 0 ∧ ¬ ((nI 6) : Int32) < 0 ∧ (0 : Int32).toNatClampNeg + (nI 6).toNatClampNeg ≤ 6 ∧ (0 : Int32).toNatClampNeg + (nI 6).toNatClampNeg ≤ 6) <| lt (wA σ 38 (6 * k0 + b2.toNatClampNeg) (va_cpy (σ.1 38 (6 * k1 + b2.toNatClampNeg)) (σ.1 38 (6 * k0 + b2.toNatClampNeg)) ((0 : Int32).toNatClampNeg) ((0 : Int32).toNatClampNeg) ((nI 6).toNatClampNeg))) fun (σ8 : St) => LX5_copy_42 k0 k1 ke n (b2 + nI 1) σ8)
def LX5_copy_75 (k0 : Nat) (k1 : Nat) (ke : St → Option (Unit × St)) : Nat → Int32 → St → Option (Unit × St)
  | 0, _, _ => none
  | n + 1, b2, σ => (if (nI 16) ≤ b2 then ke σ else gi b2 16 <| gi b2 16 <| gd (¬ (0 : Int32) < 0 ∧ ¬ (0 : Int32) < 0 ∧ ¬ ((nI 6) : Int32) < 0 ∧ (0 : Int32).toNatClampNeg + (nI 6).toNatClampNeg ≤ 6 ∧ (0 : Int32).toNatClampNeg + (nI 6).toNatClampNeg ≤ 6) <| lt (wA σ 40 (16 * k0 + b2.toNatClampNeg) (va_cpy (σ.1 40 (16 * k1 + b2.toNatClampNeg)) (σ.1 40 (16 * k0 + b2.toNatClampNeg)) ((0 : Int32).toNatClampNeg) ((0 : Int32).toNatClampNeg) ((nI 6).toNatClampNeg))) fun (σ12 : St) => LX5_copy_75 k0 k1 ke n (b2 + nI 1) σ12)
def fX5_copy (k0 : Nat) (k1 : Nat) (σ : St) : Option (Unit × St) :=
  lt (wI σ 5 k0 0 (σ.1 5 k1 0)) fun (σ1 : St) => lt (wI σ1 5 k0 1 (σ1.1 5 k1 1)) fun (σ2 : St) => lt (wI σ2 5 k0 2 (σ2.1 5 k1 2)) fun (σ3 : St) => lt (wI σ3 5 k0 3 (σ3.1 5 k1 3)) fun (σ4 : St) => lt (wI σ4 5 k0 4 (σ4.1 5 k1 4)) fun (σ5 : St) => (LX5_copy_42 k0 k1 (fun (σ9 : St) => (LX5_copy_75 k0 k1 (fun (σ13 : St) => gd (¬ (0 : Int32) < 0 ∧ ¬ (0 : Int32) < 0 ∧ ¬ ((nI 64) : Int32) < 0 ∧ (0 : Int32).toNatClampNeg + (nI 64).toNatClampNeg ≤ 64 ∧ (0 : Int32).toNatClampNeg + (nI 64).toNatClampNeg ≤ 64) <| lt (wA σ13 41 k0 (va_cpy (σ13.1 41 k1) (σ13.1 41 k0) ((0 : Int32).toNatClampNeg) ((0 : Int32).toNatClampNeg) ((nI 64).toNatClampNeg))) fun (σ14 : St) => some ((), σ14)) FU 0 σ9)) FU 0 σ5)
set_option maxRecDepth 20000 in
theorem vLX5_copy_42 {Y : Cx} (k0 : Nat) (k1 : Nat) (hk0 : k0 < cnt 5) (hk1 : k1 < cnt 5) (C : Ok Y RX5 cX5_copy 3 1) (M : OkM Y none) (ke : St → Option (Unit × St)) (hke : ∀ (σ : St), V Y gV 73 [(0, .ref (adr Y 5 k0)), (1, .ref (adr Y 5 k1))] [] σ (ke σ)) : ∀ (n : Nat) (b2 : Int32) (σ : St), V Y gV 42 [(0, .ref (adr Y 5 k0)), (1, .ref (adr Y 5 k1)), (2, .int b2)] [] σ (LX5_copy_42 k0 k1 ke n b2 σ) := by
  intro n
  induction n with
  | zero => intros; exact v_none
  | succ n ih =>
    intro b2 σ
    rw [LX5_copy_42]
    refine v_iload_n 2 C dX5_copy_42 rfl ?_
    refine v_bipush C dX5_copy_43 kc_bipush_6 ?_
    refine v_icmp_ge (tgt := 73) C dX5_copy_45 (by decide) ?_ ?_
    · skip
      exact v_lv (hke σ) [0, 1] rfl
    · skip
      refine v_aload_n 1 C dX5_copy_48 rfl ?_
      refine v_getc C dX5_copy_49 lf_X5_11 hk1 rfl ?_
      refine v_iload_n 2 C dX5_copy_52 rfl ?_
      refine v_aaloadK C dX5_copy_53 hk1 (by decide) rfl rfl (fun hq6 => ?_)
      refine v_iconst C dX5_copy_54 kc_iconst_0 ?_
      refine v_aload_n 0 C dX5_copy_55 rfl ?_
      refine v_getc C dX5_copy_56 lf_X5_11 hk0 rfl ?_
      refine v_iload_n 2 C dX5_copy_59 rfl ?_
      refine v_aaloadK C dX5_copy_60 hk0 (by decide) rfl rfl (fun hq7 => ?_)
      refine v_iconst C dX5_copy_61 kc_iconst_0 ?_
      refine v_bipush C dX5_copy_62 kc_bipush_6 ?_
      refine v_acopyL C dX5_copy_64 ac_X5_45 (by decide) (Nat.le_of_ble_eq_true rfl) (row_lt (m := 3) hk1 hq6 rfl) (by decide) rfl (row_lt (m := 3) hk0 hq7 rfl) (by decide) rfl (fun σ8 => ?_)
      refine v_iinc (lv' := [(2, .int (b2 + nI 1)), (0, .ref (adr Y 5 k0)), (1, .ref (adr Y 5 k1))]) 2 C dX5_copy_67 rfl (congrArg (b2 + ·) kc_iconst_1) (by decide) rfl ?_
      refine v_goto (tgt := 42) C dX5_copy_70 (by decide) ?_
      exact v_lv (ih (b2 + nI 1) σ8) [1, 2, 0] rfl
set_option maxRecDepth 20000 in
theorem vLX5_copy_75 {Y : Cx} (k0 : Nat) (k1 : Nat) (hk0 : k0 < cnt 5) (hk1 : k1 < cnt 5) (C : Ok Y RX5 cX5_copy 3 1) (M : OkM Y none) (ke : St → Option (Unit × St)) (hke : ∀ (σ : St), V Y gV 106 [(0, .ref (adr Y 5 k0)), (1, .ref (adr Y 5 k1))] [] σ (ke σ)) : ∀ (n : Nat) (b2 : Int32) (σ : St), V Y gV 75 [(0, .ref (adr Y 5 k0)), (1, .ref (adr Y 5 k1)), (2, .int b2)] [] σ (LX5_copy_75 k0 k1 ke n b2 σ) := by
  intro n
  induction n with
  | zero => intros; exact v_none
  | succ n ih =>
    intro b2 σ
    rw [LX5_copy_75]
    refine v_iload_n 2 C dX5_copy_75 rfl ?_
    refine v_bipush C dX5_copy_76 kc_bipush_16 ?_
    refine v_icmp_ge (tgt := 106) C dX5_copy_78 (by decide) ?_ ?_
    · skip
      exact v_lv (hke σ) [0, 1] rfl
    · skip
      refine v_aload_n 1 C dX5_copy_81 rfl ?_
      refine v_getc C dX5_copy_82 lf_X5_16 hk1 rfl ?_
      refine v_iload_n 2 C dX5_copy_85 rfl ?_
      refine v_aaloadK C dX5_copy_86 hk1 (by decide) rfl rfl (fun hq10 => ?_)
      refine v_iconst C dX5_copy_87 kc_iconst_0 ?_
      refine v_aload_n 0 C dX5_copy_88 rfl ?_
      refine v_getc C dX5_copy_89 lf_X5_16 hk0 rfl ?_
      refine v_iload_n 2 C dX5_copy_92 rfl ?_
      refine v_aaloadK C dX5_copy_93 hk0 (by decide) rfl rfl (fun hq11 => ?_)
      refine v_iconst C dX5_copy_94 kc_iconst_0 ?_
      refine v_bipush C dX5_copy_95 kc_bipush_6 ?_
      refine v_acopyL C dX5_copy_97 ac_X5_45 (by decide) (Nat.le_of_ble_eq_true rfl) (row_lt (m := 3) hk1 hq10 rfl) (by decide) rfl (row_lt (m := 3) hk0 hq11 rfl) (by decide) rfl (fun σ12 => ?_)
      refine v_iinc (lv' := [(2, .int (b2 + nI 1)), (0, .ref (adr Y 5 k0)), (1, .ref (adr Y 5 k1))]) 2 C dX5_copy_100 rfl (congrArg (b2 + ·) kc_iconst_1) (by decide) rfl ?_
      refine v_goto (tgt := 75) C dX5_copy_103 (by decide) ?_
      exact v_lv (ih (b2 + nI 1) σ12) [1, 2, 0] rfl
set_option maxRecDepth 20000 in
theorem kX5_copy {X : Cx} (k0 : Nat) (k1 : Nat) (hk0 : k0 < cnt 5) (hk1 : k1 < cnt 5) (σ : St) : Kon X 1 yX5_copy cX5_copy 3 none gV [.ref (adr X 5 k0), .ref (adr X 5 k1)] σ (fX5_copy k0 k1 σ) := by
  refine konJ (own := RX5) (fun _ => gV) (fun a b => [.ref (a 5 k0), .ref (a 5 k1)]) (by decide +kernel) rfl (fun _ _ => Nat.le_of_ble_eq_true rfl) (fun Y C M => ?_)
  show V Y gV 0 [(0, .ref (adr Y 5 k0)), (1, .ref (adr Y 5 k1))] [] σ (fX5_copy k0 k1 σ)
  unfold fX5_copy
  refine v_aload_n 0 C dX5_copy_0 rfl ?_
  refine v_aload_n 1 C dX5_copy_1 rfl ?_
  refine v_geti C dX5_copy_2 lf_X5_23 hk1 (by decide) ?_
  refine v_putiL C dX5_copy_5 lp_X5_23 hk0 (by decide) (fun σ1 => ?_)
  refine v_aload_n 0 C dX5_copy_8 rfl ?_
  refine v_aload_n 1 C dX5_copy_9 rfl ?_
  refine v_geti C dX5_copy_10 lf_X5_27 hk1 (by decide) ?_
  refine v_putiL C dX5_copy_13 lp_X5_27 hk0 (by decide) (fun σ2 => ?_)
  refine v_aload_n 0 C dX5_copy_16 rfl ?_
  refine v_aload_n 1 C dX5_copy_17 rfl ?_
  refine v_geti C dX5_copy_18 lf_X5_30 hk1 (by decide) ?_
  refine v_putiL C dX5_copy_21 lp_X5_30 hk0 (by decide) (fun σ3 => ?_)
  refine v_aload_n 0 C dX5_copy_24 rfl ?_
  refine v_aload_n 1 C dX5_copy_25 rfl ?_
  refine v_geti C dX5_copy_26 lf_X5_33 hk1 (by decide) ?_
  refine v_putiL C dX5_copy_29 lp_X5_33 hk0 (by decide) (fun σ4 => ?_)
  refine v_aload_n 0 C dX5_copy_32 rfl ?_
  refine v_aload_n 1 C dX5_copy_33 rfl ?_
  refine v_geti C dX5_copy_34 lf_X5_36 hk1 (by decide) ?_
  refine v_putiL C dX5_copy_37 lp_X5_36 hk0 (by decide) (fun σ5 => ?_)
  refine v_iconst C dX5_copy_40 kc_iconst_0 ?_
  refine v_istore_n (lv' := [(2, .int 0), (0, .ref (adr Y 5 k0)), (1, .ref (adr Y 5 k1))]) C dX5_copy_41 rfl (by decide) rfl ?_
  refine v_lv (vLX5_copy_42 _ _ hk0 hk1 C M _ (fun σ9 => ?_) FU _ _) [1, 2, 0] rfl
  refine v_iconst C dX5_copy_73 kc_iconst_0 ?_
  refine v_istore_n (lv' := [(2, .int 0), (0, .ref (adr Y 5 k0)), (1, .ref (adr Y 5 k1))]) C dX5_copy_74 rfl (by decide) rfl ?_
  refine v_lv (vLX5_copy_75 _ _ hk0 hk1 C M _ (fun σ13 => ?_) FU _ _) [1, 2, 0] rfl
  refine v_aload_n 1 C dX5_copy_106 rfl ?_
  refine v_getc C dX5_copy_107 lf_X5_19 hk1 rfl ?_
  refine v_iconst C dX5_copy_110 kc_iconst_0 ?_
  refine v_aload_n 0 C dX5_copy_111 rfl ?_
  refine v_getc C dX5_copy_112 lf_X5_19 hk0 rfl ?_
  refine v_iconst C dX5_copy_115 kc_iconst_0 ?_
  refine v_bipush C dX5_copy_116 kc_bipush_64 ?_
  refine v_acopyL C dX5_copy_118 ac_X5_45 (by decide) (Nat.le_of_ble_eq_true rfl) hk1 (by decide) rfl hk0 (by decide) rfl (fun σ14 => ?_)
  exact v_vret C M dX5_copy_121
-- OpenLines$Run copy(LOpenLines$Run;)V, depth 2
def fX4_copy (k0 : Nat) (k1 : Nat) (σ : St) : Option (Unit × St) :=
  gd (σ.2.2 4 k1 1 < 6) <| lt (wR σ 4 k0 1 (σ.2.2 4 k1 1)) fun (σ2 : St) => lt (wI σ2 4 k0 2 (σ2.1 4 k1 2)) fun (σ3 : St) => lt (wI σ3 4 k0 3 (σ3.1 4 k1 3)) fun (σ4 : St) => lt (wI σ4 4 k0 4 (σ4.1 4 k1 4)) fun (σ5 : St) => lt (wI σ5 4 k0 5 (σ5.1 4 k1 5)) fun (σ6 : St) => lt (wI σ6 4 k0 6 (σ6.1 4 k1 6)) fun (σ7 : St) => lt (wI σ7 4 k0 7 (σ7.1 4 k1 7)) fun (σ8 : St) => lt (wI σ8 4 k0 8 (σ8.1 4 k1 8)) fun (σ9 : St) => gd (¬ (0 : Int32) < 0 ∧ ¬ (0 : Int32) < 0 ∧ ¬ ((nI 6) : Int32) < 0 ∧ (0 : Int32).toNatClampNeg + (nI 6).toNatClampNeg ≤ 6 ∧ (0 : Int32).toNatClampNeg + (nI 6).toNatClampNeg ≤ 6) <| lt (wA σ9 32 k0 (va_cpy (σ9.1 32 k1) (σ9.1 32 k0) ((0 : Int32).toNatClampNeg) ((0 : Int32).toNatClampNeg) ((nI 6).toNatClampNeg))) fun (σ10 : St) => gd (¬ (0 : Int32) < 0 ∧ ¬ (0 : Int32) < 0 ∧ ¬ ((nI 6) : Int32) < 0 ∧ (0 : Int32).toNatClampNeg + (nI 6).toNatClampNeg ≤ 6 ∧ (0 : Int32).toNatClampNeg + (nI 6).toNatClampNeg ≤ 6) <| lt (wA σ10 33 k0 (va_cpy (σ10.1 33 k1) (σ10.1 33 k0) ((0 : Int32).toNatClampNeg) ((0 : Int32).toNatClampNeg) ((nI 6).toNatClampNeg))) fun (σ11 : St) => gd (¬ (0 : Int32) < 0 ∧ ¬ (0 : Int32) < 0 ∧ ¬ ((nI 6) : Int32) < 0 ∧ (0 : Int32).toNatClampNeg + (nI 6).toNatClampNeg ≤ 6 ∧ (0 : Int32).toNatClampNeg + (nI 6).toNatClampNeg ≤ 6) <| lt (wA σ11 34 k0 (va_cpy (σ11.1 34 k1) (σ11.1 34 k0) ((0 : Int32).toNatClampNeg) ((0 : Int32).toNatClampNeg) ((nI 6).toNatClampNeg))) fun (σ12 : St) => gd (¬ (0 : Int32) < 0 ∧ ¬ (0 : Int32) < 0 ∧ ¬ ((nI 6) : Int32) < 0 ∧ (0 : Int32).toNatClampNeg + (nI 6).toNatClampNeg ≤ 6 ∧ (0 : Int32).toNatClampNeg + (nI 6).toNatClampNeg ≤ 6) <| lt (wA σ12 35 k0 (va_cpy (σ12.1 35 k1) (σ12.1 35 k0) ((0 : Int32).toNatClampNeg) ((0 : Int32).toNatClampNeg) ((nI 6).toNatClampNeg))) fun (σ13 : St) => gd (¬ (0 : Int32) < 0 ∧ ¬ (0 : Int32) < 0 ∧ ¬ ((nI 6) : Int32) < 0 ∧ (0 : Int32).toNatClampNeg + (nI 6).toNatClampNeg ≤ 6 ∧ (0 : Int32).toNatClampNeg + (nI 6).toNatClampNeg ≤ 6) <| lt (wA σ13 36 k0 (va_cpy (σ13.1 36 k1) (σ13.1 36 k0) ((0 : Int32).toNatClampNeg) ((0 : Int32).toNatClampNeg) ((nI 6).toNatClampNeg))) fun (σ14 : St) => bd (fX5_copy k0 k1 σ14) fun _ (σ15 : St) => some ((), σ15)
set_option maxRecDepth 20000 in
theorem kX4_copy {X : Cx} (k0 : Nat) (k1 : Nat) (hk0 : k0 < cnt 4) (hk1 : k1 < cnt 4) (σ : St) : Kon X 2 yX4_copy cX4_copy 2 none gV [.ref (adr X 4 k0), .ref (adr X 4 k1)] σ (fX4_copy k0 k1 σ) := by
  refine konJ (own := RX4) (fun _ => gV) (fun a b => [.ref (a 4 k0), .ref (a 4 k1)]) (by decide +kernel) rfl (fun _ _ => Nat.le_of_ble_eq_true rfl) (fun Y C M => ?_)
  show V Y gV 0 [(0, .ref (adr Y 4 k0)), (1, .ref (adr Y 4 k1))] [] σ (fX4_copy k0 k1 σ)
  unfold fX4_copy
  refine v_aload_n 0 C dX4_copy_0 rfl ?_
  refine v_aload_n 1 C dX4_copy_1 rfl ?_
  refine v_getr C dX4_copy_2 lf_X4_21 hk1 rfl rfl (fun hq1 => ?_)
  refine v_putrL C dX4_copy_5 lp_X4_21 rfl hk0 rfl (fun σ2 => ?_)
  refine v_aload_n 0 C dX4_copy_8 rfl ?_
  refine v_aload_n 1 C dX4_copy_9 rfl ?_
  refine v_geti C dX4_copy_10 lf_X4_44 hk1 (by decide) ?_
  refine v_putiL C dX4_copy_13 lp_X4_44 hk0 (by decide) (fun σ3 => ?_)
  refine v_aload_n 0 C dX4_copy_16 rfl ?_
  refine v_aload_n 1 C dX4_copy_17 rfl ?_
  refine v_geti C dX4_copy_18 lf_X4_48 hk1 (by decide) ?_
  refine v_putiL C dX4_copy_21 lp_X4_48 hk0 (by decide) (fun σ4 => ?_)
  refine v_aload_n 0 C dX4_copy_24 rfl ?_
  refine v_aload_n 1 C dX4_copy_25 rfl ?_
  refine v_geti C dX4_copy_26 lf_X4_51 hk1 (by decide) ?_
  refine v_putiL C dX4_copy_29 lp_X4_51 hk0 (by decide) (fun σ5 => ?_)
  refine v_aload_n 0 C dX4_copy_32 rfl ?_
  refine v_aload_n 1 C dX4_copy_33 rfl ?_
  refine v_geti C dX4_copy_34 lf_X4_54 hk1 (by decide) ?_
  refine v_putiL C dX4_copy_37 lp_X4_54 hk0 (by decide) (fun σ6 => ?_)
  refine v_aload_n 0 C dX4_copy_40 rfl ?_
  refine v_aload_n 1 C dX4_copy_41 rfl ?_
  refine v_geti C dX4_copy_42 lf_X4_57 hk1 (by decide) ?_
  refine v_putiL C dX4_copy_45 lp_X4_57 hk0 (by decide) (fun σ7 => ?_)
  refine v_aload_n 0 C dX4_copy_48 rfl ?_
  refine v_aload_n 1 C dX4_copy_49 rfl ?_
  refine v_geti C dX4_copy_50 lf_X4_60 hk1 (by decide) ?_
  refine v_putiL C dX4_copy_53 lp_X4_60 hk0 (by decide) (fun σ8 => ?_)
  refine v_aload_n 0 C dX4_copy_56 rfl ?_
  refine v_aload_n 1 C dX4_copy_57 rfl ?_
  refine v_geti C dX4_copy_58 lf_X4_67 hk1 (by decide) ?_
  refine v_putiL C dX4_copy_61 lp_X4_67 hk0 (by decide) (fun σ9 => ?_)
  refine v_aload_n 1 C dX4_copy_64 rfl ?_
  refine v_getc C dX4_copy_65 lf_X4_29 hk1 rfl ?_
  refine v_iconst C dX4_copy_68 kc_iconst_0 ?_
  refine v_aload_n 0 C dX4_copy_69 rfl ?_
  refine v_getc C dX4_copy_70 lf_X4_29 hk0 rfl ?_
  refine v_iconst C dX4_copy_73 kc_iconst_0 ?_
  refine v_bipush C dX4_copy_74 kc_bipush_6 ?_
  refine v_acopyL C dX4_copy_76 ac_X4_79 (by decide) (Nat.le_of_ble_eq_true rfl) hk1 (by decide) rfl hk0 (by decide) rfl (fun σ10 => ?_)
  refine v_aload_n 1 C dX4_copy_79 rfl ?_
  refine v_getc C dX4_copy_80 lf_X4_32 hk1 rfl ?_
  refine v_iconst C dX4_copy_83 kc_iconst_0 ?_
  refine v_aload_n 0 C dX4_copy_84 rfl ?_
  refine v_getc C dX4_copy_85 lf_X4_32 hk0 rfl ?_
  refine v_iconst C dX4_copy_88 kc_iconst_0 ?_
  refine v_bipush C dX4_copy_89 kc_bipush_6 ?_
  refine v_acopyL C dX4_copy_91 ac_X4_79 (by decide) (Nat.le_of_ble_eq_true rfl) hk1 (by decide) rfl hk0 (by decide) rfl (fun σ11 => ?_)
  refine v_aload_n 1 C dX4_copy_94 rfl ?_
  refine v_getc C dX4_copy_95 lf_X4_35 hk1 rfl ?_
  refine v_iconst C dX4_copy_98 kc_iconst_0 ?_
  refine v_aload_n 0 C dX4_copy_99 rfl ?_
  refine v_getc C dX4_copy_100 lf_X4_35 hk0 rfl ?_
  refine v_iconst C dX4_copy_103 kc_iconst_0 ?_
  refine v_bipush C dX4_copy_104 kc_bipush_6 ?_
  refine v_acopyL C dX4_copy_106 ac_X4_79 (by decide) (Nat.le_of_ble_eq_true rfl) hk1 (by decide) rfl hk0 (by decide) rfl (fun σ12 => ?_)
  refine v_aload_n 1 C dX4_copy_109 rfl ?_
  refine v_getc C dX4_copy_110 lf_X4_38 hk1 rfl ?_
  refine v_iconst C dX4_copy_113 kc_iconst_0 ?_
  refine v_aload_n 0 C dX4_copy_114 rfl ?_
  refine v_getc C dX4_copy_115 lf_X4_38 hk0 rfl ?_
  refine v_iconst C dX4_copy_118 kc_iconst_0 ?_
  refine v_bipush C dX4_copy_119 kc_bipush_6 ?_
  refine v_acopyL C dX4_copy_121 ac_X4_79 (by decide) (Nat.le_of_ble_eq_true rfl) hk1 (by decide) rfl hk0 (by decide) rfl (fun σ13 => ?_)
  refine v_aload_n 1 C dX4_copy_124 rfl ?_
  refine v_getc C dX4_copy_125 lf_X4_41 hk1 rfl ?_
  refine v_iconst C dX4_copy_128 kc_iconst_0 ?_
  refine v_aload_n 0 C dX4_copy_129 rfl ?_
  refine v_getc C dX4_copy_130 lf_X4_41 hk0 rfl ?_
  refine v_iconst C dX4_copy_133 kc_iconst_0 ?_
  refine v_bipush C dX4_copy_134 kc_bipush_6 ?_
  refine v_acopyL C dX4_copy_136 ac_X4_79 (by decide) (Nat.le_of_ble_eq_true rfl) hk1 (by decide) rfl hk0 (by decide) rfl (fun σ14 => ?_)
  refine v_aload_n 0 C dX4_copy_139 rfl ?_
  refine v_getc C dX4_copy_140 lf_X4_12 hk0 rfl ?_
  refine v_aload_n 1 C dX4_copy_143 rfl ?_
  refine v_getc C dX4_copy_144 lf_X4_12 hk1 rfl ?_
  refine v_cV1v C dX4_copy_147 lv_X4_85 hk0 (kX5_copy k0 k1 hk0 hk1 _) (by decide) (Nat.le_of_ble_eq_true rfl) (fun _ σ15 => ?_)
  exact v_vret C M dX4_copy_150
-- OpenLines$Tally account(II)I, depth 2
def fX5_account (k0 : Nat) (p1 : Int32) (p2 : Int32) (σ : St) : Option (Int32 × St) :=
  (if (fX5_isAccount p1 p2) = 0 then some ((-1), σ) else gi p1 6 <| gi p2 6 <| some (σ.1 38 (6 * k0 + p1.toNatClampNeg) p2.toNatClampNeg, σ))
set_option maxRecDepth 20000 in
theorem kX5_account {X : Cx} (k0 : Nat) (p1 : Int32) (p2 : Int32) (hk0 : k0 < cnt 5) (σ : St) : Kon X 2 yX5_account cX5_account 3 (some .int) gI [.ref (adr X 5 k0), .int p1, .int p2] σ (fX5_account k0 p1 p2 σ) := by
  refine konJ (own := RX5) (fun _ => gI) (fun a b => [.ref (a 5 k0), .int p1, .int p2]) (by decide +kernel) rfl (fun _ _ => Nat.le_of_ble_eq_true rfl) (fun Y C M => ?_)
  show V Y gI 0 [(0, .ref (adr Y 5 k0)), (1, .int p1), (2, .int p2)] [] σ (fX5_account k0 p1 p2 σ)
  unfold fX5_account
  refine v_iload_n 1 C dX5_account_0 rfl ?_
  refine v_iload_n 2 C dX5_account_1 rfl ?_
  refine v_cS2p C dX5_account_2 ls_X5_51 (kX5_isAccount p1 p2 _) (by decide) (Nat.le_of_ble_eq_true rfl) ?_
  refine v_if_eq (tgt := 19) C dX5_account_5 (by decide) ?_ ?_
  · skip
    refine v_iconst C dX5_account_19 kc_iconst_m1 ?_
    exact v_iret C M dX5_account_20
  · skip
    refine v_aload_n 0 C dX5_account_8 rfl ?_
    refine v_getc C dX5_account_9 lf_X5_11 hk0 rfl ?_
    refine v_iload_n 1 C dX5_account_12 rfl ?_
    refine v_aaloadK C dX5_account_13 hk0 (by decide) rfl rfl (fun hq1 => ?_)
    refine v_iload_n 2 C dX5_account_14 rfl ?_
    refine v_iaload C dX5_account_15 (row_lt (m := 3) hk0 hq1 rfl) (by decide) rfl ?_
    refine v_goto (tgt := 20) C dX5_account_16 (by decide) ?_
    exact v_iret C M dX5_account_20
-- OpenLines$Tally count(II)V, depth 2
def fX5_count (k0 : Nat) (p1 : Int32) (p2 : Int32) (σ : St) : Option (Unit × St) :=
  (if (fX5_isAccount p1 p2) = 0 then some ((), σ) else gi p1 6 <| gi p2 6 <| gi p2 6 <| lt (wI σ 38 (6 * k0 + p1.toNatClampNeg) p2.toNatClampNeg ((σ.1 38 (6 * k0 + p1.toNatClampNeg) p2.toNatClampNeg) + (nI 1))) fun (σ2 : St) => some ((), σ2))
set_option maxRecDepth 20000 in
theorem kX5_count {X : Cx} (k0 : Nat) (p1 : Int32) (p2 : Int32) (hk0 : k0 < cnt 5) (σ : St) : Kon X 2 yX5_count cX5_count 3 none gV [.ref (adr X 5 k0), .int p1, .int p2] σ (fX5_count k0 p1 p2 σ) := by
  refine konJ (own := RX5) (fun _ => gV) (fun a b => [.ref (a 5 k0), .int p1, .int p2]) (by decide +kernel) rfl (fun _ _ => Nat.le_of_ble_eq_true rfl) (fun Y C M => ?_)
  show V Y gV 0 [(0, .ref (adr Y 5 k0)), (1, .int p1), (2, .int p2)] [] σ (fX5_count k0 p1 p2 σ)
  unfold fX5_count
  refine v_iload_n 1 C dX5_count_0 rfl ?_
  refine v_iload_n 2 C dX5_count_1 rfl ?_
  refine v_cS2p C dX5_count_2 ls_X5_51 (kX5_isAccount p1 p2 _) (by decide) (Nat.le_of_ble_eq_true rfl) ?_
  refine v_if_eq (tgt := 20) C dX5_count_5 (by decide) ?_ ?_
  · skip
    exact v_vret C M dX5_count_20
  · skip
    refine v_aload_n 0 C dX5_count_8 rfl ?_
    refine v_getc C dX5_count_9 lf_X5_11 hk0 rfl ?_
    refine v_iload_n 1 C dX5_count_12 rfl ?_
    refine v_aaloadK C dX5_count_13 hk0 (by decide) rfl rfl (fun hq1 => ?_)
    refine v_iload_n 2 C dX5_count_14 rfl ?_
    refine v_dup2 C dX5_count_15 rfl rfl ?_
    refine v_iaload C dX5_count_16 (row_lt (m := 3) hk0 hq1 rfl) (by decide) rfl ?_
    refine v_iconst C dX5_count_17 kc_iconst_1 ?_
    refine v_iadd C dX5_count_18 ?_
    refine v_iastoreL C dX5_count_19 (row_lt (m := 3) hk0 hq1 rfl) (by decide) rfl (fun σ2 => ?_)
    exact v_vret C M dX5_count_20
-- OpenLines$Run hear(II)Z, depth 3
def fX4_hear (k0 : Nat) (p1 : Int32) (p2 : Int32) (σ : St) : Option (Int32 × St) :=
  gd (σ.2.2 4 k0 1 < 6) <| bd (fX2_holds (σ.2.2 4 k0 1) p1 σ) fun (r3 : Int32) (σ2 : St) => (if r3 = 0 then some (0, σ2) else gi p1 6 <| (jn (fun (σ4 : St) => bd (fX5_count k0 p1 (nI 2) σ4) fun _ (σ5 : St) => some (0, σ5)) fun j30 => if 0 < (σ2.1 34 k0 p1.toNatClampNeg) then j30 σ2 else (if (σ2.1 4 k0 3) = p1 then j30 σ2 else gi p1 6 <| lt (wI σ2 34 k0 p1.toNatClampNeg p2) fun (σ6 : St) => gi p1 6 <| lt (wI σ6 35 k0 p1.toNatClampNeg (σ6.1 4 k0 2)) fun (σ7 : St) => some (nI 1, σ7))))
set_option maxRecDepth 20000 in
theorem kX4_hear {X : Cx} (k0 : Nat) (p1 : Int32) (p2 : Int32) (hk0 : k0 < cnt 4) (σ : St) : Kon X 3 yX4_hear cX4_hear 3 (some .boolean) gI [.ref (adr X 4 k0), .int p1, .int p2] σ (fX4_hear k0 p1 p2 σ) := by
  refine konJ (own := RX4) (fun _ => gI) (fun a b => [.ref (a 4 k0), .int p1, .int p2]) (by decide +kernel) rfl (fun _ _ => Nat.le_of_ble_eq_true rfl) (fun Y C M => ?_)
  show V Y gI 0 [(0, .ref (adr Y 4 k0)), (1, .int p1), (2, .int p2)] [] σ (fX4_hear k0 p1 p2 σ)
  unfold fX4_hear
  refine v_aload_n 0 C dX4_hear_0 rfl ?_
  refine v_getr C dX4_hear_1 lf_X4_21 hk0 rfl rfl (fun hq1 => ?_)
  refine v_iload_n 1 C dX4_hear_4 rfl ?_
  refine v_cV1i C dX4_hear_5 lv_X4_133 hq1 (kX2_holds (σ.2.2 4 k0 1) p1 hq1 _) (by decide) (Nat.le_of_ble_eq_true rfl) (fun r3 σ2 => ?_)
  refine v_if_ne (tgt := 13) C dX4_hear_8 (by decide) ?_ ?_
  · skip
    refine v_aload_n 0 C dX4_hear_13 rfl ?_
    refine v_getc C dX4_hear_14 lf_X4_35 hk0 rfl ?_
    refine v_iload_n 1 C dX4_hear_17 rfl ?_
    refine v_iaload C dX4_hear_18 hk0 (by decide) rfl ?_
    refine v_jn (fun j30 => ∀ (σ4 : St), V Y gI 30 [(0, .ref (adr Y 4 k0)), (1, .int p1)] [] σ4 (j30 σ4)) ?_ ?_
    · intro σ4
      refine v_aload_n 0 C dX4_hear_30 rfl ?_
      refine v_getc C dX4_hear_31 lf_X4_12 hk0 rfl ?_
      refine v_iload_n 1 C dX4_hear_34 rfl ?_
      refine v_iconst C dX4_hear_35 kc_iconst_2 ?_
      refine v_cV2v C dX4_hear_36 lv_X4_137 hk0 (kX5_count k0 p1 (nI 2) hk0 _) (by decide) (Nat.le_of_ble_eq_true rfl) (fun _ σ5 => ?_)
      refine v_iconst C dX4_hear_39 kc_iconst_0 ?_
      exact v_zret C M (by decide) dX4_hear_40
    · intro j30 hj30
      refine v_if_gt (tgt := 30) C dX4_hear_19 (by decide) ?_ ?_
      · skip
        exact v_lv (hj30 σ2) [0, 1] rfl
      · skip
        refine v_aload_n 0 C dX4_hear_22 rfl ?_
        refine v_geti C dX4_hear_23 lf_X4_48 hk0 (by decide) ?_
        refine v_iload_n 1 C dX4_hear_26 rfl ?_
        refine v_icmp_ne (tgt := 41) C dX4_hear_27 (by decide) ?_ ?_
        · skip
          refine v_aload_n 0 C dX4_hear_41 rfl ?_
          refine v_getc C dX4_hear_42 lf_X4_35 hk0 rfl ?_
          refine v_iload_n 1 C dX4_hear_45 rfl ?_
          refine v_iload_n 2 C dX4_hear_46 rfl ?_
          refine v_iastoreL C dX4_hear_47 hk0 (by decide) rfl (fun σ6 => ?_)
          refine v_aload_n 0 C dX4_hear_48 rfl ?_
          refine v_getc C dX4_hear_49 lf_X4_38 hk0 rfl ?_
          refine v_iload_n 1 C dX4_hear_52 rfl ?_
          refine v_aload_n 0 C dX4_hear_53 rfl ?_
          refine v_geti C dX4_hear_54 lf_X4_44 hk0 (by decide) ?_
          refine v_iastoreL C dX4_hear_57 hk0 (by decide) rfl (fun σ7 => ?_)
          refine v_iconst C dX4_hear_58 kc_iconst_1 ?_
          exact v_zret C M (by decide) dX4_hear_59
        · skip
          exact v_lv (hj30 σ2) [0, 1] rfl
  · skip
    refine v_iconst C dX4_hear_11 kc_iconst_0 ?_
    exact v_zret C M (by decide) dX4_hear_12
-- OpenLines$Run hearTold()V, depth 4
def LX4_hearTold_2 (k0 : Nat) (ke : St → Option (Unit × St)) : Nat → Int32 → St → Option (Unit × St)
  | 0, _, _ => none
  | n + 1, b1, σ => gd (σ.2.2 4 k0 1 < 6) <| (if (σ.1 2 (σ.2.2 4 k0 1) 4) ≤ b1 then ke σ else (if (nI 12) ≤ b1 then ke σ else gd (σ.2.2 4 k0 1 < 6) <| gi b1 12 <| (jn (fun (σ3 : St) => LX4_hearTold_2 k0 ke n (b1 + nI 1) σ3) fun j58 => if (σ.1 28 (σ.2.2 4 k0 1) b1.toNatClampNeg) = (σ.1 4 k0 2) then gd (σ.2.2 4 k0 1 < 6) <| gi b1 12 <| gd (σ.2.2 4 k0 1 < 6) <| gi b1 12 <| bd (fX4_hear k0 (σ.1 29 (σ.2.2 4 k0 1) b1.toNatClampNeg) (σ.1 30 (σ.2.2 4 k0 1) b1.toNatClampNeg) σ) fun (r7 : Int32) (σ6 : St) => j58 σ6 else j58 σ)))
def fX4_hearTold (k0 : Nat) (σ : St) : Option (Unit × St) :=
  (LX4_hearTold_2 k0 (fun (σ8 : St) => some ((), σ8)) FU 0 σ)
set_option maxRecDepth 20000 in
theorem vLX4_hearTold_2 {Y : Cx} (k0 : Nat) (hk0 : k0 < cnt 4) (C : Ok Y RX4 cX4_hearTold 2 4) (M : OkM Y none) (ke : St → Option (Unit × St)) (hke : ∀ (σ : St), V Y gV 64 [] [] σ (ke σ)) : ∀ (n : Nat) (b1 : Int32) (σ : St), V Y gV 2 [(0, .ref (adr Y 4 k0)), (1, .int b1)] [] σ (LX4_hearTold_2 k0 ke n b1 σ) := by
  intro n
  induction n with
  | zero => intros; exact v_none
  | succ n ih =>
    intro b1 σ
    rw [LX4_hearTold_2]
    refine v_iload_n 1 C dX4_hearTold_2 rfl ?_
    refine v_aload_n 0 C dX4_hearTold_3 rfl ?_
    refine v_getr C dX4_hearTold_4 lf_X4_21 hk0 rfl rfl (fun hq1 => ?_)
    refine v_geti C dX4_hearTold_7 lf_X4_117 hq1 (by decide) ?_
    refine v_icmp_ge (tgt := 64) C dX4_hearTold_10 (by decide) ?_ ?_
    · skip
      exact v_lv (hke σ) [] rfl
    · skip
      refine v_iload_n 1 C dX4_hearTold_13 rfl ?_
      refine v_bipush C dX4_hearTold_14 kc_bipush_12 ?_
      refine v_icmp_ge (tgt := 64) C dX4_hearTold_16 (by decide) ?_ ?_
      · skip
        exact v_lv (hke σ) [] rfl
      · skip
        refine v_aload_n 0 C dX4_hearTold_19 rfl ?_
        refine v_getr C dX4_hearTold_20 lf_X4_21 hk0 rfl rfl (fun hq2 => ?_)
        refine v_getc C dX4_hearTold_23 lf_X4_120 hq2 rfl ?_
        refine v_iload_n 1 C dX4_hearTold_26 rfl ?_
        refine v_iaload C dX4_hearTold_27 hq2 (by decide) rfl ?_
        refine v_aload_n 0 C dX4_hearTold_28 rfl ?_
        refine v_geti C dX4_hearTold_29 lf_X4_44 hk0 (by decide) ?_
        refine v_jn (fun j58 => ∀ (σ3 : St), V Y gV 58 [(0, .ref (adr Y 4 k0)), (1, .int b1)] [] σ3 (j58 σ3)) ?_ ?_
        · intro σ3
          refine v_iinc (lv' := [(1, .int (b1 + nI 1)), (0, .ref (adr Y 4 k0))]) 1 C dX4_hearTold_58 rfl (congrArg (b1 + ·) kc_iconst_1) (by decide) rfl ?_
          refine v_goto (tgt := 2) C dX4_hearTold_61 (by decide) ?_
          exact v_lv (ih (b1 + nI 1) σ3) [1, 0] rfl
        · intro j58 hj58
          refine v_icmp_ne (tgt := 58) C dX4_hearTold_32 (by decide) ?_ ?_
          · skip
            exact v_lv (hj58 σ) [0, 1] rfl
          · skip
            refine v_aload_n 0 C dX4_hearTold_35 rfl ?_
            refine v_aload_n 0 C dX4_hearTold_36 rfl ?_
            refine v_getr C dX4_hearTold_37 lf_X4_21 hk0 rfl rfl (fun hq4 => ?_)
            refine v_getc C dX4_hearTold_40 lf_X4_123 hq4 rfl ?_
            refine v_iload_n 1 C dX4_hearTold_43 rfl ?_
            refine v_iaload C dX4_hearTold_44 hq4 (by decide) rfl ?_
            refine v_aload_n 0 C dX4_hearTold_45 rfl ?_
            refine v_getr C dX4_hearTold_46 lf_X4_21 hk0 rfl rfl (fun hq5 => ?_)
            refine v_getc C dX4_hearTold_49 lf_X4_126 hq5 rfl ?_
            refine v_iload_n 1 C dX4_hearTold_52 rfl ?_
            refine v_iaload C dX4_hearTold_53 hq5 (by decide) rfl ?_
            refine v_cV2i C dX4_hearTold_54 lv_X4_129 hk0 (kX4_hear k0 (σ.1 29 (σ.2.2 4 k0 1) b1.toNatClampNeg) (σ.1 30 (σ.2.2 4 k0 1) b1.toNatClampNeg) hk0 _) (by decide) (Nat.le_of_ble_eq_true rfl) (fun r7 σ6 => ?_)
            refine v_pop C dX4_hearTold_57 rfl ?_
            exact v_lv (hj58 σ6) [0, 1] rfl
set_option maxRecDepth 20000 in
theorem kX4_hearTold {X : Cx} (k0 : Nat) (hk0 : k0 < cnt 4) (σ : St) : Kon X 4 yX4_hearTold cX4_hearTold 2 none gV [.ref (adr X 4 k0)] σ (fX4_hearTold k0 σ) := by
  refine konJ (own := RX4) (fun _ => gV) (fun a b => [.ref (a 4 k0)]) (by decide +kernel) rfl (fun _ _ => Nat.le_of_ble_eq_true rfl) (fun Y C M => ?_)
  show V Y gV 0 [(0, .ref (adr Y 4 k0))] [] σ (fX4_hearTold k0 σ)
  unfold fX4_hearTold
  refine v_iconst C dX4_hearTold_0 kc_iconst_0 ?_
  refine v_istore_n (lv' := [(1, .int 0), (0, .ref (adr Y 4 k0))]) C dX4_hearTold_1 rfl (by decide) rfl ?_
  refine v_lv (vLX4_hearTold_2 _ hk0 C M _ (fun σ8 => ?_) FU _ _) [1, 0] rfl
  exact v_vret C M dX4_hearTold_64
-- OpenLines$Tally putOff(I)V, depth 3
def fX5_putOff (k0 : Nat) (p1 : Int32) (σ : St) : Option (Unit × St) :=
  lt (wI σ 5 k0 4 ((σ.1 5 k0 4) + (nI 1))) fun (σ1 : St) => bd (fX5_count k0 p1 (nI 3) σ1) fun _ (σ2 : St) => some ((), σ2)
set_option maxRecDepth 20000 in
theorem kX5_putOff {X : Cx} (k0 : Nat) (p1 : Int32) (hk0 : k0 < cnt 5) (σ : St) : Kon X 3 yX5_putOff cX5_putOff 2 none gV [.ref (adr X 5 k0), .int p1] σ (fX5_putOff k0 p1 σ) := by
  refine konJ (own := RX5) (fun _ => gV) (fun a b => [.ref (a 5 k0), .int p1]) (by decide +kernel) rfl (fun _ _ => Nat.le_of_ble_eq_true rfl) (fun Y C M => ?_)
  show V Y gV 0 [(0, .ref (adr Y 5 k0)), (1, .int p1)] [] σ (fX5_putOff k0 p1 σ)
  unfold fX5_putOff
  refine v_aload_n 0 C dX5_putOff_0 rfl ?_
  refine v_dup C dX5_putOff_1 rfl ?_
  refine v_geti C dX5_putOff_2 lf_X5_36 hk0 (by decide) ?_
  refine v_iconst C dX5_putOff_5 kc_iconst_1 ?_
  refine v_iadd C dX5_putOff_6 ?_
  refine v_putiL C dX5_putOff_7 lp_X5_36 hk0 (by decide) (fun σ1 => ?_)
  refine v_aload_n 0 C dX5_putOff_10 rfl ?_
  refine v_iload_n 1 C dX5_putOff_11 rfl ?_
  refine v_iconst C dX5_putOff_12 kc_iconst_3 ?_
  refine v_cV2v C dX5_putOff_13 lv_X5_58 hk0 (kX5_count k0 p1 (nI 3) hk0 _) (by decide) (Nat.le_of_ble_eq_true rfl) (fun _ σ2 => ?_)
  exact v_vret C M dX5_putOff_16
-- OpenLines$Run spendTurn(I)V, depth 1
def fX4_spendTurn (k0 : Nat) (p1 : Int32) (σ : St) : Option (Unit × St) :=
  (jn (fun (σ1 : St) => lt (wI σ1 4 k0 8 ((σ1.1 4 k0 8) &&& (((nI 1) <<< (p1 &&& 31)) ^^^ (-1)))) fun (σ2 : St) => some ((), σ2)) fun j37 => if (fX7_has (σ.1 4 k0 8) p1) = 0 then lt (wI σ 5 k0 0 ((σ.1 5 k0 0) + (nI 1))) fun (σ3 : St) => gd (σ3.2.2 4 k0 1 < 6) <| bd (fX2_sets (σ3.2.2 4 k0 1) σ3) fun (r6 : Int32) (σ5 : St) => lt (wI σ5 4 k0 8 (r6 - (nI 1))) fun (σ7 : St) => j37 σ7 else j37 σ)
set_option maxRecDepth 20000 in
theorem kX4_spendTurn {X : Cx} (k0 : Nat) (p1 : Int32) (hk0 : k0 < cnt 4) (σ : St) : Kon X 1 yX4_spendTurn cX4_spendTurn 2 none gV [.ref (adr X 4 k0), .int p1] σ (fX4_spendTurn k0 p1 σ) := by
  refine konJ (own := RX4) (fun _ => gV) (fun a b => [.ref (a 4 k0), .int p1]) (by decide +kernel) rfl (fun _ _ => Nat.le_of_ble_eq_true rfl) (fun Y C M => ?_)
  show V Y gV 0 [(0, .ref (adr Y 4 k0)), (1, .int p1)] [] σ (fX4_spendTurn k0 p1 σ)
  unfold fX4_spendTurn
  refine v_aload_n 0 C dX4_spendTurn_0 rfl ?_
  refine v_geti C dX4_spendTurn_1 lf_X4_67 hk0 (by decide) ?_
  refine v_iload_n 1 C dX4_spendTurn_4 rfl ?_
  refine v_cN2p C dX4_spendTurn_5 ln_X4_160 (kX7_has (σ.1 4 k0 8) p1 _) (by decide) (Nat.le_of_ble_eq_true rfl) ?_
  refine v_jn (fun j37 => ∀ (σ1 : St), V Y gV 37 [(0, .ref (adr Y 4 k0)), (1, .int p1)] [] σ1 (j37 σ1)) ?_ ?_
  · intro σ1
    refine v_aload_n 0 C dX4_spendTurn_37 rfl ?_
    refine v_dup C dX4_spendTurn_38 rfl ?_
    refine v_geti C dX4_spendTurn_39 lf_X4_67 hk0 (by decide) ?_
    refine v_iconst C dX4_spendTurn_42 kc_iconst_1 ?_
    refine v_iload_n 1 C dX4_spendTurn_43 rfl ?_
    refine v_ishl C dX4_spendTurn_44 ?_
    refine v_iconst C dX4_spendTurn_45 kc_iconst_m1 ?_
    refine v_ixor C dX4_spendTurn_46 ?_
    refine v_iand C dX4_spendTurn_47 ?_
    refine v_putiL C dX4_spendTurn_48 lp_X4_67 hk0 (by decide) (fun σ2 => ?_)
    exact v_vret C M dX4_spendTurn_51
  · intro j37 hj37
    refine v_if_ne (tgt := 37) C dX4_spendTurn_8 (by decide) ?_ ?_
    · skip
      exact v_lv (hj37 σ) [0, 1] rfl
    · skip
      refine v_aload_n 0 C dX4_spendTurn_11 rfl ?_
      refine v_getc C dX4_spendTurn_12 lf_X4_12 hk0 rfl ?_
      refine v_dup C dX4_spendTurn_15 rfl ?_
      refine v_geti C dX4_spendTurn_16 lf_X4_163 hk0 (by decide) ?_
      refine v_iconst C dX4_spendTurn_19 kc_iconst_1 ?_
      refine v_iadd C dX4_spendTurn_20 ?_
      refine v_putiL C dX4_spendTurn_21 lp_X4_163 hk0 (by decide) (fun σ3 => ?_)
      refine v_aload_n 0 C dX4_spendTurn_24 rfl ?_
      refine v_aload_n 0 C dX4_spendTurn_25 rfl ?_
      refine v_getr C dX4_spendTurn_26 lf_X4_21 hk0 rfl rfl (fun hq4 => ?_)
      refine v_cV0i C dX4_spendTurn_29 lv_X4_63 hq4 (kX2_sets (σ3.2.2 4 k0 1) hq4 _) (by decide) (Nat.le_of_ble_eq_true rfl) (fun r6 σ5 => ?_)
      refine v_iconst C dX4_spendTurn_32 kc_iconst_1 ?_
      refine v_isub C dX4_spendTurn_33 ?_
      refine v_putiL C dX4_spendTurn_34 lp_X4_67 hk0 (by decide) (fun σ7 => ?_)
      exact v_lv (hj37 σ7) [0, 1] rfl
-- OpenLines$Tally enter(IILOpenLines$Arbiter;)V, depth 1
def fX5_enter (k0 : Nat) (p1 : Int32) (p2 : Int32) (σ : St) : Option (Unit × St) :=
  bd (fJ9_floorMod_7cf53 (σ.1 5 k0 1) (nI 16) σ) fun (r2 : Int32) (σ1 : St) => gi r2 16 <| gi 0 6 <| lt (wI σ1 40 (16 * k0 + r2.toNatClampNeg) (0 : Int32).toNatClampNeg p1) fun (σ4 : St) => gi (nI 1) 6 <| lt (wI σ4 40 (16 * k0 + r2.toNatClampNeg) (nI 1).toNatClampNeg p2) fun (σ5 : St) => gi (nI 2) 6 <| lt (wI σ5 40 (16 * k0 + r2.toNatClampNeg) (nI 2).toNatClampNeg (σ5.1 0 0 1)) fun (σ6 : St) => gi (nI 3) 6 <| lt (wI σ6 40 (16 * k0 + r2.toNatClampNeg) (nI 3).toNatClampNeg (σ6.1 0 0 2)) fun (σ7 : St) => gi (nI 4) 6 <| lt (wI σ7 40 (16 * k0 + r2.toNatClampNeg) (nI 4).toNatClampNeg (σ7.1 0 0 4)) fun (σ8 : St) => gi (nI 5) 6 <| lt (wI σ8 40 (16 * k0 + r2.toNatClampNeg) (nI 5).toNatClampNeg (σ8.1 0 0 3)) fun (σ9 : St) => lt (wI σ9 5 k0 1 ((σ9.1 5 k0 1) + (nI 1))) fun (σ10 : St) => lt (wI σ10 5 k0 3 ((σ10.1 5 k0 3) + (σ10.1 0 0 3))) fun (σ11 : St) => (if (σ11.1 0 0 4) = (-2) then lt (wI σ11 5 k0 2 ((σ11.1 5 k0 2) + (nI 1))) fun (σ12 : St) => some ((), σ12) else some ((), σ11))
set_option maxRecDepth 20000 in
theorem kX5_enter {X : Cx} (k0 : Nat) (p1 : Int32) (p2 : Int32) (hk0 : k0 < cnt 5) (σ : St) : Kon X 1 yX5_enter cX5_enter 5 none gV [.ref (adr X 5 k0), .int p1, .int p2, .ref (adr X 0 0)] σ (fX5_enter k0 p1 p2 σ) := by
  refine konJ (own := RX5) (fun _ => gV) (fun a b => [.ref (a 5 k0), .int p1, .int p2, .ref (a 0 0)]) (by decide +kernel) rfl (fun _ _ => Nat.le_of_ble_eq_true rfl) (fun Y C M => ?_)
  show V Y gV 0 [(0, .ref (adr Y 5 k0)), (1, .int p1), (2, .int p2), (3, .ref (adr Y 0 0))] [] σ (fX5_enter k0 p1 p2 σ)
  unfold fX5_enter
  refine v_aload_n 0 C dX5_enter_0 rfl ?_
  refine v_getc C dX5_enter_1 lf_X5_16 hk0 rfl ?_
  refine v_aload_n 0 C dX5_enter_4 rfl ?_
  refine v_geti C dX5_enter_5 lf_X5_27 hk0 (by decide) ?_
  refine v_bipush C dX5_enter_8 kc_bipush_16 ?_
  refine v_cS2i C dX5_enter_10 ls_X5_68 (kJ9_floorMod_7cf53 (σ.1 5 k0 1) (nI 16) _) (by decide) (Nat.le_of_ble_eq_true rfl) (fun r2 σ1 => ?_)
  refine v_aaloadK C dX5_enter_13 hk0 (by decide) rfl rfl (fun hq3 => ?_)
  refine v_astore (lv' := [(4, .ref (adr Y 40 (16 * k0 + r2.toNatClampNeg))), (0, .ref (adr Y 5 k0)), (1, .int p1), (2, .int p2), (3, .ref (adr Y 0 0))]) C dX5_enter_14 (by decide) rfl ?_
  refine v_aload 0 C dX5_enter_16 rfl ?_
  refine v_iconst C dX5_enter_18 kc_iconst_0 ?_
  refine v_iload_n 2 C dX5_enter_19 rfl ?_
  refine v_iastoreL C dX5_enter_20 (row_lt (m := 3) hk0 hq3 rfl) (by decide) rfl (fun σ4 => ?_)
  refine v_aload 0 C dX5_enter_21 rfl ?_
  refine v_iconst C dX5_enter_23 kc_iconst_1 ?_
  refine v_iload_n 3 C dX5_enter_24 rfl ?_
  refine v_iastoreL C dX5_enter_25 (row_lt (m := 3) hk0 hq3 rfl) (by decide) rfl (fun σ5 => ?_)
  refine v_aload 0 C dX5_enter_26 rfl ?_
  refine v_iconst C dX5_enter_28 kc_iconst_2 ?_
  refine v_aload_n 4 C dX5_enter_29 rfl ?_
  refine v_geti C dX5_enter_30 lf_X5_71 ck_0 (by decide) ?_
  refine v_iastoreL C dX5_enter_33 (row_lt (m := 3) hk0 hq3 rfl) (by decide) rfl (fun σ6 => ?_)
  refine v_aload 0 C dX5_enter_34 rfl ?_
  refine v_iconst C dX5_enter_36 kc_iconst_3 ?_
  refine v_aload_n 4 C dX5_enter_37 rfl ?_
  refine v_geti C dX5_enter_38 lf_X5_76 ck_0 (by decide) ?_
  refine v_iastoreL C dX5_enter_41 (row_lt (m := 3) hk0 hq3 rfl) (by decide) rfl (fun σ7 => ?_)
  refine v_aload 0 C dX5_enter_42 rfl ?_
  refine v_iconst C dX5_enter_44 kc_iconst_4 ?_
  refine v_aload_n 4 C dX5_enter_45 rfl ?_
  refine v_geti C dX5_enter_46 lf_X5_79 ck_0 (by decide) ?_
  refine v_iastoreL C dX5_enter_49 (row_lt (m := 3) hk0 hq3 rfl) (by decide) rfl (fun σ8 => ?_)
  refine v_aload 0 C dX5_enter_50 rfl ?_
  refine v_iconst C dX5_enter_52 kc_iconst_5 ?_
  refine v_aload_n 4 C dX5_enter_53 rfl ?_
  refine v_geti C dX5_enter_54 lf_X5_82 ck_0 (by decide) ?_
  refine v_iastoreL C dX5_enter_57 (row_lt (m := 3) hk0 hq3 rfl) (by decide) rfl (fun σ9 => ?_)
  refine v_aload_n 1 C dX5_enter_58 rfl ?_
  refine v_dup C dX5_enter_59 rfl ?_
  refine v_geti C dX5_enter_60 lf_X5_27 hk0 (by decide) ?_
  refine v_iconst C dX5_enter_63 kc_iconst_1 ?_
  refine v_iadd C dX5_enter_64 ?_
  refine v_putiL C dX5_enter_65 lp_X5_27 hk0 (by decide) (fun σ10 => ?_)
  refine v_aload_n 1 C dX5_enter_68 rfl ?_
  refine v_dup C dX5_enter_69 rfl ?_
  refine v_geti C dX5_enter_70 lf_X5_33 hk0 (by decide) ?_
  refine v_aload_n 4 C dX5_enter_73 rfl ?_
  refine v_geti C dX5_enter_74 lf_X5_82 ck_0 (by decide) ?_
  refine v_iadd C dX5_enter_77 ?_
  refine v_putiL C dX5_enter_78 lp_X5_33 hk0 (by decide) (fun σ11 => ?_)
  refine v_aload_n 4 C dX5_enter_81 rfl ?_
  refine v_geti C dX5_enter_82 lf_X5_79 ck_0 (by decide) ?_
  refine v_bipush C dX5_enter_85 kc_bipush_m2 ?_
  refine v_icmp_ne (tgt := 100) C dX5_enter_87 (by decide) ?_ ?_
  · skip
    exact v_vret C M dX5_enter_100
  · skip
    refine v_aload_n 1 C dX5_enter_90 rfl ?_
    refine v_dup C dX5_enter_91 rfl ?_
    refine v_geti C dX5_enter_92 lf_X5_30 hk0 (by decide) ?_
    refine v_iconst C dX5_enter_95 kc_iconst_1 ?_
    refine v_iadd C dX5_enter_96 ?_
    refine v_putiL C dX5_enter_97 lp_X5_30 hk0 (by decide) (fun σ12 => ?_)
    exact v_vret C M dX5_enter_100
-- OpenLines$Run finish(LOpenLines$Arbiter;)V, depth 4
def fX4_finish (k0 : Nat) (σ : St) : Option (Unit × St) :=
  lt (σ.1 4 k0 7) fun (x1 : Int32) => lt (wI σ 4 k0 6 (-2)) fun (σ2 : St) => lt (wI σ2 4 k0 7 0) fun (σ3 : St) => bd (fX0_decide k0 32 k0 x1 σ3) fun _ (σ4 : St) => lt (σ4.1 0 0 4) fun (x5 : Int32) => gd (σ4.2.2 4 k0 1 < 6) <| bd (fX2_holds (σ4.2.2 4 k0 1) x5 σ4) fun (r8 : Int32) (σ7 : St) => (jn (fun (σ9 : St) => lt (wI σ9 4 k0 5 x5) fun (σ10 : St) => bd (fX5_enter k0 (σ10.1 4 k0 2) x1 σ10) fun _ (σ11 : St) => some ((), σ11)) fun j84 => if r8 = 0 then j84 σ7 else (jn (fun (σ12 : St) => bd (fX4_spendTurn k0 x5 σ12) fun _ (σ13 : St) => bd (fX5_count k0 x5 (nI 5) σ13) fun _ (σ14 : St) => j84 σ14) fun j70 => if (σ7.1 4 k0 5) = (-2) then j70 σ7 else (if (σ7.1 4 k0 5) = x5 then j70 σ7 else bd (fX5_putOff k0 (σ7.1 4 k0 5) σ7) fun _ (σ15 : St) => j70 σ15)))
set_option maxRecDepth 20000 in
theorem kX4_finish {X : Cx} (k0 : Nat) (hk0 : k0 < cnt 4) (σ : St) : Kon X 4 yX4_finish cX4_finish 4 none gV [.ref (adr X 4 k0), .ref (adr X 0 0)] σ (fX4_finish k0 σ) := by
  refine konJ (own := RX4) (fun _ => gV) (fun a b => [.ref (a 4 k0), .ref (a 0 0)]) (by decide +kernel) rfl (fun _ _ => Nat.le_of_ble_eq_true rfl) (fun Y C M => ?_)
  show V Y gV 0 [(0, .ref (adr Y 4 k0)), (1, .ref (adr Y 0 0))] [] σ (fX4_finish k0 σ)
  unfold fX4_finish
  refine v_aload_n 0 C dX4_finish_0 rfl ?_
  refine v_geti C dX4_finish_1 lf_X4_60 hk0 (by decide) ?_
  refine v_istore_nL (lv0 := [(0, .ref (adr Y 4 k0)), (1, .ref (adr Y 0 0))]) C dX4_finish_4 rfl (by decide) rfl (fun x1 => ?_)
  refine v_aload_n 1 C dX4_finish_5 rfl ?_
  refine v_bipush C dX4_finish_6 kc_bipush_m2 ?_
  refine v_putiL C dX4_finish_8 lp_X4_57 hk0 (by decide) (fun σ2 => ?_)
  refine v_aload_n 1 C dX4_finish_11 rfl ?_
  refine v_iconst C dX4_finish_12 kc_iconst_0 ?_
  refine v_putiL C dX4_finish_13 lp_X4_60 hk0 (by decide) (fun σ3 => ?_)
  refine v_aload_n 2 C dX4_finish_16 rfl ?_
  refine v_aload_n 1 C dX4_finish_17 rfl ?_
  refine v_aload_n 1 C dX4_finish_18 rfl ?_
  refine v_getc C dX4_finish_19 lf_X4_29 hk0 rfl ?_
  refine v_iload_n 0 C dX4_finish_22 rfl ?_
  refine v_cV3v C dX4_finish_23 lv_X4_140 ck_0 (kX0_decide k0 32 k0 x1 hk0 (by decide) hk0 _) (by decide) (Nat.le_of_ble_eq_true rfl) (fun _ σ4 => ?_)
  refine v_aload_n 2 C dX4_finish_26 rfl ?_
  refine v_geti C dX4_finish_27 lf_X4_146 ck_0 (by decide) ?_
  refine v_istore_nL (lv0 := [(2, .int x1), (0, .ref (adr Y 4 k0)), (1, .ref (adr Y 0 0))]) C dX4_finish_30 rfl (by decide) rfl (fun x5 => ?_)
  refine v_aload_n 2 C dX4_finish_31 rfl ?_
  refine v_getr C dX4_finish_32 lf_X4_21 hk0 rfl rfl (fun hq6 => ?_)
  refine v_iload_n 0 C dX4_finish_35 rfl ?_
  refine v_cV1i C dX4_finish_36 lv_X4_133 hq6 (kX2_holds (σ4.2.2 4 k0 1) x5 hq6 _) (by decide) (Nat.le_of_ble_eq_true rfl) (fun r8 σ7 => ?_)
  refine v_jn (fun j84 => ∀ (σ9 : St), V Y gV 84 [(0, .ref (adr Y 4 k0)), (1, .ref (adr Y 0 0)), (2, .int x1), (3, .int x5)] [] σ9 (j84 σ9)) ?_ ?_
  · intro σ9
    refine v_aload_n 0 C dX4_finish_84 rfl ?_
    refine v_iload_n 3 C dX4_finish_85 rfl ?_
    refine v_putiL C dX4_finish_86 lp_X4_54 hk0 (by decide) (fun σ10 => ?_)
    refine v_aload_n 0 C dX4_finish_89 rfl ?_
    refine v_getc C dX4_finish_90 lf_X4_12 hk0 rfl ?_
    refine v_aload_n 0 C dX4_finish_93 rfl ?_
    refine v_geti C dX4_finish_94 lf_X4_44 hk0 (by decide) ?_
    refine v_iload_n 2 C dX4_finish_97 rfl ?_
    refine v_aload_n 1 C dX4_finish_98 rfl ?_
    refine v_cV3v C dX4_finish_99 lv_X4_156 hk0 (kX5_enter k0 (σ10.1 4 k0 2) x1 hk0 _) (by decide) (Nat.le_of_ble_eq_true rfl) (fun _ σ11 => ?_)
    exact v_vret C M dX4_finish_102
  · intro j84 hj84
    refine v_if_eq (tgt := 84) C dX4_finish_39 (by decide) ?_ ?_
    · skip
      exact v_lv (hj84 σ7) [2, 3, 1, 0] rfl
    · skip
      refine v_aload_n 2 C dX4_finish_42 rfl ?_
      refine v_geti C dX4_finish_43 lf_X4_54 hk0 (by decide) ?_
      refine v_bipush C dX4_finish_46 kc_bipush_m2 ?_
      refine v_jn (fun j70 => ∀ (σ12 : St), V Y gV 70 [(0, .ref (adr Y 4 k0)), (1, .ref (adr Y 0 0)), (2, .int x1), (3, .int x5)] [] σ12 (j70 σ12)) ?_ ?_
      · intro σ12
        refine v_aload_n 0 C dX4_finish_70 rfl ?_
        refine v_iload_n 3 C dX4_finish_71 rfl ?_
        refine v_cV1v C dX4_finish_72 lv_X4_153 hk0 (kX4_spendTurn k0 x5 hk0 _) (by decide) (Nat.le_of_ble_eq_true rfl) (fun _ σ13 => ?_)
        refine v_aload_n 0 C dX4_finish_75 rfl ?_
        refine v_getc C dX4_finish_76 lf_X4_12 hk0 rfl ?_
        refine v_iload_n 3 C dX4_finish_79 rfl ?_
        refine v_iconst C dX4_finish_80 kc_iconst_5 ?_
        refine v_cV2v C dX4_finish_81 lv_X4_137 hk0 (kX5_count k0 x5 (nI 5) hk0 _) (by decide) (Nat.le_of_ble_eq_true rfl) (fun _ σ14 => ?_)
        exact v_lv (hj84 σ14) [0, 1, 2, 3] rfl
      · intro j70 hj70
        refine v_icmp_eq (tgt := 70) C dX4_finish_48 (by decide) ?_ ?_
        · skip
          exact v_lv (hj70 σ7) [2, 3, 1, 0] rfl
        · skip
          refine v_aload_n 2 C dX4_finish_51 rfl ?_
          refine v_geti C dX4_finish_52 lf_X4_54 hk0 (by decide) ?_
          refine v_iload_n 0 C dX4_finish_55 rfl ?_
          refine v_icmp_eq (tgt := 70) C dX4_finish_56 (by decide) ?_ ?_
          · skip
            exact v_lv (hj70 σ7) [2, 3, 1, 0] rfl
          · skip
            refine v_aload_n 2 C dX4_finish_59 rfl ?_
            refine v_getc C dX4_finish_60 lf_X4_12 hk0 rfl ?_
            refine v_aload_n 2 C dX4_finish_63 rfl ?_
            refine v_geti C dX4_finish_64 lf_X4_54 hk0 (by decide) ?_
            refine v_cV1v C dX4_finish_67 lv_X4_149 hk0 (kX5_putOff k0 (σ7.1 4 k0 5) hk0 _) (by decide) (Nat.le_of_ble_eq_true rfl) (fun _ σ15 => ?_)
            exact v_lv (hj70 σ15) [2, 3, 1, 0] rfl
-- OpenLines$Tally enthrone(II)V, depth 3
def fX5_enthrone (k0 : Nat) (p1 : Int32) (p2 : Int32) (σ : St) : Option (Unit × St) :=
  (if (fX7_isBelow p1 (nI 6)) = 0 then some ((), σ) else bd (fX5_count k0 p1 0 σ) fun _ (σ1 : St) => gi p1 6 <| gi p1 6 <| gi (nI 4) 6 <| gi (nI 4) 6 <| lt (wI σ1 38 (6 * k0 + p1.toNatClampNeg) (nI 4).toNatClampNeg (if (σ1.1 38 (6 * k0 + p1.toNatClampNeg) (nI 4).toNatClampNeg) < p2 then p2 else (σ1.1 38 (6 * k0 + p1.toNatClampNeg) (nI 4).toNatClampNeg))) fun (σ4 : St) => some ((), σ4))
set_option maxRecDepth 20000 in
theorem kX5_enthrone {X : Cx} (k0 : Nat) (p1 : Int32) (p2 : Int32) (hk0 : k0 < cnt 5) (σ : St) : Kon X 3 yX5_enthrone cX5_enthrone 3 none gV [.ref (adr X 5 k0), .int p1, .int p2] σ (fX5_enthrone k0 p1 p2 σ) := by
  refine konJ (own := RX5) (fun _ => gV) (fun a b => [.ref (a 5 k0), .int p1, .int p2]) (by decide +kernel) rfl (fun _ _ => Nat.le_of_ble_eq_true rfl) (fun Y C M => ?_)
  show V Y gV 0 [(0, .ref (adr Y 5 k0)), (1, .int p1), (2, .int p2)] [] σ (fX5_enthrone k0 p1 p2 σ)
  unfold fX5_enthrone
  refine v_iload_n 1 C dX5_enthrone_0 rfl ?_
  refine v_bipush C dX5_enthrone_1 kc_bipush_6 ?_
  refine v_cN2p C dX5_enthrone_3 ln_X5_55 (kX7_isBelow p1 (nI 6) _) (by decide) (Nat.le_of_ble_eq_true rfl) ?_
  refine v_if_eq (tgt := 35) C dX5_enthrone_6 (by decide) ?_ ?_
  · skip
    exact v_vret C M dX5_enthrone_35
  · skip
    refine v_aload_n 0 C dX5_enthrone_9 rfl ?_
    refine v_iload_n 1 C dX5_enthrone_10 rfl ?_
    refine v_iconst C dX5_enthrone_11 kc_iconst_0 ?_
    refine v_cV2v C dX5_enthrone_12 lv_X5_58 hk0 (kX5_count k0 p1 0 hk0 _) (by decide) (Nat.le_of_ble_eq_true rfl) (fun _ σ1 => ?_)
    refine v_aload_n 0 C dX5_enthrone_15 rfl ?_
    refine v_getc C dX5_enthrone_16 lf_X5_11 hk0 rfl ?_
    refine v_iload_n 1 C dX5_enthrone_19 rfl ?_
    refine v_aaloadK C dX5_enthrone_20 hk0 (by decide) rfl rfl (fun hq2 => ?_)
    refine v_iconst C dX5_enthrone_21 kc_iconst_4 ?_
    refine v_aload_n 0 C dX5_enthrone_22 rfl ?_
    refine v_getc C dX5_enthrone_23 lf_X5_11 hk0 rfl ?_
    refine v_iload_n 1 C dX5_enthrone_26 rfl ?_
    refine v_aaloadK C dX5_enthrone_27 hk0 (by decide) rfl rfl (fun hq3 => ?_)
    refine v_iconst C dX5_enthrone_28 kc_iconst_4 ?_
    refine v_iaload C dX5_enthrone_29 (row_lt (m := 3) hk0 hq3 rfl) (by decide) rfl ?_
    refine v_iload_n 2 C dX5_enthrone_30 rfl ?_
    refine v_mmax C dX5_enthrone_31 mt_X5_62 wSt_max wMath wCd_max (by decide) (Nat.le_of_ble_eq_true rfl) ?_
    refine v_iastoreL C dX5_enthrone_34 (row_lt (m := 3) hk0 hq2 rfl) (by decide) rfl (fun σ4 => ?_)
    exact v_vret C M dX5_enthrone_35
-- OpenLines$Run handOver()V, depth 4
def fX4_handOver (k0 : Nat) (σ : St) : Option (Unit × St) :=
  lt (σ.1 4 k0 5) fun (x1 : Int32) => lt (wI σ 4 k0 5 (-2)) fun (σ2 : St) => gd (σ2.2.2 4 k0 1 < 6) <| bd (fX2_holds (σ2.2.2 4 k0 1) x1 σ2) fun (r5 : Int32) (σ4 : St) => (if r5 = 0 then some ((), σ4) else lt (wI σ4 4 k0 3 x1) fun (σ6 : St) => gi x1 6 <| lt (wI σ6 4 k0 4 ((σ6.1 4 k0 2) + (σ6.1 34 k0 x1.toNatClampNeg))) fun (σ7 : St) => gi x1 6 <| bd (fX5_enthrone k0 x1 ((σ7.1 4 k0 2) - (σ7.1 35 k0 x1.toNatClampNeg)) σ7) fun _ (σ8 : St) => gi x1 6 <| lt (wI σ8 34 k0 x1.toNatClampNeg 0) fun (σ9 : St) => some ((), σ9))
set_option maxRecDepth 20000 in
theorem kX4_handOver {X : Cx} (k0 : Nat) (hk0 : k0 < cnt 4) (σ : St) : Kon X 4 yX4_handOver cX4_handOver 2 none gV [.ref (adr X 4 k0)] σ (fX4_handOver k0 σ) := by
  refine konJ (own := RX4) (fun _ => gV) (fun a b => [.ref (a 4 k0)]) (by decide +kernel) rfl (fun _ _ => Nat.le_of_ble_eq_true rfl) (fun Y C M => ?_)
  show V Y gV 0 [(0, .ref (adr Y 4 k0))] [] σ (fX4_handOver k0 σ)
  unfold fX4_handOver
  refine v_aload_n 0 C dX4_handOver_0 rfl ?_
  refine v_geti C dX4_handOver_1 lf_X4_54 hk0 (by decide) ?_
  refine v_istore_nL (lv0 := [(0, .ref (adr Y 4 k0))]) C dX4_handOver_4 rfl (by decide) rfl (fun x1 => ?_)
  refine v_aload_n 1 C dX4_handOver_5 rfl ?_
  refine v_bipush C dX4_handOver_6 kc_bipush_m2 ?_
  refine v_putiL C dX4_handOver_8 lp_X4_54 hk0 (by decide) (fun σ2 => ?_)
  refine v_aload_n 1 C dX4_handOver_11 rfl ?_
  refine v_getr C dX4_handOver_12 lf_X4_21 hk0 rfl rfl (fun hq3 => ?_)
  refine v_iload_n 0 C dX4_handOver_15 rfl ?_
  refine v_cV1i C dX4_handOver_16 lv_X4_133 hq3 (kX2_holds (σ2.2.2 4 k0 1) x1 hq3 _) (by decide) (Nat.le_of_ble_eq_true rfl) (fun r5 σ4 => ?_)
  refine v_if_eq (tgt := 68) C dX4_handOver_19 (by decide) ?_ ?_
  · skip
    exact v_vret C M dX4_handOver_68
  · skip
    refine v_aload_n 1 C dX4_handOver_22 rfl ?_
    refine v_iload_n 0 C dX4_handOver_23 rfl ?_
    refine v_putiL C dX4_handOver_24 lp_X4_48 hk0 (by decide) (fun σ6 => ?_)
    refine v_aload_n 1 C dX4_handOver_27 rfl ?_
    refine v_aload_n 1 C dX4_handOver_28 rfl ?_
    refine v_geti C dX4_handOver_29 lf_X4_44 hk0 (by decide) ?_
    refine v_aload_n 1 C dX4_handOver_32 rfl ?_
    refine v_getc C dX4_handOver_33 lf_X4_35 hk0 rfl ?_
    refine v_iload_n 0 C dX4_handOver_36 rfl ?_
    refine v_iaload C dX4_handOver_37 hk0 (by decide) rfl ?_
    refine v_iadd C dX4_handOver_38 ?_
    refine v_putiL C dX4_handOver_39 lp_X4_51 hk0 (by decide) (fun σ7 => ?_)
    refine v_aload_n 1 C dX4_handOver_42 rfl ?_
    refine v_getc C dX4_handOver_43 lf_X4_12 hk0 rfl ?_
    refine v_iload_n 0 C dX4_handOver_46 rfl ?_
    refine v_aload_n 1 C dX4_handOver_47 rfl ?_
    refine v_geti C dX4_handOver_48 lf_X4_44 hk0 (by decide) ?_
    refine v_aload_n 1 C dX4_handOver_51 rfl ?_
    refine v_getc C dX4_handOver_52 lf_X4_38 hk0 rfl ?_
    refine v_iload_n 0 C dX4_handOver_55 rfl ?_
    refine v_iaload C dX4_handOver_56 hk0 (by decide) rfl ?_
    refine v_isub C dX4_handOver_57 ?_
    refine v_cV2v C dX4_handOver_58 lv_X4_166 hk0 (kX5_enthrone k0 x1 ((σ7.1 4 k0 2) - (σ7.1 35 k0 x1.toNatClampNeg)) hk0 _) (by decide) (Nat.le_of_ble_eq_true rfl) (fun _ σ8 => ?_)
    refine v_aload_n 1 C dX4_handOver_61 rfl ?_
    refine v_getc C dX4_handOver_62 lf_X4_35 hk0 rfl ?_
    refine v_iload_n 0 C dX4_handOver_65 rfl ?_
    refine v_iconst C dX4_handOver_66 kc_iconst_0 ?_
    refine v_iastoreL C dX4_handOver_67 hk0 (by decide) rfl (fun σ9 => ?_)
    exact v_vret C M dX4_handOver_68
-- OpenLines$Run askers()I, depth 0
def LX4_askers_4 (k0 : Nat) (ke : Int32 → St → Option (Int32 × St)) : Nat → Int32 → Int32 → St → Option (Int32 × St)
  | 0, _, _, _ => none
  | n + 1, b1, b2, σ => gd (σ.2.2 4 k0 1 < 6) <| (if (σ.1 2 (σ.2.2 4 k0 1) 3) ≤ b2 then ke b1 σ else gi b2 6 <| (jn (fun (x3 : Int32) (σ2 : St) => LX4_askers_4 k0 ke n x3 (b2 + nI 1) σ2) fun j30 => if (σ.1 34 k0 b2.toNatClampNeg) ≤ 0 then j30 b1 σ else lt (b1 ||| ((nI 1) <<< (b2 &&& 31))) fun (x4 : Int32) => j30 x4 σ))
def fX4_askers (k0 : Nat) (σ : St) : Option (Int32 × St) :=
  (LX4_askers_4 k0 (fun (x5 : Int32) (σ6 : St) => some (x5, σ6)) FU 0 0 σ)
set_option maxRecDepth 20000 in
theorem vLX4_askers_4 {Y : Cx} (k0 : Nat) (hk0 : k0 < cnt 4) (C : Ok Y RX4 cX4_askers 3 0) (M : OkM Y (some .int)) (ke : Int32 → St → Option (Int32 × St)) (hke : ∀ (b1 : Int32) (σ : St), V Y gI 36 [(1, .int b1)] [] σ (ke b1 σ)) : ∀ (n : Nat) (b1 : Int32) (b2 : Int32) (σ : St), V Y gI 4 [(0, .ref (adr Y 4 k0)), (1, .int b1), (2, .int b2)] [] σ (LX4_askers_4 k0 ke n b1 b2 σ) := by
  intro n
  induction n with
  | zero => intros; exact v_none
  | succ n ih =>
    intro b1 b2 σ
    rw [LX4_askers_4]
    refine v_iload_n 2 C dX4_askers_4 rfl ?_
    refine v_aload_n 0 C dX4_askers_5 rfl ?_
    refine v_getr C dX4_askers_6 lf_X4_21 hk0 rfl rfl (fun hq1 => ?_)
    refine v_geti C dX4_askers_9 lf_X4_176 hq1 (by decide) ?_
    refine v_icmp_ge (tgt := 36) C dX4_askers_12 (by decide) ?_ ?_
    · skip
      exact v_lv (hke b1 σ) [1] rfl
    · skip
      refine v_aload_n 0 C dX4_askers_15 rfl ?_
      refine v_getc C dX4_askers_16 lf_X4_35 hk0 rfl ?_
      refine v_iload_n 2 C dX4_askers_19 rfl ?_
      refine v_iaload C dX4_askers_20 hk0 (by decide) rfl ?_
      refine v_jn (fun j30 => ∀ (x3 : Int32) (σ2 : St), V Y gI 30 [(0, .ref (adr Y 4 k0)), (1, .int x3), (2, .int b2)] [] σ2 (j30 x3 σ2)) ?_ ?_
      · intro x3 σ2
        refine v_iinc (lv' := [(2, .int (b2 + nI 1)), (0, .ref (adr Y 4 k0)), (1, .int x3)]) 2 C dX4_askers_30 rfl (congrArg (b2 + ·) kc_iconst_1) (by decide) rfl ?_
        refine v_goto (tgt := 4) C dX4_askers_33 (by decide) ?_
        exact v_lv (ih x3 (b2 + nI 1) σ2) [1, 2, 0] rfl
      · intro j30 hj30
        refine v_if_le (tgt := 30) C dX4_askers_21 (by decide) ?_ ?_
        · skip
          exact v_lv (hj30 b1 σ) [0, 1, 2] rfl
        · skip
          refine v_iload_n 1 C dX4_askers_24 rfl ?_
          refine v_iconst C dX4_askers_25 kc_iconst_1 ?_
          refine v_iload_n 2 C dX4_askers_26 rfl ?_
          refine v_ishl C dX4_askers_27 ?_
          refine v_ior C dX4_askers_28 ?_
          refine v_istore_nL (lv0 := [(0, .ref (adr Y 4 k0)), (2, .int b2)]) C dX4_askers_29 rfl (by decide) rfl (fun x4 => ?_)
          exact v_lv (hj30 x4 σ) [1, 0, 2] rfl
set_option maxRecDepth 20000 in
theorem kX4_askers {X : Cx} (k0 : Nat) (hk0 : k0 < cnt 4) (σ : St) : Kon X 0 yX4_askers cX4_askers 3 (some .int) gI [.ref (adr X 4 k0)] σ (fX4_askers k0 σ) := by
  refine konJ (own := RX4) (fun _ => gI) (fun a b => [.ref (a 4 k0)]) (by decide +kernel) rfl (fun _ _ => Nat.le_of_ble_eq_true rfl) (fun Y C M => ?_)
  show V Y gI 0 [(0, .ref (adr Y 4 k0))] [] σ (fX4_askers k0 σ)
  unfold fX4_askers
  refine v_iconst C dX4_askers_0 kc_iconst_0 ?_
  refine v_istore_n (lv' := [(1, .int 0), (0, .ref (adr Y 4 k0))]) C dX4_askers_1 rfl (by decide) rfl ?_
  refine v_iconst C dX4_askers_2 kc_iconst_0 ?_
  refine v_istore_n (lv' := [(2, .int 0), (1, .int 0), (0, .ref (adr Y 4 k0))]) C dX4_askers_3 rfl (by decide) rfl ?_
  refine v_lv (vLX4_askers_4 _ hk0 C M _ (fun x5 σ6 => ?_) FU _ _ _) [2, 1, 0] rfl
  refine v_iload_n 0 C dX4_askers_36 rfl ?_
  exact v_iret C M dX4_askers_37
-- OpenLines$Run waitersOf(I)I, depth 0
def LX4_waitersOf_18 (k0 : Nat) (a1 : Int32) (a3 : Int32) (ke : Int32 → St → Option (Int32 × St)) : Nat → Int32 → Int32 → St → Option (Int32 × St)
  | 0, _, _, _ => none
  | n + 1, b2, b4, σ => gd (σ.2.2 4 k0 1 < 6) <| (if (σ.1 2 (σ.2.2 4 k0 1) 3) ≤ b4 then ke b2 σ else gi b4 6 <| lt (σ.1 36 k0 b4.toNatClampNeg) fun (x3 : Int32) => (jn (fun (x5 : Int32) (σ4 : St) => LX4_waitersOf_18 k0 a1 a3 ke n x5 (b4 + nI 1) σ4) fun j66 => jn (fun (σ6 : St) => lt (b2 ||| ((nI 1) <<< (b4 &&& 31))) fun (x7 : Int32) => j66 x7 σ6) fun j59 => if x3 = a1 then j59 σ else (if x3 < 0 then j66 b2 σ else (if ((b2 >>> (x3 &&& 31)) &&& (nI 1)) = 0 then j66 b2 σ else j59 σ))))
def LX4_waitersOf_4 (k0 : Nat) (a1 : Int32) (ke : Int32 → St → Option (Int32 × St)) : Nat → Int32 → Int32 → St → Option (Int32 × St)
  | 0, _, _, _ => none
  | n + 1, b2, b3, σ => gd (σ.2.2 4 k0 1 < 6) <| (if (σ.1 2 (σ.2.2 4 k0 1) 3) ≤ b3 then ke b2 σ else (LX4_waitersOf_18 k0 a1 b3 (fun (x8 : Int32) (σ9 : St) => LX4_waitersOf_4 k0 a1 ke n x8 (b3 + nI 1) σ9) FU b2 0 σ))
def fX4_waitersOf (k0 : Nat) (p1 : Int32) (σ : St) : Option (Int32 × St) :=
  (LX4_waitersOf_4 k0 p1 (fun (x10 : Int32) (σ11 : St) => some (x10, σ11)) FU 0 0 σ)
set_option maxRecDepth 20000 in
theorem vLX4_waitersOf_18 {Y : Cx} (k0 : Nat) (a1 : Int32) (a3 : Int32) (hk0 : k0 < cnt 4) (C : Ok Y RX4 cX4_waitersOf 6 0) (M : OkM Y (some .int)) (ke : Int32 → St → Option (Int32 × St)) (hke : ∀ (b2 : Int32) (σ : St), V Y gI 72 [(0, .ref (adr Y 4 k0)), (1, .int a1), (2, .int b2), (3, .int a3)] [] σ (ke b2 σ)) : ∀ (n : Nat) (b2 : Int32) (b4 : Int32) (σ : St), V Y gI 18 [(0, .ref (adr Y 4 k0)), (1, .int a1), (2, .int b2), (3, .int a3), (4, .int b4)] [] σ (LX4_waitersOf_18 k0 a1 a3 ke n b2 b4 σ) := by
  intro n
  induction n with
  | zero => intros; exact v_none
  | succ n ih =>
    intro b2 b4 σ
    rw [LX4_waitersOf_18]
    refine v_iload 4 C dX4_waitersOf_18 rfl ?_
    refine v_aload_n 0 C dX4_waitersOf_20 rfl ?_
    refine v_getr C dX4_waitersOf_21 lf_X4_21 hk0 rfl rfl (fun hq2 => ?_)
    refine v_geti C dX4_waitersOf_24 lf_X4_176 hq2 (by decide) ?_
    refine v_icmp_ge (tgt := 72) C dX4_waitersOf_27 (by decide) ?_ ?_
    · skip
      exact v_lv (hke b2 σ) [0, 1, 2, 3] rfl
    · skip
      refine v_aload_n 0 C dX4_waitersOf_30 rfl ?_
      refine v_getc C dX4_waitersOf_31 lf_X4_41 hk0 rfl ?_
      refine v_iload 4 C dX4_waitersOf_34 rfl ?_
      refine v_iaload C dX4_waitersOf_36 hk0 (by decide) rfl ?_
      refine v_istoreL (lv0 := [(0, .ref (adr Y 4 k0)), (1, .int a1), (2, .int b2), (3, .int a3), (4, .int b4)]) C dX4_waitersOf_37 (by decide) rfl (fun x3 => ?_)
      refine v_iload 0 C dX4_waitersOf_39 rfl ?_
      refine v_iload_n 2 C dX4_waitersOf_41 rfl ?_
      refine v_jn (fun j66 => ∀ (x5 : Int32) (σ4 : St), V Y gI 66 [(0, .ref (adr Y 4 k0)), (1, .int a1), (2, .int x5), (3, .int a3), (4, .int b4)] [] σ4 (j66 x5 σ4)) ?_ ?_
      · intro x5 σ4
        refine v_iinc (lv' := [(4, .int (b4 + nI 1)), (0, .ref (adr Y 4 k0)), (1, .int a1), (2, .int x5), (3, .int a3)]) 4 C dX4_waitersOf_66 rfl (congrArg (b4 + ·) kc_iconst_1) (by decide) rfl ?_
        refine v_goto (tgt := 18) C dX4_waitersOf_69 (by decide) ?_
        exact v_lv (ih x5 (b4 + nI 1) σ4) [1, 2, 3, 4, 0] rfl
      · intro j66 hj66
        refine v_jn (fun j59 => ∀ (σ6 : St), V Y gI 59 [(0, .ref (adr Y 4 k0)), (1, .int a1), (2, .int b2), (3, .int a3), (4, .int b4)] [] σ6 (j59 σ6)) ?_ ?_
        · intro σ6
          refine v_iload_n 2 C dX4_waitersOf_59 rfl ?_
          refine v_iconst C dX4_waitersOf_60 kc_iconst_1 ?_
          refine v_iload 4 C dX4_waitersOf_61 rfl ?_
          refine v_ishl C dX4_waitersOf_63 ?_
          refine v_ior C dX4_waitersOf_64 ?_
          refine v_istore_nL (lv0 := [(0, .ref (adr Y 4 k0)), (1, .int a1), (3, .int a3), (4, .int b4)]) C dX4_waitersOf_65 rfl (by decide) rfl (fun x7 => ?_)
          exact v_lv (hj66 x7 σ6) [1, 2, 0, 3, 4] rfl
        · intro j59 hj59
          refine v_icmp_eq (tgt := 59) C dX4_waitersOf_42 (by decide) ?_ ?_
          · skip
            exact v_lv (hj59 σ) [1, 2, 3, 4, 5] rfl
          · skip
            refine v_iload 0 C dX4_waitersOf_45 rfl ?_
            refine v_if_lt (tgt := 66) C dX4_waitersOf_47 (by decide) ?_ ?_
            · skip
              exact v_lv (hj66 b2 σ) [1, 2, 3, 4, 5] rfl
            · skip
              refine v_iload_n 3 C dX4_waitersOf_50 rfl ?_
              refine v_iload 0 C dX4_waitersOf_51 rfl ?_
              refine v_ishr C dX4_waitersOf_53 ?_
              refine v_iconst C dX4_waitersOf_54 kc_iconst_1 ?_
              refine v_iand C dX4_waitersOf_55 ?_
              refine v_if_eq (tgt := 66) C dX4_waitersOf_56 (by decide) ?_ ?_
              · skip
                exact v_lv (hj66 b2 σ) [1, 2, 3, 4, 5] rfl
              · skip
                exact v_lv (hj59 σ) [1, 2, 3, 4, 5] rfl
set_option maxRecDepth 20000 in
theorem vLX4_waitersOf_4 {Y : Cx} (k0 : Nat) (a1 : Int32) (hk0 : k0 < cnt 4) (C : Ok Y RX4 cX4_waitersOf 6 0) (M : OkM Y (some .int)) (ke : Int32 → St → Option (Int32 × St)) (hke : ∀ (b2 : Int32) (σ : St), V Y gI 78 [(2, .int b2)] [] σ (ke b2 σ)) : ∀ (n : Nat) (b2 : Int32) (b3 : Int32) (σ : St), V Y gI 4 [(0, .ref (adr Y 4 k0)), (1, .int a1), (2, .int b2), (3, .int b3)] [] σ (LX4_waitersOf_4 k0 a1 ke n b2 b3 σ) := by
  intro n
  induction n with
  | zero => intros; exact v_none
  | succ n ih =>
    intro b2 b3 σ
    rw [LX4_waitersOf_4]
    refine v_iload_n 3 C dX4_waitersOf_4 rfl ?_
    refine v_aload_n 0 C dX4_waitersOf_5 rfl ?_
    refine v_getr C dX4_waitersOf_6 lf_X4_21 hk0 rfl rfl (fun hq1 => ?_)
    refine v_geti C dX4_waitersOf_9 lf_X4_176 hq1 (by decide) ?_
    refine v_icmp_ge (tgt := 78) C dX4_waitersOf_12 (by decide) ?_ ?_
    · skip
      exact v_lv (hke b2 σ) [2] rfl
    · skip
      refine v_iconst C dX4_waitersOf_15 kc_iconst_0 ?_
      refine v_istore (lv' := [(4, .int 0), (0, .ref (adr Y 4 k0)), (1, .int a1), (2, .int b2), (3, .int b3)]) C dX4_waitersOf_16 (by decide) rfl ?_
      refine v_lv (vLX4_waitersOf_18 _ _ _ hk0 C M _ (fun x8 σ9 => ?_) FU _ _ _) [1, 2, 3, 4, 0] rfl
      refine v_iinc (lv' := [(3, .int (b3 + nI 1)), (0, .ref (adr Y 4 k0)), (1, .int a1), (2, .int x8)]) 3 C dX4_waitersOf_72 rfl (congrArg (b3 + ·) kc_iconst_1) (by decide) rfl ?_
      refine v_goto (tgt := 4) C dX4_waitersOf_75 (by decide) ?_
      exact v_lv (ih x8 (b3 + nI 1) σ9) [1, 2, 3, 0] rfl
set_option maxRecDepth 20000 in
theorem kX4_waitersOf {X : Cx} (k0 : Nat) (p1 : Int32) (hk0 : k0 < cnt 4) (σ : St) : Kon X 0 yX4_waitersOf cX4_waitersOf 6 (some .int) gI [.ref (adr X 4 k0), .int p1] σ (fX4_waitersOf k0 p1 σ) := by
  refine konJ (own := RX4) (fun _ => gI) (fun a b => [.ref (a 4 k0), .int p1]) (by decide +kernel) rfl (fun _ _ => Nat.le_of_ble_eq_true rfl) (fun Y C M => ?_)
  show V Y gI 0 [(0, .ref (adr Y 4 k0)), (1, .int p1)] [] σ (fX4_waitersOf k0 p1 σ)
  unfold fX4_waitersOf
  refine v_iconst C dX4_waitersOf_0 kc_iconst_0 ?_
  refine v_istore_n (lv' := [(2, .int 0), (0, .ref (adr Y 4 k0)), (1, .int p1)]) C dX4_waitersOf_1 rfl (by decide) rfl ?_
  refine v_iconst C dX4_waitersOf_2 kc_iconst_0 ?_
  refine v_istore_n (lv' := [(3, .int 0), (2, .int 0), (0, .ref (adr Y 4 k0)), (1, .int p1)]) C dX4_waitersOf_3 rfl (by decide) rfl ?_
  refine v_lv (vLX4_waitersOf_4 _ _ hk0 C M _ (fun x10 σ11 => ?_) FU _ _ _) [2, 3, 1, 0] rfl
  refine v_iload_n 0 C dX4_waitersOf_78 rfl ?_
  exact v_iret C M dX4_waitersOf_79
-- OpenLines$Run rankOfDay(I)I, depth 1
def LX4_rankOfDay_15 (k0 : Nat) (a3 : Int32) (ke : Int32 → St → Option (Int32 × St)) : Nat → Int32 → Int32 → St → Option (Int32 × St)
  | 0, _, _, _ => none
  | n + 1, b2, b4, σ => gd (σ.2.2 4 k0 1 < 6) <| (if (σ.1 2 (σ.2.2 4 k0 1) 3) ≤ b4 then ke b2 σ else (jn (fun (x6 : Int32) (σ5 : St) => LX4_rankOfDay_15 k0 a3 ke n x6 (b4 + nI 1) σ5) fun j51 => if (fX7_has a3 b4) = 0 then j51 b2 σ else gd (σ.2.2 4 k0 1 < 6) <| gi b4 6 <| lt (if b2 < (σ.1 26 (σ.2.2 4 k0 1) b4.toNatClampNeg) then (σ.1 26 (σ.2.2 4 k0 1) b4.toNatClampNeg) else b2) fun (x8 : Int32) => j51 x8 σ))
def fX4_rankOfDay (k0 : Nat) (p1 : Int32) (σ : St) : Option (Int32 × St) :=
  bd (fX4_waitersOf k0 p1 σ) fun (r2 : Int32) (σ1 : St) => lt (((nI 1) <<< (p1 &&& 31)) ||| r2) fun (x3 : Int32) => (LX4_rankOfDay_15 k0 x3 (fun (x9 : Int32) (σ10 : St) => some (x9, σ10)) FU 0 0 σ1)
set_option maxRecDepth 20000 in
theorem vLX4_rankOfDay_15 {Y : Cx} (k0 : Nat) (a3 : Int32) (hk0 : k0 < cnt 4) (C : Ok Y RX4 cX4_rankOfDay 5 1) (M : OkM Y (some .int)) (ke : Int32 → St → Option (Int32 × St)) (hke : ∀ (b2 : Int32) (σ : St), V Y gI 57 [(2, .int b2)] [] σ (ke b2 σ)) : ∀ (n : Nat) (b2 : Int32) (b4 : Int32) (σ : St), V Y gI 15 [(0, .ref (adr Y 4 k0)), (2, .int b2), (3, .int a3), (4, .int b4)] [] σ (LX4_rankOfDay_15 k0 a3 ke n b2 b4 σ) := by
  intro n
  induction n with
  | zero => intros; exact v_none
  | succ n ih =>
    intro b2 b4 σ
    rw [LX4_rankOfDay_15]
    refine v_iload 3 C dX4_rankOfDay_15 rfl ?_
    refine v_aload_n 0 C dX4_rankOfDay_17 rfl ?_
    refine v_getr C dX4_rankOfDay_18 lf_X4_21 hk0 rfl rfl (fun hq4 => ?_)
    refine v_geti C dX4_rankOfDay_21 lf_X4_176 hq4 (by decide) ?_
    refine v_icmp_ge (tgt := 57) C dX4_rankOfDay_24 (by decide) ?_ ?_
    · skip
      exact v_lv (hke b2 σ) [1] rfl
    · skip
      refine v_iload_n 2 C dX4_rankOfDay_27 rfl ?_
      refine v_iload 3 C dX4_rankOfDay_28 rfl ?_
      refine v_cN2p C dX4_rankOfDay_30 ln_X4_160 (kX7_has a3 b4 _) (by decide) (Nat.le_of_ble_eq_true rfl) ?_
      refine v_jn (fun j51 => ∀ (x6 : Int32) (σ5 : St), V Y gI 51 [(0, .ref (adr Y 4 k0)), (2, .int x6), (3, .int a3), (4, .int b4)] [] σ5 (j51 x6 σ5)) ?_ ?_
      · intro x6 σ5
        refine v_iinc (lv' := [(4, .int (b4 + nI 1)), (0, .ref (adr Y 4 k0)), (2, .int x6), (3, .int a3)]) 3 C dX4_rankOfDay_51 rfl (congrArg (b4 + ·) kc_iconst_1) (by decide) rfl ?_
        refine v_goto (tgt := 15) C dX4_rankOfDay_54 (by decide) ?_
        exact v_lv (ih x6 (b4 + nI 1) σ5) [1, 2, 3, 0] rfl
      · intro j51 hj51
        refine v_if_eq (tgt := 51) C dX4_rankOfDay_33 (by decide) ?_ ?_
        · skip
          exact v_lv (hj51 b2 σ) [0, 1, 2, 3] rfl
        · skip
          refine v_iload_n 1 C dX4_rankOfDay_36 rfl ?_
          refine v_aload_n 0 C dX4_rankOfDay_37 rfl ?_
          refine v_getr C dX4_rankOfDay_38 lf_X4_21 hk0 rfl rfl (fun hq7 => ?_)
          refine v_getc C dX4_rankOfDay_41 lf_X4_189 hq7 rfl ?_
          refine v_iload 3 C dX4_rankOfDay_44 rfl ?_
          refine v_iaload C dX4_rankOfDay_46 hq7 (by decide) rfl ?_
          refine v_mmax C dX4_rankOfDay_47 mt_X4_192 wSt_max wMath wCd_max (by decide) (Nat.le_of_ble_eq_true rfl) ?_
          refine v_istore_nL (lv0 := [(0, .ref (adr Y 4 k0)), (3, .int a3), (4, .int b4)]) C dX4_rankOfDay_50 rfl (by decide) rfl (fun x8 => ?_)
          exact v_lv (hj51 x8 σ) [1, 0, 2, 3] rfl
set_option maxRecDepth 20000 in
theorem kX4_rankOfDay {X : Cx} (k0 : Nat) (p1 : Int32) (hk0 : k0 < cnt 4) (σ : St) : Kon X 1 yX4_rankOfDay cX4_rankOfDay 5 (some .int) gI [.ref (adr X 4 k0), .int p1] σ (fX4_rankOfDay k0 p1 σ) := by
  refine konJ (own := RX4) (fun _ => gI) (fun a b => [.ref (a 4 k0), .int p1]) (by decide +kernel) rfl (fun _ _ => Nat.le_of_ble_eq_true rfl) (fun Y C M => ?_)
  show V Y gI 0 [(0, .ref (adr Y 4 k0)), (1, .int p1)] [] σ (fX4_rankOfDay k0 p1 σ)
  unfold fX4_rankOfDay
  refine v_iconst C dX4_rankOfDay_0 kc_iconst_0 ?_
  refine v_istore_n (lv' := [(2, .int 0), (0, .ref (adr Y 4 k0)), (1, .int p1)]) C dX4_rankOfDay_1 rfl (by decide) rfl ?_
  refine v_iconst C dX4_rankOfDay_2 kc_iconst_1 ?_
  refine v_iload_n 2 C dX4_rankOfDay_3 rfl ?_
  refine v_ishl C dX4_rankOfDay_4 ?_
  refine v_aload_n 1 C dX4_rankOfDay_5 rfl ?_
  refine v_iload_n 2 C dX4_rankOfDay_6 rfl ?_
  refine v_cV1i C dX4_rankOfDay_7 lv_X4_186 hk0 (kX4_waitersOf k0 p1 hk0 _) (by decide) (Nat.le_of_ble_eq_true rfl) (fun r2 σ1 => ?_)
  refine v_ior C dX4_rankOfDay_10 ?_
  refine v_istore_nL (lv0 := [(2, .int 0), (0, .ref (adr Y 4 k0)), (1, .int p1)]) C dX4_rankOfDay_11 rfl (by decide) rfl (fun x3 => ?_)
  refine v_iconst C dX4_rankOfDay_12 kc_iconst_0 ?_
  refine v_istore (lv' := [(4, .int 0), (3, .int x3), (2, .int 0), (0, .ref (adr Y 4 k0)), (1, .int p1)]) C dX4_rankOfDay_13 (by decide) rfl ?_
  refine v_lv (vLX4_rankOfDay_15 _ _ hk0 C M _ (fun x9 σ10 => ?_) FU _ _ _) [3, 2, 1, 0] rfl
  refine v_iload_n 0 C dX4_rankOfDay_57 rfl ?_
  exact v_iret C M dX4_rankOfDay_58
-- OpenLines$Run isContested()Z, depth 2
def LX4_isContested_33 (k0 : Nat) (a1 : Int32) (ke : St → Option (Int32 × St)) : Nat → Int32 → St → Option (Int32 × St)
  | 0, _, _ => none
  | n + 1, b2, σ => gd (σ.2.2 4 k0 1 < 6) <| (if (σ.1 2 (σ.2.2 4 k0 1) 3) ≤ b2 then ke σ else gi b2 6 <| (jn (fun (σ4 : St) => LX4_isContested_33 k0 a1 ke n (b2 + nI 1) σ4) fun j64 => if (σ.1 34 k0 b2.toNatClampNeg) ≤ 0 then j64 σ else bd (fX4_rankOfDay k0 b2 σ) fun (r6 : Int32) (σ5 : St) => (if r6 ≤ a1 then j64 σ5 else some (nI 1, σ5))))
def fX4_isContested (k0 : Nat) (σ : St) : Option (Int32 × St) :=
  (if (σ.1 4 k0 5) = (-2) then bd (fX4_askers k0 σ) fun (r9 : Int32) (σ8 : St) => rz (if r9 = 0 then 0 else (nI 1)) σ8 else bd (fX4_rankOfDay k0 (σ.1 4 k0 5) σ) fun (r2 : Int32) (σ1 : St) => (LX4_isContested_33 k0 r2 (fun (σ7 : St) => some (0, σ7)) FU 0 σ1))
set_option maxRecDepth 20000 in
theorem vLX4_isContested_33 {Y : Cx} (k0 : Nat) (a1 : Int32) (hk0 : k0 < cnt 4) (C : Ok Y RX4 cX4_isContested 3 2) (M : OkM Y (some .boolean)) (ke : St → Option (Int32 × St)) (hke : ∀ (σ : St), V Y gI 70 [] [] σ (ke σ)) : ∀ (n : Nat) (b2 : Int32) (σ : St), V Y gI 33 [(0, .ref (adr Y 4 k0)), (1, .int a1), (2, .int b2)] [] σ (LX4_isContested_33 k0 a1 ke n b2 σ) := by
  intro n
  induction n with
  | zero => intros; exact v_none
  | succ n ih =>
    intro b2 σ
    rw [LX4_isContested_33]
    refine v_iload_n 2 C dX4_isContested_33 rfl ?_
    refine v_aload_n 0 C dX4_isContested_34 rfl ?_
    refine v_getr C dX4_isContested_35 lf_X4_21 hk0 rfl rfl (fun hq3 => ?_)
    refine v_geti C dX4_isContested_38 lf_X4_176 hq3 (by decide) ?_
    refine v_icmp_ge (tgt := 70) C dX4_isContested_41 (by decide) ?_ ?_
    · skip
      exact v_lv (hke σ) [] rfl
    · skip
      refine v_aload_n 0 C dX4_isContested_44 rfl ?_
      refine v_getc C dX4_isContested_45 lf_X4_35 hk0 rfl ?_
      refine v_iload_n 2 C dX4_isContested_48 rfl ?_
      refine v_iaload C dX4_isContested_49 hk0 (by decide) rfl ?_
      refine v_jn (fun j64 => ∀ (σ4 : St), V Y gI 64 [(0, .ref (adr Y 4 k0)), (1, .int a1), (2, .int b2)] [] σ4 (j64 σ4)) ?_ ?_
      · intro σ4
        refine v_iinc (lv' := [(2, .int (b2 + nI 1)), (0, .ref (adr Y 4 k0)), (1, .int a1)]) 2 C dX4_isContested_64 rfl (congrArg (b2 + ·) kc_iconst_1) (by decide) rfl ?_
        refine v_goto (tgt := 33) C dX4_isContested_67 (by decide) ?_
        exact v_lv (ih (b2 + nI 1) σ4) [1, 2, 0] rfl
      · intro j64 hj64
        refine v_if_le (tgt := 64) C dX4_isContested_50 (by decide) ?_ ?_
        · skip
          exact v_lv (hj64 σ) [0, 1, 2] rfl
        · skip
          refine v_aload_n 0 C dX4_isContested_53 rfl ?_
          refine v_iload_n 2 C dX4_isContested_54 rfl ?_
          refine v_cV1i C dX4_isContested_55 lv_X4_172 hk0 (kX4_rankOfDay k0 b2 hk0 _) (by decide) (Nat.le_of_ble_eq_true rfl) (fun r6 σ5 => ?_)
          refine v_iload_n 1 C dX4_isContested_58 rfl ?_
          refine v_icmp_le (tgt := 64) C dX4_isContested_59 (by decide) ?_ ?_
          · skip
            exact v_lv (hj64 σ5) [0, 1, 2] rfl
          · skip
            refine v_iconst C dX4_isContested_62 kc_iconst_1 ?_
            exact v_zret C M (by decide) dX4_isContested_63
set_option maxRecDepth 20000 in
theorem kX4_isContested {X : Cx} (k0 : Nat) (hk0 : k0 < cnt 4) (σ : St) : Kon X 2 yX4_isContested cX4_isContested 3 (some .boolean) gI [.ref (adr X 4 k0)] σ (fX4_isContested k0 σ) := by
  refine konJ (own := RX4) (fun _ => gI) (fun a b => [.ref (a 4 k0)]) (by decide +kernel) rfl (fun _ _ => Nat.le_of_ble_eq_true rfl) (fun Y C M => ?_)
  show V Y gI 0 [(0, .ref (adr Y 4 k0))] [] σ (fX4_isContested k0 σ)
  unfold fX4_isContested
  refine v_aload_n 0 C dX4_isContested_0 rfl ?_
  refine v_geti C dX4_isContested_1 lf_X4_54 hk0 (by decide) ?_
  refine v_bipush C dX4_isContested_4 kc_bipush_m2 ?_
  refine v_icmp_ne (tgt := 22) C dX4_isContested_6 (by decide) ?_ ?_
  · skip
    refine v_aload_n 0 C dX4_isContested_22 rfl ?_
    refine v_aload_n 0 C dX4_isContested_23 rfl ?_
    refine v_geti C dX4_isContested_24 lf_X4_54 hk0 (by decide) ?_
    refine v_cV1i C dX4_isContested_27 lv_X4_172 hk0 (kX4_rankOfDay k0 (σ.1 4 k0 5) hk0 _) (by decide) (Nat.le_of_ble_eq_true rfl) (fun r2 σ1 => ?_)
    refine v_istore_n (lv' := [(1, .int r2), (0, .ref (adr Y 4 k0))]) C dX4_isContested_30 rfl (by decide) rfl ?_
    refine v_iconst C dX4_isContested_31 kc_iconst_0 ?_
    refine v_istore_n (lv' := [(2, .int 0), (1, .int r2), (0, .ref (adr Y 4 k0))]) C dX4_isContested_32 rfl (by decide) rfl ?_
    refine v_lv (vLX4_isContested_33 _ _ hk0 C M _ (fun σ7 => ?_) FU _ _) [2, 1, 0] rfl
    refine v_iconst C dX4_isContested_70 kc_iconst_0 ?_
    exact v_zret C M (by decide) dX4_isContested_71
  · skip
    refine v_aload_n 0 C dX4_isContested_9 rfl ?_
    refine v_cV0i C dX4_isContested_10 lv_X4_169 hk0 (kX4_askers k0 hk0 _) (by decide) (Nat.le_of_ble_eq_true rfl) (fun r9 σ8 => ?_)
    refine v_cut (pcJ := 21) (lv := [(0, .ref (adr Y 4 k0))]) (st := .int (if r9 = 0 then 0 else (nI 1)) :: []) ?_ (fun hj10 => ?_)
    rotate_left
    · skip
      refine v_if_eq_b (tgt := 20) C dX4_isContested_13 (by decide) (fun h11 => ?_) (fun h11 => ?_)
      · have hj12 := v_jpos h11 hj10
        refine v_iconst C dX4_isContested_20 kc_iconst_0 ?_
        exact hj12
      · have hj12 := v_jneg h11 hj10
        refine v_iconst C dX4_isContested_16 kc_iconst_1 ?_
        refine v_goto (tgt := 21) C dX4_isContested_17 (by decide) ?_
        exact hj12
    exact v_zretg C M dX4_isContested_21
-- OpenLines$Run rankWords()[I, depth 2
def LX4_rankWords_2 (k0 : Nat) (ke : St → Option (Unit × St)) : Nat → Int32 → St → Option (Unit × St)
  | 0, _, _ => none
  | n + 1, b1, σ => gd (σ.2.2 4 k0 1 < 6) <| (if (σ.1 2 (σ.2.2 4 k0 1) 3) ≤ b1 then ke σ else (if (nI 6) ≤ b1 then ke σ else bd (fX4_rankOfDay k0 b1 σ) fun (r3 : Int32) (σ2 : St) => bd (fX7_odd ((r3 <<< ((nI 3) &&& 31)) ||| ((((σ2.1 4 k0 8) >>> (b1 &&& 31)) &&& (nI 1)) <<< ((nI 2) &&& 31))) σ2) fun (r5 : Int32) (σ4 : St) => gi b1 6 <| lt (wI σ4 31 k0 b1.toNatClampNeg r5) fun (σ6 : St) => LX4_rankWords_2 k0 ke n (b1 + nI 1) σ6))
def fX4_rankWords (k0 : Nat) (σ : St) : Option (Unit × St) :=
  (LX4_rankWords_2 k0 (fun (σ7 : St) => some ((), σ7)) FU 0 σ)
set_option maxRecDepth 20000 in
theorem vLX4_rankWords_2 {Y : Cx} (k0 : Nat) (hk0 : k0 < cnt 4) (C : Ok Y RX4 cX4_rankWords 2 2) (M : OkM Y (some (.array .int))) (ke : St → Option (Unit × St)) (hke : ∀ (σ : St), V Y (fun _ => some (.ref (adr Y 31 k0))) 52 [(0, .ref (adr Y 4 k0))] [] σ (ke σ)) : ∀ (n : Nat) (b1 : Int32) (σ : St), V Y (fun _ => some (.ref (adr Y 31 k0))) 2 [(0, .ref (adr Y 4 k0)), (1, .int b1)] [] σ (LX4_rankWords_2 k0 ke n b1 σ) := by
  intro n
  induction n with
  | zero => intros; exact v_none
  | succ n ih =>
    intro b1 σ
    rw [LX4_rankWords_2]
    refine v_iload_n 1 C dX4_rankWords_2 rfl ?_
    refine v_aload_n 0 C dX4_rankWords_3 rfl ?_
    refine v_getr C dX4_rankWords_4 lf_X4_21 hk0 rfl rfl (fun hq1 => ?_)
    refine v_geti C dX4_rankWords_7 lf_X4_176 hq1 (by decide) ?_
    refine v_icmp_ge (tgt := 52) C dX4_rankWords_10 (by decide) ?_ ?_
    · skip
      exact v_lv (hke σ) [0] rfl
    · skip
      refine v_iload_n 1 C dX4_rankWords_13 rfl ?_
      refine v_bipush C dX4_rankWords_14 kc_bipush_6 ?_
      refine v_icmp_ge (tgt := 52) C dX4_rankWords_16 (by decide) ?_ ?_
      · skip
        exact v_lv (hke σ) [0] rfl
      · skip
        refine v_aload_n 0 C dX4_rankWords_19 rfl ?_
        refine v_getc C dX4_rankWords_20 lf_X4_25 hk0 rfl ?_
        refine v_iload_n 1 C dX4_rankWords_23 rfl ?_
        refine v_aload_n 0 C dX4_rankWords_24 rfl ?_
        refine v_iload_n 1 C dX4_rankWords_25 rfl ?_
        refine v_cV1i C dX4_rankWords_26 lv_X4_172 hk0 (kX4_rankOfDay k0 b1 hk0 _) (by decide) (Nat.le_of_ble_eq_true rfl) (fun r3 σ2 => ?_)
        refine v_iconst C dX4_rankWords_29 kc_iconst_3 ?_
        refine v_ishl C dX4_rankWords_30 ?_
        refine v_aload_n 0 C dX4_rankWords_31 rfl ?_
        refine v_geti C dX4_rankWords_32 lf_X4_67 hk0 (by decide) ?_
        refine v_iload_n 1 C dX4_rankWords_35 rfl ?_
        refine v_ishr C dX4_rankWords_36 ?_
        refine v_iconst C dX4_rankWords_37 kc_iconst_1 ?_
        refine v_iand C dX4_rankWords_38 ?_
        refine v_iconst C dX4_rankWords_39 kc_iconst_2 ?_
        refine v_ishl C dX4_rankWords_40 ?_
        refine v_ior C dX4_rankWords_41 ?_
        refine v_cN1i C dX4_rankWords_42 ln_X4_197 (kX7_odd ((r3 <<< ((nI 3) &&& 31)) ||| ((((σ2.1 4 k0 8) >>> (b1 &&& 31)) &&& (nI 1)) <<< ((nI 2) &&& 31))) _) (by decide) (Nat.le_of_ble_eq_true rfl) (fun r5 σ4 => ?_)
        refine v_iastoreL C dX4_rankWords_45 hk0 (by decide) rfl (fun σ6 => ?_)
        refine v_iinc (lv' := [(1, .int (b1 + nI 1)), (0, .ref (adr Y 4 k0))]) 1 C dX4_rankWords_46 rfl (congrArg (b1 + ·) kc_iconst_1) (by decide) rfl ?_
        refine v_goto (tgt := 2) C dX4_rankWords_49 (by decide) ?_
        exact v_lv (ih (b1 + nI 1) σ6) [1, 0] rfl
set_option maxRecDepth 20000 in
theorem kX4_rankWords {X : Cx} (k0 : Nat) (hk0 : k0 < cnt 4) (σ : St) : Kon X 2 yX4_rankWords cX4_rankWords 2 (some (.array .int)) (fun _ => some (.ref (adr X 31 k0))) [.ref (adr X 4 k0)] σ (fX4_rankWords k0 σ) := by
  refine konJ (own := RX4) (fun a _ => some (.ref (a 31 k0))) (fun a b => [.ref (a 4 k0)]) (by decide +kernel) rfl (fun _ _ => Nat.le_of_ble_eq_true rfl) (fun Y C M => ?_)
  show V Y (fun _ => some (.ref (adr Y 31 k0))) 0 [(0, .ref (adr Y 4 k0))] [] σ (fX4_rankWords k0 σ)
  unfold fX4_rankWords
  refine v_iconst C dX4_rankWords_0 kc_iconst_0 ?_
  refine v_istore_n (lv' := [(1, .int 0), (0, .ref (adr Y 4 k0))]) C dX4_rankWords_1 rfl (by decide) rfl ?_
  refine v_lv (vLX4_rankWords_2 _ hk0 C M _ (fun σ7 => ?_) FU _ _) [1, 0] rfl
  refine v_aload_n 0 C dX4_rankWords_52 rfl ?_
  refine v_getc C dX4_rankWords_53 lf_X4_25 hk0 rfl ?_
  exact v_aretU C M (by first | exact Or.inl ⟨_, rfl⟩ | exact Or.inr ⟨_, rfl⟩) dX4_rankWords_56
-- OpenLines$Run begin()V, depth 3
def fX4_begin (k0 : Nat) (σ : St) : Option (Unit × St) :=
  bd (fX4_askers k0 σ) fun (r2 : Int32) (σ1 : St) => lt (wI σ1 4 k0 7 r2) fun (σ3 : St) => gd (σ3.2.2 4 k0 1 < 6) <| lt (wI σ3 4 k0 6 ((σ3.1 4 k0 2) + ((nI 2) * (σ3.1 2 (σ3.2.2 4 k0 1) 2)))) fun (σ5 : St) => bd (fX4_rankWords k0 σ5) fun _ (σ6 : St) => gd (¬ (0 : Int32) < 0 ∧ ¬ (0 : Int32) < 0 ∧ ¬ ((nI 6) : Int32) < 0 ∧ (0 : Int32).toNatClampNeg + (nI 6).toNatClampNeg ≤ 6 ∧ (0 : Int32).toNatClampNeg + (nI 6).toNatClampNeg ≤ 6) <| lt (wA σ6 32 k0 (va_cpy (σ6.1 31 k0) (σ6.1 32 k0) ((0 : Int32).toNatClampNeg) ((0 : Int32).toNatClampNeg) ((nI 6).toNatClampNeg))) fun (σ7 : St) => some ((), σ7)
set_option maxRecDepth 20000 in
theorem kX4_begin {X : Cx} (k0 : Nat) (hk0 : k0 < cnt 4) (σ : St) : Kon X 3 yX4_begin cX4_begin 1 none gV [.ref (adr X 4 k0)] σ (fX4_begin k0 σ) := by
  refine konJ (own := RX4) (fun _ => gV) (fun a b => [.ref (a 4 k0)]) (by decide +kernel) rfl (fun _ _ => Nat.le_of_ble_eq_true rfl) (fun Y C M => ?_)
  show V Y gV 0 [(0, .ref (adr Y 4 k0))] [] σ (fX4_begin k0 σ)
  unfold fX4_begin
  refine v_aload_n 0 C dX4_begin_0 rfl ?_
  refine v_aload_n 0 C dX4_begin_1 rfl ?_
  refine v_cV0i C dX4_begin_2 lv_X4_169 hk0 (kX4_askers k0 hk0 _) (by decide) (Nat.le_of_ble_eq_true rfl) (fun r2 σ1 => ?_)
  refine v_putiL C dX4_begin_5 lp_X4_60 hk0 (by decide) (fun σ3 => ?_)
  refine v_aload_n 0 C dX4_begin_8 rfl ?_
  refine v_aload_n 0 C dX4_begin_9 rfl ?_
  refine v_geti C dX4_begin_10 lf_X4_44 hk0 (by decide) ?_
  refine v_iconst C dX4_begin_13 kc_iconst_2 ?_
  refine v_aload_n 0 C dX4_begin_14 rfl ?_
  refine v_getr C dX4_begin_15 lf_X4_21 hk0 rfl rfl (fun hq4 => ?_)
  refine v_geti C dX4_begin_18 lf_X4_179 hq4 (by decide) ?_
  refine v_imul C dX4_begin_21 ?_
  refine v_iadd C dX4_begin_22 ?_
  refine v_putiL C dX4_begin_23 lp_X4_57 hk0 (by decide) (fun σ5 => ?_)
  refine v_aload_n 0 C dX4_begin_26 rfl ?_
  refine v_cV0u C dX4_begin_27 lv_X4_182 hk0 (kX4_rankWords k0 hk0 _) (by decide) (Nat.le_of_ble_eq_true rfl) (fun _ σ6 => ?_)
  refine v_iconst C dX4_begin_30 kc_iconst_0 ?_
  refine v_aload_n 0 C dX4_begin_31 rfl ?_
  refine v_getc C dX4_begin_32 lf_X4_29 hk0 rfl ?_
  refine v_iconst C dX4_begin_35 kc_iconst_0 ?_
  refine v_bipush C dX4_begin_36 kc_bipush_6 ?_
  refine v_acopyL C dX4_begin_38 ac_X4_79 (by decide) (Nat.le_of_ble_eq_true rfl) hk0 (by decide) rfl hk0 (by decide) rfl (fun σ7 => ?_)
  exact v_vret C M dX4_begin_41
-- OpenLines$Tally endTick(II)V, depth 3
def fX5_endTick (k0 : Nat) (p1 : Int32) (p2 : Int32) (σ : St) : Option (Unit × St) :=
  bd (fJ9_floorMod_7cf53 p1 (nI 64) σ) fun (r2 : Int32) (σ1 : St) => gi r2 64 <| lt (wI σ1 41 k0 r2.toNatClampNeg p2) fun (σ3 : St) => bd (fX5_count k0 p2 (nI 1) σ3) fun _ (σ4 : St) => some ((), σ4)
set_option maxRecDepth 20000 in
theorem kX5_endTick {X : Cx} (k0 : Nat) (p1 : Int32) (p2 : Int32) (hk0 : k0 < cnt 5) (σ : St) : Kon X 3 yX5_endTick cX5_endTick 3 none gV [.ref (adr X 5 k0), .int p1, .int p2] σ (fX5_endTick k0 p1 p2 σ) := by
  refine konJ (own := RX5) (fun _ => gV) (fun a b => [.ref (a 5 k0), .int p1, .int p2]) (by decide +kernel) rfl (fun _ _ => Nat.le_of_ble_eq_true rfl) (fun Y C M => ?_)
  show V Y gV 0 [(0, .ref (adr Y 5 k0)), (1, .int p1), (2, .int p2)] [] σ (fX5_endTick k0 p1 p2 σ)
  unfold fX5_endTick
  refine v_aload_n 0 C dX5_endTick_0 rfl ?_
  refine v_getc C dX5_endTick_1 lf_X5_19 hk0 rfl ?_
  refine v_iload_n 1 C dX5_endTick_4 rfl ?_
  refine v_bipush C dX5_endTick_5 kc_bipush_64 ?_
  refine v_cS2i C dX5_endTick_7 ls_X5_68 (kJ9_floorMod_7cf53 p1 (nI 64) _) (by decide) (Nat.le_of_ble_eq_true rfl) (fun r2 σ1 => ?_)
  refine v_iload_n 2 C dX5_endTick_10 rfl ?_
  refine v_iastoreL C dX5_endTick_11 hk0 (by decide) rfl (fun σ3 => ?_)
  refine v_aload_n 0 C dX5_endTick_12 rfl ?_
  refine v_iload_n 2 C dX5_endTick_13 rfl ?_
  refine v_iconst C dX5_endTick_14 kc_iconst_1 ?_
  refine v_cV2v C dX5_endTick_15 lv_X5_58 hk0 (kX5_count k0 p2 (nI 1) hk0 _) (by decide) (Nat.le_of_ble_eq_true rfl) (fun _ σ4 => ?_)
  exact v_vret C M dX5_endTick_18
-- OpenLines$Run tick(LOpenLines$Arbiter;)V, depth 5
def fX4_tick (k0 : Nat) (σ : St) : Option (Unit × St) :=
  lt (wI σ 4 k0 2 ((σ.1 4 k0 2) + (nI 1))) fun (σ1 : St) => bd (fX4_hearTold k0 σ1) fun _ (σ2 : St) => (jn (fun (σ3 : St) => (jn (fun (σ4 : St) => (jn (fun (σ5 : St) => (jn (fun (σ6 : St) => bd (fX5_endTick k0 (σ6.1 4 k0 2) (σ6.1 4 k0 3) σ6) fun _ (σ7 : St) => some ((), σ7)) fun j104 => if (σ5.1 4 k0 6) = (-2) then bd (fX4_isContested k0 σ5) fun (r9 : Int32) (σ8 : St) => (if r9 = 0 then j104 σ8 else bd (fX4_begin k0 σ8) fun _ (σ10 : St) => j104 σ10) else j104 σ5)) fun j84 => if (σ4.1 4 k0 6) = (-2) then (if (σ4.1 4 k0 3) = (-2) then (if (σ4.1 4 k0 5) = (-2) then j84 σ4 else bd (fX4_handOver k0 σ4) fun _ (σ11 : St) => j84 σ11) else j84 σ4) else j84 σ4)) fun j53 => if (σ3.1 4 k0 2) = (σ3.1 4 k0 6) then bd (fX4_finish k0 σ3) fun _ (σ12 : St) => j53 σ12 else j53 σ3)) fun j37 => if (σ2.1 4 k0 2) = (σ2.1 4 k0 4) then lt (wI σ2 4 k0 3 (-2)) fun (σ13 : St) => lt (wI σ13 4 k0 4 (-2)) fun (σ14 : St) => j37 σ14 else j37 σ2)
set_option maxRecDepth 20000 in
theorem kX4_tick {X : Cx} (k0 : Nat) (hk0 : k0 < cnt 4) (σ : St) : Kon X 5 yX4_tick cX4_tick 2 none gV [.ref (adr X 4 k0), .ref (adr X 0 0)] σ (fX4_tick k0 σ) := by
  refine konJ (own := RX4) (fun _ => gV) (fun a b => [.ref (a 4 k0), .ref (a 0 0)]) (by decide +kernel) rfl (fun _ _ => Nat.le_of_ble_eq_true rfl) (fun Y C M => ?_)
  show V Y gV 0 [(0, .ref (adr Y 4 k0)), (1, .ref (adr Y 0 0))] [] σ (fX4_tick k0 σ)
  unfold fX4_tick
  refine v_aload_n 0 C dX4_tick_0 rfl ?_
  refine v_dup C dX4_tick_1 rfl ?_
  refine v_geti C dX4_tick_2 lf_X4_44 hk0 (by decide) ?_
  refine v_iconst C dX4_tick_5 kc_iconst_1 ?_
  refine v_iadd C dX4_tick_6 ?_
  refine v_putiL C dX4_tick_7 lp_X4_44 hk0 (by decide) (fun σ1 => ?_)
  refine v_aload_n 0 C dX4_tick_10 rfl ?_
  refine v_cV0v C dX4_tick_11 lv_X4_97 hk0 (kX4_hearTold k0 hk0 _) (by decide) (Nat.le_of_ble_eq_true rfl) (fun _ σ2 => ?_)
  refine v_aload_n 0 C dX4_tick_14 rfl ?_
  refine v_geti C dX4_tick_15 lf_X4_44 hk0 (by decide) ?_
  refine v_aload_n 0 C dX4_tick_18 rfl ?_
  refine v_geti C dX4_tick_19 lf_X4_51 hk0 (by decide) ?_
  refine v_jn (fun j37 => ∀ (σ3 : St), V Y gV 37 [(0, .ref (adr Y 4 k0)), (1, .ref (adr Y 0 0))] [] σ3 (j37 σ3)) ?_ ?_
  · intro σ3
    refine v_aload_n 0 C dX4_tick_37 rfl ?_
    refine v_geti C dX4_tick_38 lf_X4_44 hk0 (by decide) ?_
    refine v_aload_n 0 C dX4_tick_41 rfl ?_
    refine v_geti C dX4_tick_42 lf_X4_57 hk0 (by decide) ?_
    refine v_jn (fun j53 => ∀ (σ4 : St), V Y gV 53 [(0, .ref (adr Y 4 k0))] [] σ4 (j53 σ4)) ?_ ?_
    · intro σ4
      refine v_aload_n 0 C dX4_tick_53 rfl ?_
      refine v_geti C dX4_tick_54 lf_X4_57 hk0 (by decide) ?_
      refine v_bipush C dX4_tick_57 kc_bipush_m2 ?_
      refine v_jn (fun j84 => ∀ (σ5 : St), V Y gV 84 [(0, .ref (adr Y 4 k0))] [] σ5 (j84 σ5)) ?_ ?_
      · intro σ5
        refine v_aload_n 0 C dX4_tick_84 rfl ?_
        refine v_geti C dX4_tick_85 lf_X4_57 hk0 (by decide) ?_
        refine v_bipush C dX4_tick_88 kc_bipush_m2 ?_
        refine v_jn (fun j104 => ∀ (σ6 : St), V Y gV 104 [(0, .ref (adr Y 4 k0))] [] σ6 (j104 σ6)) ?_ ?_
        · intro σ6
          refine v_aload_n 0 C dX4_tick_104 rfl ?_
          refine v_getc C dX4_tick_105 lf_X4_12 hk0 rfl ?_
          refine v_aload_n 0 C dX4_tick_108 rfl ?_
          refine v_geti C dX4_tick_109 lf_X4_44 hk0 (by decide) ?_
          refine v_aload_n 0 C dX4_tick_112 rfl ?_
          refine v_geti C dX4_tick_113 lf_X4_48 hk0 (by decide) ?_
          refine v_cV2v C dX4_tick_116 lv_X4_113 hk0 (kX5_endTick k0 (σ6.1 4 k0 2) (σ6.1 4 k0 3) hk0 _) (by decide) (Nat.le_of_ble_eq_true rfl) (fun _ σ7 => ?_)
          exact v_vret C M dX4_tick_119
        · intro j104 hj104
          refine v_icmp_ne (tgt := 104) C dX4_tick_90 (by decide) ?_ ?_
          · skip
            exact v_lv (hj104 σ5) [0] rfl
          · skip
            refine v_aload_n 0 C dX4_tick_93 rfl ?_
            refine v_cV0i C dX4_tick_94 lv_X4_106 hk0 (kX4_isContested k0 hk0 _) (by decide) (Nat.le_of_ble_eq_true rfl) (fun r9 σ8 => ?_)
            refine v_if_eq (tgt := 104) C dX4_tick_97 (by decide) ?_ ?_
            · skip
              exact v_lv (hj104 σ8) [0] rfl
            · skip
              refine v_aload_n 0 C dX4_tick_100 rfl ?_
              refine v_cV0v C dX4_tick_101 lv_X4_110 hk0 (kX4_begin k0 hk0 _) (by decide) (Nat.le_of_ble_eq_true rfl) (fun _ σ10 => ?_)
              exact v_lv (hj104 σ10) [0] rfl
      · intro j84 hj84
        refine v_icmp_ne (tgt := 84) C dX4_tick_59 (by decide) ?_ ?_
        · skip
          exact v_lv (hj84 σ4) [0] rfl
        · skip
          refine v_aload_n 0 C dX4_tick_62 rfl ?_
          refine v_geti C dX4_tick_63 lf_X4_48 hk0 (by decide) ?_
          refine v_bipush C dX4_tick_66 kc_bipush_m2 ?_
          refine v_icmp_ne (tgt := 84) C dX4_tick_68 (by decide) ?_ ?_
          · skip
            exact v_lv (hj84 σ4) [0] rfl
          · skip
            refine v_aload_n 0 C dX4_tick_71 rfl ?_
            refine v_geti C dX4_tick_72 lf_X4_54 hk0 (by decide) ?_
            refine v_bipush C dX4_tick_75 kc_bipush_m2 ?_
            refine v_icmp_eq (tgt := 84) C dX4_tick_77 (by decide) ?_ ?_
            · skip
              exact v_lv (hj84 σ4) [0] rfl
            · skip
              refine v_aload_n 0 C dX4_tick_80 rfl ?_
              refine v_cV0v C dX4_tick_81 lv_X4_103 hk0 (kX4_handOver k0 hk0 _) (by decide) (Nat.le_of_ble_eq_true rfl) (fun _ σ11 => ?_)
              exact v_lv (hj84 σ11) [0] rfl
    · intro j53 hj53
      refine v_icmp_ne (tgt := 53) C dX4_tick_45 (by decide) ?_ ?_
      · skip
        exact v_lv (hj53 σ3) [0] rfl
      · skip
        refine v_aload_n 0 C dX4_tick_48 rfl ?_
        refine v_aload_n 1 C dX4_tick_49 rfl ?_
        refine v_cV1v C dX4_tick_50 lv_X4_100 hk0 (kX4_finish k0 hk0 _) (by decide) (Nat.le_of_ble_eq_true rfl) (fun _ σ12 => ?_)
        exact v_lv (hj53 σ12) [0] rfl
  · intro j37 hj37
    refine v_icmp_ne (tgt := 37) C dX4_tick_22 (by decide) ?_ ?_
    · skip
      exact v_lv (hj37 σ2) [0, 1] rfl
    · skip
      refine v_aload_n 0 C dX4_tick_25 rfl ?_
      refine v_bipush C dX4_tick_26 kc_bipush_m2 ?_
      refine v_putiL C dX4_tick_28 lp_X4_48 hk0 (by decide) (fun σ13 => ?_)
      refine v_aload_n 0 C dX4_tick_31 rfl ?_
      refine v_bipush C dX4_tick_32 kc_bipush_m2 ?_
      refine v_putiL C dX4_tick_34 lp_X4_51 hk0 (by decide) (fun σ14 => ?_)
      exact v_lv (hj37 σ14) [0, 1] rfl
-- OpenLines$Run ticksToMaster(ILOpenLines$Arbiter;)I, depth 6
def LX4_ticksToMaster_13 (k0 : Nat) (a1 : Int32) (a3 : Int32) (ke : St → Option (Int32 × St)) : Nat → Int32 → St → Option (Int32 × St)
  | 0, _, _ => none
  | n + 1, b4, σ => (if (nI 2000) < b4 then ke σ else bd (fX4_tick k0 σ) fun _ (σ3 : St) => bd (fX5_account k0 a1 0 σ3) fun (r5 : Int32) (σ4 : St) => (if r5 = a3 then LX4_ticksToMaster_13 k0 a1 a3 ke n (b4 + nI 1) σ4 else some (b4, σ4)))
def fX4_ticksToMaster (k0 : Nat) (p1 : Int32) (σ : St) : Option (Int32 × St) :=
  bd (fX5_account k0 p1 0 σ) fun (r2 : Int32) (σ1 : St) => (LX4_ticksToMaster_13 k0 p1 r2 (fun (σ6 : St) => some ((-2), σ6)) FU (nI 1) σ1)
set_option maxRecDepth 20000 in
theorem vLX4_ticksToMaster_13 {Y : Cx} (k0 : Nat) (a1 : Int32) (a3 : Int32) (hk0 : k0 < cnt 4) (C : Ok Y RX4 cX4_ticksToMaster 5 6) (M : OkM Y (some .int)) (ke : St → Option (Int32 × St)) (hke : ∀ (σ : St), V Y gI 48 [] [] σ (ke σ)) : ∀ (n : Nat) (b4 : Int32) (σ : St), V Y gI 13 [(0, .ref (adr Y 4 k0)), (1, .int a1), (2, .ref (adr Y 0 0)), (3, .int a3), (4, .int b4)] [] σ (LX4_ticksToMaster_13 k0 a1 a3 ke n b4 σ) := by
  intro n
  induction n with
  | zero => intros; exact v_none
  | succ n ih =>
    intro b4 σ
    rw [LX4_ticksToMaster_13]
    refine v_iload 4 C dX4_ticksToMaster_13 rfl ?_
    refine v_sipush C dX4_ticksToMaster_15 kc_sipush_2000 ?_
    refine v_icmp_gt (tgt := 48) C dX4_ticksToMaster_18 (by decide) ?_ ?_
    · skip
      exact v_lv (hke σ) [] rfl
    · skip
      refine v_aload_n 0 C dX4_ticksToMaster_21 rfl ?_
      refine v_aload_n 2 C dX4_ticksToMaster_22 rfl ?_
      refine v_cV1v C dX4_ticksToMaster_23 lv_X4_89 hk0 (kX4_tick k0 hk0 _) (by decide) (Nat.le_of_ble_eq_true rfl) (fun _ σ3 => ?_)
      refine v_aload_n 0 C dX4_ticksToMaster_26 rfl ?_
      refine v_getc C dX4_ticksToMaster_27 lf_X4_12 hk0 rfl ?_
      refine v_iload_n 1 C dX4_ticksToMaster_30 rfl ?_
      refine v_iconst C dX4_ticksToMaster_31 kc_iconst_0 ?_
      refine v_cV2i C dX4_ticksToMaster_32 lv_X4_93 hk0 (kX5_account k0 a1 0 hk0 _) (by decide) (Nat.le_of_ble_eq_true rfl) (fun r5 σ4 => ?_)
      refine v_iload_n 3 C dX4_ticksToMaster_35 rfl ?_
      refine v_icmp_eq (tgt := 42) C dX4_ticksToMaster_36 (by decide) ?_ ?_
      · skip
        refine v_iinc (lv' := [(4, .int (b4 + nI 1)), (0, .ref (adr Y 4 k0)), (1, .int a1), (2, .ref (adr Y 0 0)), (3, .int a3)]) 4 C dX4_ticksToMaster_42 rfl (congrArg (b4 + ·) kc_iconst_1) (by decide) rfl ?_
        refine v_goto (tgt := 13) C dX4_ticksToMaster_45 (by decide) ?_
        exact v_lv (ih (b4 + nI 1) σ4) [1, 2, 3, 4, 0] rfl
      · skip
        refine v_iload 4 C dX4_ticksToMaster_39 rfl ?_
        exact v_iret C M dX4_ticksToMaster_41
set_option maxRecDepth 20000 in
theorem kX4_ticksToMaster {X : Cx} (k0 : Nat) (p1 : Int32) (hk0 : k0 < cnt 4) (σ : St) : Kon X 6 yX4_ticksToMaster cX4_ticksToMaster 5 (some .int) gI [.ref (adr X 4 k0), .int p1, .ref (adr X 0 0)] σ (fX4_ticksToMaster k0 p1 σ) := by
  refine konJ (own := RX4) (fun _ => gI) (fun a b => [.ref (a 4 k0), .int p1, .ref (a 0 0)]) (by decide +kernel) rfl (fun _ _ => Nat.le_of_ble_eq_true rfl) (fun Y C M => ?_)
  show V Y gI 0 [(0, .ref (adr Y 4 k0)), (1, .int p1), (2, .ref (adr Y 0 0))] [] σ (fX4_ticksToMaster k0 p1 σ)
  unfold fX4_ticksToMaster
  refine v_aload_n 0 C dX4_ticksToMaster_0 rfl ?_
  refine v_getc C dX4_ticksToMaster_1 lf_X4_12 hk0 rfl ?_
  refine v_iload_n 1 C dX4_ticksToMaster_4 rfl ?_
  refine v_iconst C dX4_ticksToMaster_5 kc_iconst_0 ?_
  refine v_cV2i C dX4_ticksToMaster_6 lv_X4_93 hk0 (kX5_account k0 p1 0 hk0 _) (by decide) (Nat.le_of_ble_eq_true rfl) (fun r2 σ1 => ?_)
  refine v_istore_n (lv' := [(3, .int r2), (0, .ref (adr Y 4 k0)), (1, .int p1), (2, .ref (adr Y 0 0))]) C dX4_ticksToMaster_9 rfl (by decide) rfl ?_
  refine v_iconst C dX4_ticksToMaster_10 kc_iconst_1 ?_
  refine v_istore (lv' := [(4, .int (nI 1)), (3, .int r2), (0, .ref (adr Y 4 k0)), (1, .int p1), (2, .ref (adr Y 0 0))]) C dX4_ticksToMaster_11 (by decide) rfl ?_
  refine v_lv (vLX4_ticksToMaster_13 _ _ _ hk0 C M _ (fun σ6 => ?_) FU _ _) [2, 3, 4, 1, 0] rfl
  refine v_bipush C dX4_ticksToMaster_48 kc_bipush_m2 ?_
  exact v_iret C M dX4_ticksToMaster_50
-- OpenLines$Run letWait(II)I, depth 1
def fX4_letWait (k0 : Nat) (p1 : Int32) (p2 : Int32) (σ : St) : Option (Int32 × St) :=
  gd (σ.2.2 4 k0 1 < 6) <| bd (fX2_holds (σ.2.2 4 k0 1) p1 σ) fun (r3 : Int32) (σ2 : St) => (if r3 = 0 then some ((-1), σ2) else gi p1 6 <| lt (σ2.1 36 k0 p1.toNatClampNeg) fun (x4 : Int32) => gi p1 6 <| lt (wI σ2 36 k0 p1.toNatClampNeg p2) fun (σ5 : St) => some (x4, σ5))
set_option maxRecDepth 20000 in
theorem kX4_letWait {X : Cx} (k0 : Nat) (p1 : Int32) (p2 : Int32) (hk0 : k0 < cnt 4) (σ : St) : Kon X 1 yX4_letWait cX4_letWait 4 (some .int) gI [.ref (adr X 4 k0), .int p1, .int p2] σ (fX4_letWait k0 p1 p2 σ) := by
  refine konJ (own := RX4) (fun _ => gI) (fun a b => [.ref (a 4 k0), .int p1, .int p2]) (by decide +kernel) rfl (fun _ _ => Nat.le_of_ble_eq_true rfl) (fun Y C M => ?_)
  show V Y gI 0 [(0, .ref (adr Y 4 k0)), (1, .int p1), (2, .int p2)] [] σ (fX4_letWait k0 p1 p2 σ)
  unfold fX4_letWait
  refine v_aload_n 0 C dX4_letWait_0 rfl ?_
  refine v_getr C dX4_letWait_1 lf_X4_21 hk0 rfl rfl (fun hq1 => ?_)
  refine v_iload_n 1 C dX4_letWait_4 rfl ?_
  refine v_cV1i C dX4_letWait_5 lv_X4_133 hq1 (kX2_holds (σ.2.2 4 k0 1) p1 hq1 _) (by decide) (Nat.le_of_ble_eq_true rfl) (fun r3 σ2 => ?_)
  refine v_if_ne (tgt := 13) C dX4_letWait_8 (by decide) ?_ ?_
  · skip
    refine v_aload_n 0 C dX4_letWait_13 rfl ?_
    refine v_getc C dX4_letWait_14 lf_X4_41 hk0 rfl ?_
    refine v_iload_n 1 C dX4_letWait_17 rfl ?_
    refine v_iaload C dX4_letWait_18 hk0 (by decide) rfl ?_
    refine v_istore_nL (lv0 := [(0, .ref (adr Y 4 k0)), (1, .int p1), (2, .int p2)]) C dX4_letWait_19 rfl (by decide) rfl (fun x4 => ?_)
    refine v_aload_n 1 C dX4_letWait_20 rfl ?_
    refine v_getc C dX4_letWait_21 lf_X4_41 hk0 rfl ?_
    refine v_iload_n 2 C dX4_letWait_24 rfl ?_
    refine v_iload_n 3 C dX4_letWait_25 rfl ?_
    refine v_iastoreL C dX4_letWait_26 hk0 (by decide) rfl (fun σ5 => ?_)
    refine v_iload_n 0 C dX4_letWait_27 rfl ?_
    exact v_iret C M dX4_letWait_28
  · skip
    refine v_iconst C dX4_letWait_11 kc_iconst_m1 ?_
    exact v_iret C M dX4_letWait_12
-- OpenLines$Run boardState(II)I, depth 2
def fX4_boardState (k0 : Nat) (p1 : Int32) (p2 : Int32) (σ : St) : Option (Int32 × St) :=
  gd (σ.2.2 4 k0 1 < 6) <| bd (fX2_holds (σ.2.2 4 k0 1) p1 σ) fun (r3 : Int32) (σ2 : St) => (if r3 = 0 then some ((-1), σ2) else (if p2 = nI 3 then bd (fX4_rankOfDay k0 p1 σ2) fun (r6 : Int32) (σ5 : St) => some (r6, σ5) else if p2 = nI 4 then some (if (fX7_has (σ2.1 4 k0 8) p1) = 0 then 0 else (nI 1), σ2) else if p2 = nI 5 then gi p1 6 <| some (σ2.1 34 k0 p1.toNatClampNeg, σ2) else gi p1 6 <| some (σ2.1 36 k0 p1.toNatClampNeg, σ2)))
set_option maxRecDepth 20000 in
theorem kX4_boardState {X : Cx} (k0 : Nat) (p1 : Int32) (p2 : Int32) (hk0 : k0 < cnt 4) (σ : St) : Kon X 2 yX4_boardState cX4_boardState 3 (some .int) gI [.ref (adr X 4 k0), .int p1, .int p2] σ (fX4_boardState k0 p1 p2 σ) := by
  refine konJ (own := RX4) (fun _ => gI) (fun a b => [.ref (a 4 k0), .int p1, .int p2]) (by decide +kernel) rfl (fun _ _ => Nat.le_of_ble_eq_true rfl) (fun Y C M => ?_)
  show V Y gI 0 [(0, .ref (adr Y 4 k0)), (1, .int p1), (2, .int p2)] [] σ (fX4_boardState k0 p1 p2 σ)
  unfold fX4_boardState
  refine v_aload_n 0 C dX4_boardState_0 rfl ?_
  refine v_getr C dX4_boardState_1 lf_X4_21 hk0 rfl rfl (fun hq1 => ?_)
  refine v_iload_n 1 C dX4_boardState_4 rfl ?_
  refine v_cV1i C dX4_boardState_5 lv_X4_133 hq1 (kX2_holds (σ.2.2 4 k0 1) p1 hq1 _) (by decide) (Nat.le_of_ble_eq_true rfl) (fun r3 σ2 => ?_)
  refine v_if_ne (tgt := 13) C dX4_boardState_8 (by decide) ?_ ?_
  · skip
    refine v_iload_n 2 C dX4_boardState_13 rfl ?_
    refine v_swK (k := nI 3) (tgt := 40) C dX4_boardState_14 (by decide) rfl (by decide) ?_ (fun h4 => ?_)
    · skip
      refine v_aload_n 0 C dX4_boardState_40 rfl ?_
      refine v_iload_n 1 C dX4_boardState_41 rfl ?_
      refine v_cV1i C dX4_boardState_42 lv_X4_172 hk0 (kX4_rankOfDay k0 p1 hk0 _) (by decide) (Nat.le_of_ble_eq_true rfl) (fun r6 σ5 => ?_)
      exact v_iret C M dX4_boardState_45
    refine v_swK (k := nI 4) (tgt := 46) C dX4_boardState_14 (by decide) rfl (by decide) ?_ (fun h7 => ?_)
    · skip
      refine v_aload_n 0 C dX4_boardState_46 rfl ?_
      refine v_geti C dX4_boardState_47 lf_X4_67 hk0 (by decide) ?_
      refine v_iload_n 1 C dX4_boardState_50 rfl ?_
      refine v_cN2p C dX4_boardState_51 ln_X4_160 (kX7_has (σ2.1 4 k0 8) p1 _) (by decide) (Nat.le_of_ble_eq_true rfl) ?_
      refine v_cut (pcJ := 62) (lv := [(0, .ref (adr Y 4 k0)), (1, .int p1), (2, .int p2)]) (st := .int (if (fX7_has (σ2.1 4 k0 8) p1) = 0 then 0 else (nI 1)) :: []) ?_ (fun hj8 => ?_)
      rotate_left
      · skip
        refine v_if_eq_b (tgt := 61) C dX4_boardState_54 (by decide) (fun h9 => ?_) (fun h9 => ?_)
        · have hj10 := v_jpos h9 hj8
          refine v_iconst C dX4_boardState_61 kc_iconst_0 ?_
          exact hj10
        · have hj10 := v_jneg h9 hj8
          refine v_iconst C dX4_boardState_57 kc_iconst_1 ?_
          refine v_goto (tgt := 62) C dX4_boardState_58 (by decide) ?_
          exact hj10
      exact v_iret C M dX4_boardState_62
    refine v_swK (k := nI 5) (tgt := 63) C dX4_boardState_14 (by decide) rfl (by decide) ?_ (fun h11 => ?_)
    · skip
      refine v_aload_n 0 C dX4_boardState_63 rfl ?_
      refine v_getc C dX4_boardState_64 lf_X4_35 hk0 rfl ?_
      refine v_iload_n 1 C dX4_boardState_67 rfl ?_
      refine v_iaload C dX4_boardState_68 hk0 (by decide) rfl ?_
      exact v_iret C M dX4_boardState_69
    refine v_swOut (tgt := 70) C dX4_boardState_14 (by have qh4 := lv_neT (a := 3) h4 (by decide); have qh7 := lv_neT (a := 4) h7 (by decide); have qh11 := lv_neT (a := 5) h11 (by decide); omega) (by decide) ?_
    refine v_aload_n 0 C dX4_boardState_70 rfl ?_
    refine v_getc C dX4_boardState_71 lf_X4_41 hk0 rfl ?_
    refine v_iload_n 1 C dX4_boardState_74 rfl ?_
    refine v_iaload C dX4_boardState_75 hk0 (by decide) rfl ?_
    exact v_iret C M dX4_boardState_76
  · skip
    refine v_iconst C dX4_boardState_11 kc_iconst_m1 ?_
    exact v_iret C M dX4_boardState_12
-- OpenLines$Run longestAsking()I, depth 2
def LX4_longestAsking_5 (k0 : Nat) (ke : Int32 → St → Option (Int32 × St)) : Nat → Int32 → Int32 → St → Option (Int32 × St)
  | 0, _, _, _ => none
  | n + 1, b1, b2, σ => (if (nI 10) ≤ b2 then ke b1 σ else gd (σ.2.2 4 k0 1 < 6) <| bd (fX2_boardOfSlot (σ.2.2 4 k0 1) b2 σ) fun (r3 : Int32) (σ2 : St) => gd (σ2.2.2 4 k0 1 < 6) <| bd (fX2_holds (σ2.2.2 4 k0 1) r3 σ2) fun (r6 : Int32) (σ5 : St) => (jn (fun (x8 : Int32) (σ7 : St) => LX4_longestAsking_5 k0 ke n x8 (b2 + nI 1) σ7) fun j61 => if r6 = 0 then j61 b1 σ5 else gi r3 6 <| (if (σ5.1 34 k0 r3.toNatClampNeg) ≤ 0 then j61 b1 σ5 else (jn (fun (σ9 : St) => j61 r3 σ9) fun j59 => if b1 < 0 then j59 σ5 else gi r3 6 <| gi b1 6 <| (if (σ5.1 35 k0 b1.toNatClampNeg) ≤ (σ5.1 35 k0 r3.toNatClampNeg) then j61 b1 σ5 else j59 σ5)))))
def fX4_longestAsking (k0 : Nat) (σ : St) : Option (Int32 × St) :=
  (LX4_longestAsking_5 k0 (fun (x10 : Int32) (σ11 : St) => some (x10, σ11)) FU (-2) 0 σ)
set_option maxRecDepth 20000 in
theorem vLX4_longestAsking_5 {Y : Cx} (k0 : Nat) (hk0 : k0 < cnt 4) (C : Ok Y RX4 cX4_longestAsking 4 2) (M : OkM Y (some .int)) (ke : Int32 → St → Option (Int32 × St)) (hke : ∀ (b1 : Int32) (σ : St), V Y gI 67 [(1, .int b1)] [] σ (ke b1 σ)) : ∀ (n : Nat) (b1 : Int32) (b2 : Int32) (σ : St), V Y gI 5 [(0, .ref (adr Y 4 k0)), (1, .int b1), (2, .int b2)] [] σ (LX4_longestAsking_5 k0 ke n b1 b2 σ) := by
  intro n
  induction n with
  | zero => intros; exact v_none
  | succ n ih =>
    intro b1 b2 σ
    rw [LX4_longestAsking_5]
    refine v_iload_n 2 C dX4_longestAsking_5 rfl ?_
    refine v_bipush C dX4_longestAsking_6 kc_bipush_10 ?_
    refine v_icmp_ge (tgt := 67) C dX4_longestAsking_8 (by decide) ?_ ?_
    · skip
      exact v_lv (hke b1 σ) [1] rfl
    · skip
      refine v_aload_n 0 C dX4_longestAsking_11 rfl ?_
      refine v_getr C dX4_longestAsking_12 lf_X4_21 hk0 rfl rfl (fun hq1 => ?_)
      refine v_iload_n 2 C dX4_longestAsking_15 rfl ?_
      refine v_cV1i C dX4_longestAsking_16 lv_X4_211 hq1 (kX2_boardOfSlot (σ.2.2 4 k0 1) b2 hq1 _) (by decide) (Nat.le_of_ble_eq_true rfl) (fun r3 σ2 => ?_)
      refine v_istore_n (lv' := [(3, .int r3), (0, .ref (adr Y 4 k0)), (1, .int b1), (2, .int b2)]) C dX4_longestAsking_19 rfl (by decide) rfl ?_
      refine v_aload_n 1 C dX4_longestAsking_20 rfl ?_
      refine v_getr C dX4_longestAsking_21 lf_X4_21 hk0 rfl rfl (fun hq4 => ?_)
      refine v_iload_n 0 C dX4_longestAsking_24 rfl ?_
      refine v_cV1i C dX4_longestAsking_25 lv_X4_133 hq4 (kX2_holds (σ2.2.2 4 k0 1) r3 hq4 _) (by decide) (Nat.le_of_ble_eq_true rfl) (fun r6 σ5 => ?_)
      refine v_jn (fun j61 => ∀ (x8 : Int32) (σ7 : St), V Y gI 61 [(0, .ref (adr Y 4 k0)), (1, .int x8), (2, .int b2)] [] σ7 (j61 x8 σ7)) ?_ ?_
      · intro x8 σ7
        refine v_iinc (lv' := [(2, .int (b2 + nI 1)), (0, .ref (adr Y 4 k0)), (1, .int x8)]) 2 C dX4_longestAsking_61 rfl (congrArg (b2 + ·) kc_iconst_1) (by decide) rfl ?_
        refine v_goto (tgt := 5) C dX4_longestAsking_64 (by decide) ?_
        exact v_lv (ih x8 (b2 + nI 1) σ7) [1, 2, 0] rfl
      · intro j61 hj61
        refine v_if_eq (tgt := 61) C dX4_longestAsking_28 (by decide) ?_ ?_
        · skip
          exact v_lv (hj61 b1 σ5) [1, 2, 3] rfl
        · skip
          refine v_aload_n 1 C dX4_longestAsking_31 rfl ?_
          refine v_getc C dX4_longestAsking_32 lf_X4_35 hk0 rfl ?_
          refine v_iload_n 0 C dX4_longestAsking_35 rfl ?_
          refine v_iaload C dX4_longestAsking_36 hk0 (by decide) rfl ?_
          refine v_if_le (tgt := 61) C dX4_longestAsking_37 (by decide) ?_ ?_
          · skip
            exact v_lv (hj61 b1 σ5) [1, 2, 3] rfl
          · skip
            refine v_iload_n 2 C dX4_longestAsking_40 rfl ?_
            refine v_jn (fun j59 => ∀ (σ9 : St), V Y gI 59 [(0, .ref (adr Y 4 k0)), (2, .int b2), (3, .int r3)] [] σ9 (j59 σ9)) ?_ ?_
            · intro σ9
              refine v_iload_n 2 C dX4_longestAsking_59 rfl ?_
              refine v_istore_n (lv' := [(1, .int r3), (0, .ref (adr Y 4 k0)), (2, .int b2), (3, .int r3)]) C dX4_longestAsking_60 rfl (by decide) rfl ?_
              exact v_lv (hj61 r3 σ9) [1, 0, 2] rfl
            · intro j59 hj59
              refine v_if_lt (tgt := 59) C dX4_longestAsking_41 (by decide) ?_ ?_
              · skip
                exact v_lv (hj59 σ5) [1, 3, 0] rfl
              · skip
                refine v_aload_n 1 C dX4_longestAsking_44 rfl ?_
                refine v_getc C dX4_longestAsking_45 lf_X4_38 hk0 rfl ?_
                refine v_iload_n 0 C dX4_longestAsking_48 rfl ?_
                refine v_iaload C dX4_longestAsking_49 hk0 (by decide) rfl ?_
                refine v_aload_n 1 C dX4_longestAsking_50 rfl ?_
                refine v_getc C dX4_longestAsking_51 lf_X4_38 hk0 rfl ?_
                refine v_iload_n 2 C dX4_longestAsking_54 rfl ?_
                refine v_iaload C dX4_longestAsking_55 hk0 (by decide) rfl ?_
                refine v_icmp_ge (tgt := 61) C dX4_longestAsking_56 (by decide) ?_ ?_
                · skip
                  exact v_lv (hj61 b1 σ5) [1, 2, 3] rfl
                · skip
                  exact v_lv (hj59 σ5) [1, 3, 0] rfl
set_option maxRecDepth 20000 in
theorem kX4_longestAsking {X : Cx} (k0 : Nat) (hk0 : k0 < cnt 4) (σ : St) : Kon X 2 yX4_longestAsking cX4_longestAsking 4 (some .int) gI [.ref (adr X 4 k0)] σ (fX4_longestAsking k0 σ) := by
  refine konJ (own := RX4) (fun _ => gI) (fun a b => [.ref (a 4 k0)]) (by decide +kernel) rfl (fun _ _ => Nat.le_of_ble_eq_true rfl) (fun Y C M => ?_)
  show V Y gI 0 [(0, .ref (adr Y 4 k0))] [] σ (fX4_longestAsking k0 σ)
  unfold fX4_longestAsking
  refine v_bipush C dX4_longestAsking_0 kc_bipush_m2 ?_
  refine v_istore_n (lv' := [(1, .int (-2)), (0, .ref (adr Y 4 k0))]) C dX4_longestAsking_2 rfl (by decide) rfl ?_
  refine v_iconst C dX4_longestAsking_3 kc_iconst_0 ?_
  refine v_istore_n (lv' := [(2, .int 0), (1, .int (-2)), (0, .ref (adr Y 4 k0))]) C dX4_longestAsking_4 rfl (by decide) rfl ?_
  refine v_lv (vLX4_longestAsking_5 _ hk0 C M _ (fun x10 σ11 => ?_) FU _ _ _) [2, 1, 0] rfl
  refine v_iload_n 0 C dX4_longestAsking_67 rfl ?_
  exact v_iret C M dX4_longestAsking_68
end
