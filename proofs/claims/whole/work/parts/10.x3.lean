noncomputable section
-- OpenLines sure(II)I, depth 5
def fX7_sure (p1 : Int32) (p2 : Int32) (σ : St) : Option (Int32 × St) :=
  bd (fX7_isContest p1 p2 σ) fun (r2 : Int32) (σ1 : St) => bd (fX7_accepts (σ.1 7 0 8) r2 σ1) fun (r4 : Int32) (σ3 : St) => (if r4 = 0 then some ((-1), σ3) else bd (fX7_played p1 p2 σ3) fun _ (σ5 : St) => bd (fX1_sureFrom σ5) fun (r7 : Int32) (σ6 : St) => some (r7, σ6))
set_option maxRecDepth 20000 in
theorem kX7_sure {X : Cx} (p1 : Int32) (p2 : Int32) (σ : St) : Kon X 5 yX7_sure cX7_sure 3 (some .int) gI [.ref (adr X 7 0), .int p1, .int p2] σ (fX7_sure p1 p2 σ) := by
  refine konJ (own := RX7) (fun _ => gI) (fun a b => [.ref (a 7 0), .int p1, .int p2]) (by decide +kernel) rfl (fun _ _ => Nat.le_of_ble_eq_true rfl) (fun Y C M => ?_)
  show V Y gI 0 [(0, .ref (adr Y 7 0)), (1, .int p1), (2, .int p2)] [] σ (fX7_sure p1 p2 σ)
  unfold fX7_sure
  refine v_aload_n 0 C dX7_sure_0 rfl ?_
  refine v_aload_n 0 C dX7_sure_1 rfl ?_
  refine v_geti C dX7_sure_2 lf_X7_89 ck_7 (by decide) ?_
  refine v_aload_n 0 C dX7_sure_5 rfl ?_
  refine v_iload_n 1 C dX7_sure_6 rfl ?_
  refine v_iload_n 2 C dX7_sure_7 rfl ?_
  refine v_cV2i C dX7_sure_8 lv_X7_139 ck_7 (kX7_isContest p1 p2 _) (by decide) (Nat.le_of_ble_eq_true rfl) (fun r2 σ1 => ?_)
  refine v_cV2i C dX7_sure_11 lv_X7_145 ck_7 (kX7_accepts (σ.1 7 0 8) r2 _) (by decide) (Nat.le_of_ble_eq_true rfl) (fun r4 σ3 => ?_)
  refine v_if_ne (tgt := 19) C dX7_sure_14 (by decide) ?_ ?_
  · skip
    refine v_aload_n 0 C dX7_sure_19 rfl ?_
    refine v_iload_n 1 C dX7_sure_20 rfl ?_
    refine v_iload_n 2 C dX7_sure_21 rfl ?_
    refine v_cV2u C dX7_sure_22 lv_X7_149 ck_7 (kX7_played p1 p2 _) (by decide) (Nat.le_of_ble_eq_true rfl) (fun _ σ5 => ?_)
    refine v_cV0i C dX7_sure_25 lv_X7_173 ck_1 (kX1_sureFrom _) (by decide) (Nat.le_of_ble_eq_true rfl) (fun r7 σ6 => ?_)
    exact v_iret C M dX7_sure_28
  · skip
    refine v_iconst C dX7_sure_17 kc_iconst_m1 ?_
    exact v_iret C M dX7_sure_18
-- OpenLines right(II)I, depth 4
def fX7_right (p1 : Int32) (p2 : Int32) (σ : St) : Option (Int32 × St) :=
  bd (fX7_isContest p1 p2 σ) fun (r2 : Int32) (σ1 : St) => bd (fX7_accepts (σ.1 7 0 8) r2 σ1) fun (r4 : Int32) (σ3 : St) => (if r4 = 0 then some ((-1), σ3) else bd (fX7_laid p1 σ3) fun _ (σ5 : St) => bd (fX1_greatestOf p2 σ5) fun (r7 : Int32) (σ6 : St) => some (r7, σ6))
set_option maxRecDepth 20000 in
theorem kX7_right {X : Cx} (p1 : Int32) (p2 : Int32) (σ : St) : Kon X 4 yX7_right cX7_right 3 (some .int) gI [.ref (adr X 7 0), .int p1, .int p2] σ (fX7_right p1 p2 σ) := by
  refine konJ (own := RX7) (fun _ => gI) (fun a b => [.ref (a 7 0), .int p1, .int p2]) (by decide +kernel) rfl (fun _ _ => Nat.le_of_ble_eq_true rfl) (fun Y C M => ?_)
  show V Y gI 0 [(0, .ref (adr Y 7 0)), (1, .int p1), (2, .int p2)] [] σ (fX7_right p1 p2 σ)
  unfold fX7_right
  refine v_aload_n 0 C dX7_right_0 rfl ?_
  refine v_aload_n 0 C dX7_right_1 rfl ?_
  refine v_geti C dX7_right_2 lf_X7_89 ck_7 (by decide) ?_
  refine v_aload_n 0 C dX7_right_5 rfl ?_
  refine v_iload_n 1 C dX7_right_6 rfl ?_
  refine v_iload_n 2 C dX7_right_7 rfl ?_
  refine v_cV2i C dX7_right_8 lv_X7_139 ck_7 (kX7_isContest p1 p2 _) (by decide) (Nat.le_of_ble_eq_true rfl) (fun r2 σ1 => ?_)
  refine v_cV2i C dX7_right_11 lv_X7_145 ck_7 (kX7_accepts (σ.1 7 0 8) r2 _) (by decide) (Nat.le_of_ble_eq_true rfl) (fun r4 σ3 => ?_)
  refine v_if_ne (tgt := 19) C dX7_right_14 (by decide) ?_ ?_
  · skip
    refine v_aload_n 0 C dX7_right_19 rfl ?_
    refine v_iload_n 1 C dX7_right_20 rfl ?_
    refine v_cV1u C dX7_right_21 lv_X7_177 ck_7 (kX7_laid p1 _) (by decide) (Nat.le_of_ble_eq_true rfl) (fun _ σ5 => ?_)
    refine v_iload_n 2 C dX7_right_24 rfl ?_
    refine v_cV1i C dX7_right_25 lv_X7_181 ck_1 (kX1_greatestOf p2 _) (by decide) (Nat.le_of_ble_eq_true rfl) (fun r7 σ6 => ?_)
    exact v_iret C M dX7_right_28
  · skip
    refine v_iconst C dX7_right_17 kc_iconst_m1 ?_
    exact v_iret C M dX7_right_18
-- OpenLines dips(II)I, depth 5
def fX7_dips (p1 : Int32) (p2 : Int32) (σ : St) : Option (Int32 × St) :=
  bd (fX7_isContest p1 p2 σ) fun (r2 : Int32) (σ1 : St) => bd (fX7_accepts (σ.1 7 0 8) r2 σ1) fun (r4 : Int32) (σ3 : St) => (if r4 = 0 then some ((-1), σ3) else bd (fX7_played p1 p2 σ3) fun _ (σ5 : St) => some (σ5.1 1 0 16, σ5))
set_option maxRecDepth 20000 in
theorem kX7_dips {X : Cx} (p1 : Int32) (p2 : Int32) (σ : St) : Kon X 5 yX7_dips cX7_dips 3 (some .int) gI [.ref (adr X 7 0), .int p1, .int p2] σ (fX7_dips p1 p2 σ) := by
  refine konJ (own := RX7) (fun _ => gI) (fun a b => [.ref (a 7 0), .int p1, .int p2]) (by decide +kernel) rfl (fun _ _ => Nat.le_of_ble_eq_true rfl) (fun Y C M => ?_)
  show V Y gI 0 [(0, .ref (adr Y 7 0)), (1, .int p1), (2, .int p2)] [] σ (fX7_dips p1 p2 σ)
  unfold fX7_dips
  refine v_aload_n 0 C dX7_dips_0 rfl ?_
  refine v_aload_n 0 C dX7_dips_1 rfl ?_
  refine v_geti C dX7_dips_2 lf_X7_89 ck_7 (by decide) ?_
  refine v_aload_n 0 C dX7_dips_5 rfl ?_
  refine v_iload_n 1 C dX7_dips_6 rfl ?_
  refine v_iload_n 2 C dX7_dips_7 rfl ?_
  refine v_cV2i C dX7_dips_8 lv_X7_139 ck_7 (kX7_isContest p1 p2 _) (by decide) (Nat.le_of_ble_eq_true rfl) (fun r2 σ1 => ?_)
  refine v_cV2i C dX7_dips_11 lv_X7_145 ck_7 (kX7_accepts (σ.1 7 0 8) r2 _) (by decide) (Nat.le_of_ble_eq_true rfl) (fun r4 σ3 => ?_)
  refine v_if_ne (tgt := 19) C dX7_dips_14 (by decide) ?_ ?_
  · skip
    refine v_aload_n 0 C dX7_dips_19 rfl ?_
    refine v_iload_n 1 C dX7_dips_20 rfl ?_
    refine v_iload_n 2 C dX7_dips_21 rfl ?_
    refine v_cV2u C dX7_dips_22 lv_X7_149 ck_7 (kX7_played p1 p2 _) (by decide) (Nat.le_of_ble_eq_true rfl) (fun _ σ5 => ?_)
    refine v_geti C dX7_dips_25 lf_X7_184 ck_1 (by decide) ?_
    exact v_iret C M dX7_dips_28
  · skip
    refine v_iconst C dX7_dips_17 kc_iconst_m1 ?_
    exact v_iret C M dX7_dips_18
-- OpenLines faulty(III)I, depth 5
def fX7_faulty (p1 : Int32) (p2 : Int32) (p3 : Int32) (σ : St) : Option (Int32 × St) :=
  bd (fX7_isContest p1 p2 σ) fun (r2 : Int32) (σ1 : St) => bd (fX7_accepts (σ.1 7 0 8) (if r2 = 0 then 0 else (if (fX7_isTick p3) = 0 then 0 else (nI 1))) σ1) fun (r9 : Int32) (σ8 : St) => (if r9 = 0 then some ((-1), σ8) else bd (fX7_played p1 p2 σ8) fun _ (σ10 : St) => bd (fX1_isEvenAt p3 σ10) fun (r12 : Int32) (σ11 : St) => some (if r12 = 0 then 0 else (nI 1), σ11))
set_option maxRecDepth 20000 in
theorem kX7_faulty {X : Cx} (p1 : Int32) (p2 : Int32) (p3 : Int32) (σ : St) : Kon X 5 yX7_faulty cX7_faulty 4 (some .int) gI [.ref (adr X 7 0), .int p1, .int p2, .int p3] σ (fX7_faulty p1 p2 p3 σ) := by
  refine konJ (own := RX7) (fun _ => gI) (fun a b => [.ref (a 7 0), .int p1, .int p2, .int p3]) (by decide +kernel) rfl (fun _ _ => Nat.le_of_ble_eq_true rfl) (fun Y C M => ?_)
  show V Y gI 0 [(0, .ref (adr Y 7 0)), (1, .int p1), (2, .int p2), (3, .int p3)] [] σ (fX7_faulty p1 p2 p3 σ)
  unfold fX7_faulty
  refine v_aload_n 0 C dX7_faulty_0 rfl ?_
  refine v_aload_n 0 C dX7_faulty_1 rfl ?_
  refine v_geti C dX7_faulty_2 lf_X7_89 ck_7 (by decide) ?_
  refine v_aload_n 0 C dX7_faulty_5 rfl ?_
  refine v_iload_n 1 C dX7_faulty_6 rfl ?_
  refine v_iload_n 2 C dX7_faulty_7 rfl ?_
  refine v_cV2i C dX7_faulty_8 lv_X7_139 ck_7 (kX7_isContest p1 p2 _) (by decide) (Nat.le_of_ble_eq_true rfl) (fun r2 σ1 => ?_)
  refine v_cut (pcJ := 26) (lv := [(0, .ref (adr Y 7 0)), (1, .int p1), (2, .int p2), (3, .int p3)]) (st := .int (if r2 = 0 then 0 else (if (fX7_isTick p3) = 0 then 0 else (nI 1))) :: [.int (σ.1 7 0 8), .ref (adr Y 7 0)]) ?_ (fun hj3 => ?_)
  rotate_left
  · skip
    refine v_if_eq_b (tgt := 25) C dX7_faulty_11 (by decide) (fun h4 => ?_) (fun h4 => ?_)
    · have hj5 := v_jpos h4 hj3
      refine v_iconst C dX7_faulty_25 kc_iconst_0 ?_
      exact hj5
    · have hj5 := v_jneg h4 hj3
      refine v_iload_n 3 C dX7_faulty_14 rfl ?_
      refine v_cS1p C dX7_faulty_15 ls_X7_142 (kX7_isTick p3 _) (by decide) (Nat.le_of_ble_eq_true rfl) ?_
      refine v_if_eq_b (tgt := 25) C dX7_faulty_18 (by decide) (fun h6 => ?_) (fun h6 => ?_)
      · have hj7 := v_jpos h6 hj5
        refine v_iconst C dX7_faulty_25 kc_iconst_0 ?_
        exact hj7
      · have hj7 := v_jneg h6 hj5
        refine v_iconst C dX7_faulty_21 kc_iconst_1 ?_
        refine v_goto (tgt := 26) C dX7_faulty_22 (by decide) ?_
        exact hj7
  refine v_cV2i C dX7_faulty_26 lv_X7_145 ck_7 (kX7_accepts (σ.1 7 0 8) (if r2 = 0 then 0 else (if (fX7_isTick p3) = 0 then 0 else (nI 1))) _) (by decide) (Nat.le_of_ble_eq_true rfl) (fun r9 σ8 => ?_)
  refine v_if_ne (tgt := 34) C dX7_faulty_29 (by decide) ?_ ?_
  · skip
    refine v_aload_n 0 C dX7_faulty_34 rfl ?_
    refine v_iload_n 1 C dX7_faulty_35 rfl ?_
    refine v_iload_n 2 C dX7_faulty_36 rfl ?_
    refine v_cV2u C dX7_faulty_37 lv_X7_149 ck_7 (kX7_played p1 p2 _) (by decide) (Nat.le_of_ble_eq_true rfl) (fun _ σ10 => ?_)
    refine v_iload_n 3 C dX7_faulty_40 rfl ?_
    refine v_cV1i C dX7_faulty_41 lv_X7_187 ck_1 (kX1_isEvenAt p3 _) (by decide) (Nat.le_of_ble_eq_true rfl) (fun r12 σ11 => ?_)
    refine v_cut (pcJ := 52) (lv := [(0, .ref (adr Y 7 0)), (1, .int p1), (2, .int p2), (3, .int p3)]) (st := .int (if r12 = 0 then 0 else (nI 1)) :: []) ?_ (fun hj13 => ?_)
    rotate_left
    · skip
      refine v_if_eq_b (tgt := 51) C dX7_faulty_44 (by decide) (fun h14 => ?_) (fun h14 => ?_)
      · have hj15 := v_jpos h14 hj13
        refine v_iconst C dX7_faulty_51 kc_iconst_0 ?_
        exact hj15
      · have hj15 := v_jneg h14 hj13
        refine v_iconst C dX7_faulty_47 kc_iconst_1 ?_
        refine v_goto (tgt := 52) C dX7_faulty_48 (by decide) ?_
        exact hj15
    exact v_iret C M dX7_faulty_52
  · skip
    refine v_iconst C dX7_faulty_32 kc_iconst_m1 ?_
    exact v_iret C M dX7_faulty_33
-- OpenLines edges(IIII)I, depth 5
def fX7_edges (p1 : Int32) (p2 : Int32) (p3 : Int32) (p4 : Int32) (σ : St) : Option (Int32 × St) :=
  bd (fX7_hasBoard p3 σ) fun (r2 : Int32) (σ1 : St) => bd (fX7_isContest p1 p2 σ1) fun (r9 : Int32) (σ8 : St) => bd (fX7_accepts (if r2 = 0 then 0 else (if (fX7_isBelow p4 (nI 6)) = 0 then 0 else (nI 1))) r9 σ8) fun (r11 : Int32) (σ10 : St) => (if r11 = 0 then some ((-1), σ10) else bd (fX7_played p1 p2 σ10) fun _ (σ12 : St) => bd (fX1_edgesOf p3 p4 σ12) fun (r14 : Int32) (σ13 : St) => some (r14, σ13))
set_option maxRecDepth 20000 in
theorem kX7_edges {X : Cx} (p1 : Int32) (p2 : Int32) (p3 : Int32) (p4 : Int32) (σ : St) : Kon X 5 yX7_edges cX7_edges 5 (some .int) gI [.ref (adr X 7 0), .int p1, .int p2, .int p3, .int p4] σ (fX7_edges p1 p2 p3 p4 σ) := by
  refine konJ (own := RX7) (fun _ => gI) (fun a b => [.ref (a 7 0), .int p1, .int p2, .int p3, .int p4]) (by decide +kernel) rfl (fun _ _ => Nat.le_of_ble_eq_true rfl) (fun Y C M => ?_)
  show V Y gI 0 [(0, .ref (adr Y 7 0)), (1, .int p1), (2, .int p2), (3, .int p3), (4, .int p4)] [] σ (fX7_edges p1 p2 p3 p4 σ)
  unfold fX7_edges
  refine v_aload_n 0 C dX7_edges_0 rfl ?_
  refine v_aload_n 0 C dX7_edges_1 rfl ?_
  refine v_iload_n 3 C dX7_edges_2 rfl ?_
  refine v_cV1i C dX7_edges_3 lv_X7_115 ck_7 (kX7_hasBoard p3 _) (by decide) (Nat.le_of_ble_eq_true rfl) (fun r2 σ1 => ?_)
  refine v_cut (pcJ := 24) (lv := [(0, .ref (adr Y 7 0)), (1, .int p1), (2, .int p2), (3, .int p3), (4, .int p4)]) (st := .int (if r2 = 0 then 0 else (if (fX7_isBelow p4 (nI 6)) = 0 then 0 else (nI 1))) :: [.ref (adr Y 7 0)]) ?_ (fun hj3 => ?_)
  rotate_left
  · skip
    refine v_if_eq_b (tgt := 23) C dX7_edges_6 (by decide) (fun h4 => ?_) (fun h4 => ?_)
    · have hj5 := v_jpos h4 hj3
      refine v_iconst C dX7_edges_23 kc_iconst_0 ?_
      exact hj5
    · have hj5 := v_jneg h4 hj3
      refine v_iload 4 C dX7_edges_9 rfl ?_
      refine v_bipush C dX7_edges_11 kc_bipush_6 ?_
      refine v_cS2p C dX7_edges_13 ls_X7_105 (kX7_isBelow p4 (nI 6) _) (by decide) (Nat.le_of_ble_eq_true rfl) ?_
      refine v_if_eq_b (tgt := 23) C dX7_edges_16 (by decide) (fun h6 => ?_) (fun h6 => ?_)
      · have hj7 := v_jpos h6 hj5
        refine v_iconst C dX7_edges_23 kc_iconst_0 ?_
        exact hj7
      · have hj7 := v_jneg h6 hj5
        refine v_iconst C dX7_edges_19 kc_iconst_1 ?_
        refine v_goto (tgt := 24) C dX7_edges_20 (by decide) ?_
        exact hj7
  refine v_aload_n 0 C dX7_edges_24 rfl ?_
  refine v_iload_n 1 C dX7_edges_25 rfl ?_
  refine v_iload_n 2 C dX7_edges_26 rfl ?_
  refine v_cV2i C dX7_edges_27 lv_X7_139 ck_7 (kX7_isContest p1 p2 _) (by decide) (Nat.le_of_ble_eq_true rfl) (fun r9 σ8 => ?_)
  refine v_cV2i C dX7_edges_30 lv_X7_145 ck_7 (kX7_accepts (if r2 = 0 then 0 else (if (fX7_isBelow p4 (nI 6)) = 0 then 0 else (nI 1))) r9 _) (by decide) (Nat.le_of_ble_eq_true rfl) (fun r11 σ10 => ?_)
  refine v_if_ne (tgt := 38) C dX7_edges_33 (by decide) ?_ ?_
  · skip
    refine v_aload_n 0 C dX7_edges_38 rfl ?_
    refine v_iload_n 1 C dX7_edges_39 rfl ?_
    refine v_iload_n 2 C dX7_edges_40 rfl ?_
    refine v_cV2u C dX7_edges_41 lv_X7_149 ck_7 (kX7_played p1 p2 _) (by decide) (Nat.le_of_ble_eq_true rfl) (fun _ σ12 => ?_)
    refine v_iload_n 3 C dX7_edges_44 rfl ?_
    refine v_iload 4 C dX7_edges_45 rfl ?_
    refine v_cV2i C dX7_edges_47 lv_X7_190 ck_1 (kX1_edgesOf p3 p4 _) (by decide) (Nat.le_of_ble_eq_true rfl) (fun r14 σ13 => ?_)
    exact v_iret C M dX7_edges_50
  · skip
    refine v_iconst C dX7_edges_36 kc_iconst_m1 ?_
    exact v_iret C M dX7_edges_37
-- OpenLines filters(II)I, depth 4
def LX7_filters_28 (a2 : Int32) (ke : St → Option (Int32 × St)) : Nat → Int32 → St → Option (Int32 × St)
  | 0, _, _ => none
  | n + 1, b4, σ => (if (nI 20) < b4 then ke σ else bd (fX1_play a2 b4 (nI 400) σ) fun _ (σ6 : St) => bd (fX1_sureFrom σ6) fun (r8 : Int32) (σ7 : St) => (jn (fun (σ9 : St) => LX7_filters_28 a2 ke n (b4 + nI 1) σ9) fun j73 => if r8 = (-2) then j73 σ7 else gd (σ7.2.2 7 0 6 < 6) <| (if (σ7.1 2 (σ7.2.2 7 0 6) 2) < r8 then j73 σ7 else some (b4, σ7))))
def fX7_filters (p1 : Int32) (p2 : Int32) (σ : St) : Option (Int32 × St) :=
  bd (fX7_isContest p1 p2 σ) fun (r2 : Int32) (σ1 : St) => bd (fX7_accepts (σ.1 7 0 8) r2 σ1) fun (r4 : Int32) (σ3 : St) => (if r4 = 0 then some ((-1), σ3) else bd (fX7_laid p1 σ3) fun _ (σ5 : St) => (LX7_filters_28 p2 (fun (σ11 : St) => some ((-2), σ11)) FU 0 σ5))
set_option maxRecDepth 20000 in
theorem vLX7_filters_28 {Y : Cx} (a2 : Int32) (C : Ok Y RX7 cX7_filters 6 4) (M : OkM Y (some .int)) (ke : St → Option (Int32 × St)) (hke : ∀ (σ : St), V Y gI 79 [] [] σ (ke σ)) : ∀ (n : Nat) (b4 : Int32) (σ : St), V Y gI 28 [(0, .ref (adr Y 7 0)), (2, .int a2), (3, .ref (adr Y 1 0)), (4, .int b4)] [] σ (LX7_filters_28 a2 ke n b4 σ) := by
  intro n
  induction n with
  | zero => intros; exact v_none
  | succ n ih =>
    intro b4 σ
    rw [LX7_filters_28]
    refine v_iload 3 C dX7_filters_28 rfl ?_
    refine v_bipush C dX7_filters_30 kc_bipush_20 ?_
    refine v_icmp_gt (tgt := 79) C dX7_filters_32 (by decide) ?_ ?_
    · skip
      exact v_lv (hke σ) [] rfl
    · skip
      refine v_aload_n 2 C dX7_filters_35 rfl ?_
      refine v_iload_n 1 C dX7_filters_36 rfl ?_
      refine v_iload 3 C dX7_filters_37 rfl ?_
      refine v_sipush C dX7_filters_39 kc_sipush_400 ?_
      refine v_cV3v C dX7_filters_42 lv_X7_193 ck_1 (kX1_play a2 b4 (nI 400) _) (by decide) (Nat.le_of_ble_eq_true rfl) (fun _ σ6 => ?_)
      refine v_aload_n 2 C dX7_filters_45 rfl ?_
      refine v_cV0i C dX7_filters_46 lv_X7_173 ck_1 (kX1_sureFrom _) (by decide) (Nat.le_of_ble_eq_true rfl) (fun r8 σ7 => ?_)
      refine v_istore (lv' := [(5, .int r8), (0, .ref (adr Y 7 0)), (2, .int a2), (3, .ref (adr Y 1 0)), (4, .int b4)]) C dX7_filters_49 (by decide) rfl ?_
      refine v_iload 0 C dX7_filters_51 rfl ?_
      refine v_bipush C dX7_filters_53 kc_bipush_m2 ?_
      refine v_jn (fun j73 => ∀ (σ9 : St), V Y gI 73 [(0, .ref (adr Y 7 0)), (2, .int a2), (3, .ref (adr Y 1 0)), (4, .int b4)] [] σ9 (j73 σ9)) ?_ ?_
      · intro σ9
        refine v_iinc (lv' := [(4, .int (b4 + nI 1)), (0, .ref (adr Y 7 0)), (2, .int a2), (3, .ref (adr Y 1 0))]) 3 C dX7_filters_73 rfl (congrArg (b4 + ·) kc_iconst_1) (by decide) rfl ?_
        refine v_goto (tgt := 28) C dX7_filters_76 (by decide) ?_
        exact v_lv (ih (b4 + nI 1) σ9) [1, 2, 3, 0] rfl
      · intro j73 hj73
        refine v_icmp_eq (tgt := 73) C dX7_filters_55 (by decide) ?_ ?_
        · skip
          exact v_lv (hj73 σ7) [1, 2, 3, 4] rfl
        · skip
          refine v_iload 0 C dX7_filters_58 rfl ?_
          refine v_aload_n 1 C dX7_filters_60 rfl ?_
          refine v_getr C dX7_filters_61 lf_X7_48 ck_7 rfl rfl (fun hq10 => ?_)
          refine v_geti C dX7_filters_64 lf_X7_197 hq10 (by decide) ?_
          refine v_icmp_gt (tgt := 73) C dX7_filters_67 (by decide) ?_ ?_
          · skip
            exact v_lv (hj73 σ7) [1, 2, 3, 4] rfl
          · skip
            refine v_iload 4 C dX7_filters_70 rfl ?_
            exact v_iret C M dX7_filters_72
set_option maxRecDepth 20000 in
theorem kX7_filters {X : Cx} (p1 : Int32) (p2 : Int32) (σ : St) : Kon X 4 yX7_filters cX7_filters 6 (some .int) gI [.ref (adr X 7 0), .int p1, .int p2] σ (fX7_filters p1 p2 σ) := by
  refine konJ (own := RX7) (fun _ => gI) (fun a b => [.ref (a 7 0), .int p1, .int p2]) (by decide +kernel) rfl (fun _ _ => Nat.le_of_ble_eq_true rfl) (fun Y C M => ?_)
  show V Y gI 0 [(0, .ref (adr Y 7 0)), (1, .int p1), (2, .int p2)] [] σ (fX7_filters p1 p2 σ)
  unfold fX7_filters
  refine v_aload_n 0 C dX7_filters_0 rfl ?_
  refine v_aload_n 0 C dX7_filters_1 rfl ?_
  refine v_geti C dX7_filters_2 lf_X7_89 ck_7 (by decide) ?_
  refine v_aload_n 0 C dX7_filters_5 rfl ?_
  refine v_iload_n 1 C dX7_filters_6 rfl ?_
  refine v_iload_n 2 C dX7_filters_7 rfl ?_
  refine v_cV2i C dX7_filters_8 lv_X7_139 ck_7 (kX7_isContest p1 p2 _) (by decide) (Nat.le_of_ble_eq_true rfl) (fun r2 σ1 => ?_)
  refine v_cV2i C dX7_filters_11 lv_X7_145 ck_7 (kX7_accepts (σ.1 7 0 8) r2 _) (by decide) (Nat.le_of_ble_eq_true rfl) (fun r4 σ3 => ?_)
  refine v_if_ne (tgt := 19) C dX7_filters_14 (by decide) ?_ ?_
  · skip
    refine v_aload_n 0 C dX7_filters_19 rfl ?_
    refine v_iload_n 1 C dX7_filters_20 rfl ?_
    refine v_cV1u C dX7_filters_21 lv_X7_177 ck_7 (kX7_laid p1 _) (by decide) (Nat.le_of_ble_eq_true rfl) (fun _ σ5 => ?_)
    refine v_astore_n (lv' := [(3, .ref (adr Y 1 0)), (0, .ref (adr Y 7 0)), (1, .int p1), (2, .int p2)]) C dX7_filters_24 rfl (by decide) rfl ?_
    refine v_iconst C dX7_filters_25 kc_iconst_0 ?_
    refine v_istore (lv' := [(4, .int 0), (3, .ref (adr Y 1 0)), (0, .ref (adr Y 7 0)), (1, .int p1), (2, .int p2)]) C dX7_filters_26 (by decide) rfl ?_
    refine v_lv (vLX7_filters_28 _ C M _ (fun σ11 => ?_) FU _ _) [2, 4, 1, 0] rfl
    refine v_bipush C dX7_filters_79 kc_bipush_m2 ?_
    exact v_iret C M dX7_filters_81
  · skip
    refine v_iconst C dX7_filters_17 kc_iconst_m1 ?_
    exact v_iret C M dX7_filters_18
-- OpenLines slowest(I)I, depth 4
def LX7_slowest_31 (ke : Int32 → St → Option (Int32 × St)) : Nat → Int32 → Int32 → Int32 → St → Option (Int32 × St)
  | 0, _, _, _, _ => none
  | n + 1, b3, b4, b5, σ => gd (σ.2.2 7 0 6 < 6) <| bd (fX2_sets (σ.2.2 7 0 6) σ) fun (r6 : Int32) (σ5 : St) => (if r6 ≤ b5 then ke b3 σ5 else gd (σ5.2.2 7 0 6 < 6) <| bd (fX1_play b5 (σ5.1 2 (σ5.2.2 7 0 6) 1) (nI 400) σ5) fun _ (σ8 : St) => (jn (fun (x10 : Int32) (x11 : Int32) (σ9 : St) => LX7_slowest_31 ke n x10 x11 (b5 + nI 1) σ9) fun j77 => if (σ8.1 1 0 15) ≤ b4 then j77 b3 b4 σ8 else lt (σ8.1 1 0 15) fun (x12 : Int32) => j77 b5 x12 σ8))
def fX7_slowest (p1 : Int32) (σ : St) : Option (Int32 × St) :=
  bd (fX7_accepts (σ.1 7 0 8) (fX7_isPass p1) σ) fun (r2 : Int32) (σ1 : St) => (if r2 = 0 then some ((-1), σ1) else bd (fX7_laid p1 σ1) fun _ (σ3 : St) => (LX7_slowest_31 (fun (x13 : Int32) (σ14 : St) => some (x13, σ14)) FU (nI 1) (-1) (nI 1) σ3))
set_option maxRecDepth 20000 in
theorem vLX7_slowest_31 {Y : Cx} (C : Ok Y RX7 cX7_slowest 6 4) (M : OkM Y (some .int)) (ke : Int32 → St → Option (Int32 × St)) (hke : ∀ (b3 : Int32) (σ : St), V Y gI 83 [(3, .int b3)] [] σ (ke b3 σ)) : ∀ (n : Nat) (b3 : Int32) (b4 : Int32) (b5 : Int32) (σ : St), V Y gI 31 [(0, .ref (adr Y 7 0)), (2, .ref (adr Y 1 0)), (3, .int b3), (4, .int b4), (5, .int b5)] [] σ (LX7_slowest_31 ke n b3 b4 b5 σ) := by
  intro n
  induction n with
  | zero => intros; exact v_none
  | succ n ih =>
    intro b3 b4 b5 σ
    rw [LX7_slowest_31]
    refine v_iload 4 C dX7_slowest_31 rfl ?_
    refine v_aload_n 0 C dX7_slowest_33 rfl ?_
    refine v_getr C dX7_slowest_34 lf_X7_48 ck_7 rfl rfl (fun hq4 => ?_)
    refine v_cV0i C dX7_slowest_37 lv_X7_200 hq4 (kX2_sets (σ.2.2 7 0 6) hq4 _) (by decide) (Nat.le_of_ble_eq_true rfl) (fun r6 σ5 => ?_)
    refine v_icmp_ge (tgt := 83) C dX7_slowest_40 (by decide) ?_ ?_
    · skip
      exact v_lv (hke b3 σ5) [2] rfl
    · skip
      refine v_aload_n 1 C dX7_slowest_43 rfl ?_
      refine v_iload 4 C dX7_slowest_44 rfl ?_
      refine v_aload_n 0 C dX7_slowest_46 rfl ?_
      refine v_getr C dX7_slowest_47 lf_X7_48 ck_7 rfl rfl (fun hq7 => ?_)
      refine v_geti C dX7_slowest_50 lf_X7_203 hq7 (by decide) ?_
      refine v_sipush C dX7_slowest_53 kc_sipush_400 ?_
      refine v_cV3v C dX7_slowest_56 lv_X7_193 ck_1 (kX1_play b5 (σ5.1 2 (σ5.2.2 7 0 6) 1) (nI 400) _) (by decide) (Nat.le_of_ble_eq_true rfl) (fun _ σ8 => ?_)
      refine v_aload_n 1 C dX7_slowest_59 rfl ?_
      refine v_geti C dX7_slowest_60 lf_X7_170 ck_1 (by decide) ?_
      refine v_iload 3 C dX7_slowest_63 rfl ?_
      refine v_jn (fun j77 => ∀ (x10 : Int32) (x11 : Int32) (σ9 : St), V Y gI 77 [(0, .ref (adr Y 7 0)), (2, .ref (adr Y 1 0)), (3, .int x10), (4, .int x11), (5, .int b5)] [] σ9 (j77 x10 x11 σ9)) ?_ ?_
      · intro x10 x11 σ9
        refine v_iinc (lv' := [(5, .int (b5 + nI 1)), (0, .ref (adr Y 7 0)), (2, .ref (adr Y 1 0)), (3, .int x10), (4, .int x11)]) 4 C dX7_slowest_77 rfl (congrArg (b5 + ·) kc_iconst_1) (by decide) rfl ?_
        refine v_goto (tgt := 31) C dX7_slowest_80 (by decide) ?_
        exact v_lv (ih x10 x11 (b5 + nI 1) σ9) [1, 2, 3, 4, 0] rfl
      · intro j77 hj77
        refine v_icmp_le (tgt := 77) C dX7_slowest_65 (by decide) ?_ ?_
        · skip
          exact v_lv (hj77 b3 b4 σ8) [0, 1, 2, 3, 4] rfl
        · skip
          refine v_aload_n 1 C dX7_slowest_68 rfl ?_
          refine v_geti C dX7_slowest_69 lf_X7_170 ck_1 (by decide) ?_
          refine v_istoreL (lv0 := [(0, .ref (adr Y 7 0)), (2, .ref (adr Y 1 0)), (3, .int b3), (5, .int b5)]) C dX7_slowest_72 (by decide) rfl (fun x12 => ?_)
          refine v_iload 4 C dX7_slowest_74 rfl ?_
          refine v_istore_n (lv' := [(3, .int b5), (4, .int x12), (0, .ref (adr Y 7 0)), (2, .ref (adr Y 1 0)), (5, .int b5)]) C dX7_slowest_76 rfl (by decide) rfl ?_
          exact v_lv (hj77 b5 x12 σ8) [2, 3, 0, 1, 4] rfl
set_option maxRecDepth 20000 in
theorem kX7_slowest {X : Cx} (p1 : Int32) (σ : St) : Kon X 4 yX7_slowest cX7_slowest 6 (some .int) gI [.ref (adr X 7 0), .int p1] σ (fX7_slowest p1 σ) := by
  refine konJ (own := RX7) (fun _ => gI) (fun a b => [.ref (a 7 0), .int p1]) (by decide +kernel) rfl (fun _ _ => Nat.le_of_ble_eq_true rfl) (fun Y C M => ?_)
  show V Y gI 0 [(0, .ref (adr Y 7 0)), (1, .int p1)] [] σ (fX7_slowest p1 σ)
  unfold fX7_slowest
  refine v_aload_n 0 C dX7_slowest_0 rfl ?_
  refine v_aload_n 0 C dX7_slowest_1 rfl ?_
  refine v_geti C dX7_slowest_2 lf_X7_89 ck_7 (by decide) ?_
  refine v_iload_n 1 C dX7_slowest_5 rfl ?_
  refine v_cS1p C dX7_slowest_6 ls_X7_128 (kX7_isPass p1 _) (by decide) (Nat.le_of_ble_eq_true rfl) ?_
  refine v_cV2i C dX7_slowest_9 lv_X7_145 ck_7 (kX7_accepts (σ.1 7 0 8) (fX7_isPass p1) _) (by decide) (Nat.le_of_ble_eq_true rfl) (fun r2 σ1 => ?_)
  refine v_if_ne (tgt := 17) C dX7_slowest_12 (by decide) ?_ ?_
  · skip
    refine v_aload_n 0 C dX7_slowest_17 rfl ?_
    refine v_iload_n 1 C dX7_slowest_18 rfl ?_
    refine v_cV1u C dX7_slowest_19 lv_X7_177 ck_7 (kX7_laid p1 _) (by decide) (Nat.le_of_ble_eq_true rfl) (fun _ σ3 => ?_)
    refine v_astore_n (lv' := [(2, .ref (adr Y 1 0)), (0, .ref (adr Y 7 0)), (1, .int p1)]) C dX7_slowest_22 rfl (by decide) rfl ?_
    refine v_iconst C dX7_slowest_23 kc_iconst_1 ?_
    refine v_istore_n (lv' := [(3, .int (nI 1)), (2, .ref (adr Y 1 0)), (0, .ref (adr Y 7 0)), (1, .int p1)]) C dX7_slowest_24 rfl (by decide) rfl ?_
    refine v_iconst C dX7_slowest_25 kc_iconst_m1 ?_
    refine v_istore (lv' := [(4, .int (-1)), (3, .int (nI 1)), (2, .ref (adr Y 1 0)), (0, .ref (adr Y 7 0)), (1, .int p1)]) C dX7_slowest_26 (by decide) rfl ?_
    refine v_iconst C dX7_slowest_28 kc_iconst_1 ?_
    refine v_istore (lv' := [(5, .int (nI 1)), (4, .int (-1)), (3, .int (nI 1)), (2, .ref (adr Y 1 0)), (0, .ref (adr Y 7 0)), (1, .int p1)]) C dX7_slowest_29 (by decide) rfl ?_
    refine v_lv (vLX7_slowest_31 C M _ (fun x13 σ14 => ?_) FU _ _ _ _) [4, 3, 2, 1, 0] rfl
    refine v_iload_n 0 C dX7_slowest_83 rfl ?_
    exact v_iret C M dX7_slowest_84
  · skip
    refine v_iconst C dX7_slowest_15 kc_iconst_m1 ?_
    exact v_iret C M dX7_slowest_16
-- OpenLines settled(II)I, depth 4
def LX7_settled_44 (a2 : Int32) (ke : Int32 → St → Option (Int32 × St)) : Nat → Int32 → Int32 → St → Option (Int32 × St)
  | 0, _, _, _ => none
  | n + 1, b4, b5, σ => gd (σ.2.2 7 0 6 < 6) <| bd (fX2_sets (σ.2.2 7 0 6) σ) fun (r11 : Int32) (σ10 : St) => (if r11 ≤ b5 then ke b4 σ10 else gd (σ10.2.2 7 0 6 < 6) <| bd (fX1_play b5 (σ10.1 2 (σ10.2.2 7 0 6) 1) (nI 400) σ10) fun _ (σ13 : St) => (jn (fun (x15 : Int32) (σ14 : St) => LX7_settled_44 a2 ke n x15 (b5 + nI 1) σ14) fun j83 => if a2 < (σ13.1 1 0 15) then j83 b4 σ13 else j83 (b4 + nI 1) σ13))
def fX7_settled (p1 : Int32) (p2 : Int32) (σ : St) : Option (Int32 × St) :=
  bd (fX7_accepts (σ.1 7 0 8) (if (fX7_isPass p1) = 0 then 0 else (if (fX7_isTick p2) = 0 then 0 else (nI 1))) σ) fun (r7 : Int32) (σ6 : St) => (if r7 = 0 then some ((-1), σ6) else bd (fX7_laid p1 σ6) fun _ (σ8 : St) => (LX7_settled_44 p2 (fun (x16 : Int32) (σ17 : St) => some (x16, σ17)) FU 0 (nI 1) σ8))
set_option maxRecDepth 20000 in
theorem vLX7_settled_44 {Y : Cx} (a2 : Int32) (C : Ok Y RX7 cX7_settled 6 4) (M : OkM Y (some .int)) (ke : Int32 → St → Option (Int32 × St)) (hke : ∀ (b4 : Int32) (σ : St), V Y gI 89 [(4, .int b4)] [] σ (ke b4 σ)) : ∀ (n : Nat) (b4 : Int32) (b5 : Int32) (σ : St), V Y gI 44 [(0, .ref (adr Y 7 0)), (2, .int a2), (3, .ref (adr Y 1 0)), (4, .int b4), (5, .int b5)] [] σ (LX7_settled_44 a2 ke n b4 b5 σ) := by
  intro n
  induction n with
  | zero => intros; exact v_none
  | succ n ih =>
    intro b4 b5 σ
    rw [LX7_settled_44]
    refine v_iload 4 C dX7_settled_44 rfl ?_
    refine v_aload_n 0 C dX7_settled_46 rfl ?_
    refine v_getr C dX7_settled_47 lf_X7_48 ck_7 rfl rfl (fun hq9 => ?_)
    refine v_cV0i C dX7_settled_50 lv_X7_200 hq9 (kX2_sets (σ.2.2 7 0 6) hq9 _) (by decide) (Nat.le_of_ble_eq_true rfl) (fun r11 σ10 => ?_)
    refine v_icmp_ge (tgt := 89) C dX7_settled_53 (by decide) ?_ ?_
    · skip
      exact v_lv (hke b4 σ10) [3] rfl
    · skip
      refine v_aload_n 2 C dX7_settled_56 rfl ?_
      refine v_iload 4 C dX7_settled_57 rfl ?_
      refine v_aload_n 0 C dX7_settled_59 rfl ?_
      refine v_getr C dX7_settled_60 lf_X7_48 ck_7 rfl rfl (fun hq12 => ?_)
      refine v_geti C dX7_settled_63 lf_X7_203 hq12 (by decide) ?_
      refine v_sipush C dX7_settled_66 kc_sipush_400 ?_
      refine v_cV3v C dX7_settled_69 lv_X7_193 ck_1 (kX1_play b5 (σ10.1 2 (σ10.2.2 7 0 6) 1) (nI 400) _) (by decide) (Nat.le_of_ble_eq_true rfl) (fun _ σ13 => ?_)
      refine v_aload_n 2 C dX7_settled_72 rfl ?_
      refine v_geti C dX7_settled_73 lf_X7_170 ck_1 (by decide) ?_
      refine v_iload_n 1 C dX7_settled_76 rfl ?_
      refine v_jn (fun j83 => ∀ (x15 : Int32) (σ14 : St), V Y gI 83 [(0, .ref (adr Y 7 0)), (2, .int a2), (3, .ref (adr Y 1 0)), (4, .int x15), (5, .int b5)] [] σ14 (j83 x15 σ14)) ?_ ?_
      · intro x15 σ14
        refine v_iinc (lv' := [(5, .int (b5 + nI 1)), (0, .ref (adr Y 7 0)), (2, .int a2), (3, .ref (adr Y 1 0)), (4, .int x15)]) 4 C dX7_settled_83 rfl (congrArg (b5 + ·) kc_iconst_1) (by decide) rfl ?_
        refine v_goto (tgt := 44) C dX7_settled_86 (by decide) ?_
        exact v_lv (ih x15 (b5 + nI 1) σ14) [1, 2, 3, 4, 0] rfl
      · intro j83 hj83
        refine v_icmp_gt (tgt := 83) C dX7_settled_77 (by decide) ?_ ?_
        · skip
          exact v_lv (hj83 b4 σ13) [0, 1, 2, 3, 4] rfl
        · skip
          refine v_iinc (lv' := [(4, .int (b4 + nI 1)), (0, .ref (adr Y 7 0)), (2, .int a2), (3, .ref (adr Y 1 0)), (5, .int b5)]) 3 C dX7_settled_80 rfl (congrArg (b4 + ·) kc_iconst_1) (by decide) rfl ?_
          exact v_lv (hj83 (b4 + nI 1) σ13) [1, 2, 3, 0, 4] rfl
set_option maxRecDepth 20000 in
theorem kX7_settled {X : Cx} (p1 : Int32) (p2 : Int32) (σ : St) : Kon X 4 yX7_settled cX7_settled 6 (some .int) gI [.ref (adr X 7 0), .int p1, .int p2] σ (fX7_settled p1 p2 σ) := by
  refine konJ (own := RX7) (fun _ => gI) (fun a b => [.ref (a 7 0), .int p1, .int p2]) (by decide +kernel) rfl (fun _ _ => Nat.le_of_ble_eq_true rfl) (fun Y C M => ?_)
  show V Y gI 0 [(0, .ref (adr Y 7 0)), (1, .int p1), (2, .int p2)] [] σ (fX7_settled p1 p2 σ)
  unfold fX7_settled
  refine v_aload_n 0 C dX7_settled_0 rfl ?_
  refine v_aload_n 0 C dX7_settled_1 rfl ?_
  refine v_geti C dX7_settled_2 lf_X7_89 ck_7 (by decide) ?_
  refine v_iload_n 1 C dX7_settled_5 rfl ?_
  refine v_cS1p C dX7_settled_6 ls_X7_128 (kX7_isPass p1 _) (by decide) (Nat.le_of_ble_eq_true rfl) ?_
  refine v_cut (pcJ := 24) (lv := [(0, .ref (adr Y 7 0)), (1, .int p1), (2, .int p2)]) (st := .int (if (fX7_isPass p1) = 0 then 0 else (if (fX7_isTick p2) = 0 then 0 else (nI 1))) :: [.int (σ.1 7 0 8), .ref (adr Y 7 0)]) ?_ (fun hj1 => ?_)
  rotate_left
  · skip
    refine v_if_eq_b (tgt := 23) C dX7_settled_9 (by decide) (fun h2 => ?_) (fun h2 => ?_)
    · have hj3 := v_jpos h2 hj1
      refine v_iconst C dX7_settled_23 kc_iconst_0 ?_
      exact hj3
    · have hj3 := v_jneg h2 hj1
      refine v_iload_n 2 C dX7_settled_12 rfl ?_
      refine v_cS1p C dX7_settled_13 ls_X7_142 (kX7_isTick p2 _) (by decide) (Nat.le_of_ble_eq_true rfl) ?_
      refine v_if_eq_b (tgt := 23) C dX7_settled_16 (by decide) (fun h4 => ?_) (fun h4 => ?_)
      · have hj5 := v_jpos h4 hj3
        refine v_iconst C dX7_settled_23 kc_iconst_0 ?_
        exact hj5
      · have hj5 := v_jneg h4 hj3
        refine v_iconst C dX7_settled_19 kc_iconst_1 ?_
        refine v_goto (tgt := 24) C dX7_settled_20 (by decide) ?_
        exact hj5
  refine v_cV2i C dX7_settled_24 lv_X7_145 ck_7 (kX7_accepts (σ.1 7 0 8) (if (fX7_isPass p1) = 0 then 0 else (if (fX7_isTick p2) = 0 then 0 else (nI 1))) _) (by decide) (Nat.le_of_ble_eq_true rfl) (fun r7 σ6 => ?_)
  refine v_if_ne (tgt := 32) C dX7_settled_27 (by decide) ?_ ?_
  · skip
    refine v_aload_n 0 C dX7_settled_32 rfl ?_
    refine v_iload_n 1 C dX7_settled_33 rfl ?_
    refine v_cV1u C dX7_settled_34 lv_X7_177 ck_7 (kX7_laid p1 _) (by decide) (Nat.le_of_ble_eq_true rfl) (fun _ σ8 => ?_)
    refine v_astore_n (lv' := [(3, .ref (adr Y 1 0)), (0, .ref (adr Y 7 0)), (1, .int p1), (2, .int p2)]) C dX7_settled_37 rfl (by decide) rfl ?_
    refine v_iconst C dX7_settled_38 kc_iconst_0 ?_
    refine v_istore (lv' := [(4, .int 0), (3, .ref (adr Y 1 0)), (0, .ref (adr Y 7 0)), (1, .int p1), (2, .int p2)]) C dX7_settled_39 (by decide) rfl ?_
    refine v_iconst C dX7_settled_41 kc_iconst_1 ?_
    refine v_istore (lv' := [(5, .int (nI 1)), (4, .int 0), (3, .ref (adr Y 1 0)), (0, .ref (adr Y 7 0)), (1, .int p1), (2, .int p2)]) C dX7_settled_42 (by decide) rfl ?_
    refine v_lv (vLX7_settled_44 _ C M _ (fun x16 σ17 => ?_) FU _ _ _) [3, 5, 2, 1, 0] rfl
    refine v_iload 0 C dX7_settled_89 rfl ?_
    exact v_iret C M dX7_settled_91
  · skip
    refine v_iconst C dX7_settled_30 kc_iconst_m1 ?_
    exact v_iret C M dX7_settled_31
-- OpenLines enough(I)I, depth 4
def LX7_enough_28 (ke : Int32 → St → Option (Int32 × St)) : Nat → Int32 → Int32 → St → Option (Int32 × St)
  | 0, _, _, _ => none
  | n + 1, b3, b4, σ => gd (σ.2.2 7 0 6 < 6) <| bd (fX2_sets (σ.2.2 7 0 6) σ) fun (r6 : Int32) (σ5 : St) => (if r6 ≤ b4 then ke b3 σ5 else gd (σ5.2.2 7 0 6 < 6) <| bd (fX1_play b4 (σ5.1 2 (σ5.2.2 7 0 6) 1) (nI 400) σ5) fun _ (σ8 : St) => bd (fX1_sureFrom σ8) fun (r10 : Int32) (σ9 : St) => (if r10 = (-2) then some ((-2), σ9) else lt (if b3 < r10 then r10 else b3) fun (x11 : Int32) => LX7_enough_28 ke n x11 (b4 + nI 1) σ9))
def fX7_enough (p1 : Int32) (σ : St) : Option (Int32 × St) :=
  bd (fX7_accepts (σ.1 7 0 8) (fX7_isPass p1) σ) fun (r2 : Int32) (σ1 : St) => (if r2 = 0 then some ((-1), σ1) else bd (fX7_laid p1 σ1) fun _ (σ3 : St) => (LX7_enough_28 (fun (x12 : Int32) (σ13 : St) => some (x12, σ13)) FU 0 (nI 1) σ3))
set_option maxRecDepth 20000 in
theorem vLX7_enough_28 {Y : Cx} (C : Ok Y RX7 cX7_enough 6 4) (M : OkM Y (some .int)) (ke : Int32 → St → Option (Int32 × St)) (hke : ∀ (b3 : Int32) (σ : St), V Y gI 85 [(3, .int b3)] [] σ (ke b3 σ)) : ∀ (n : Nat) (b3 : Int32) (b4 : Int32) (σ : St), V Y gI 28 [(0, .ref (adr Y 7 0)), (2, .ref (adr Y 1 0)), (3, .int b3), (4, .int b4)] [] σ (LX7_enough_28 ke n b3 b4 σ) := by
  intro n
  induction n with
  | zero => intros; exact v_none
  | succ n ih =>
    intro b3 b4 σ
    rw [LX7_enough_28]
    refine v_iload 3 C dX7_enough_28 rfl ?_
    refine v_aload_n 0 C dX7_enough_30 rfl ?_
    refine v_getr C dX7_enough_31 lf_X7_48 ck_7 rfl rfl (fun hq4 => ?_)
    refine v_cV0i C dX7_enough_34 lv_X7_200 hq4 (kX2_sets (σ.2.2 7 0 6) hq4 _) (by decide) (Nat.le_of_ble_eq_true rfl) (fun r6 σ5 => ?_)
    refine v_icmp_ge (tgt := 85) C dX7_enough_37 (by decide) ?_ ?_
    · skip
      exact v_lv (hke b3 σ5) [2] rfl
    · skip
      refine v_aload_n 1 C dX7_enough_40 rfl ?_
      refine v_iload 3 C dX7_enough_41 rfl ?_
      refine v_aload_n 0 C dX7_enough_43 rfl ?_
      refine v_getr C dX7_enough_44 lf_X7_48 ck_7 rfl rfl (fun hq7 => ?_)
      refine v_geti C dX7_enough_47 lf_X7_203 hq7 (by decide) ?_
      refine v_sipush C dX7_enough_50 kc_sipush_400 ?_
      refine v_cV3v C dX7_enough_53 lv_X7_193 ck_1 (kX1_play b4 (σ5.1 2 (σ5.2.2 7 0 6) 1) (nI 400) _) (by decide) (Nat.le_of_ble_eq_true rfl) (fun _ σ8 => ?_)
      refine v_aload_n 1 C dX7_enough_56 rfl ?_
      refine v_cV0i C dX7_enough_57 lv_X7_173 ck_1 (kX1_sureFrom _) (by decide) (Nat.le_of_ble_eq_true rfl) (fun r10 σ9 => ?_)
      refine v_istore (lv' := [(5, .int r10), (0, .ref (adr Y 7 0)), (2, .ref (adr Y 1 0)), (3, .int b3), (4, .int b4)]) C dX7_enough_60 (by decide) rfl ?_
      refine v_iload 0 C dX7_enough_62 rfl ?_
      refine v_bipush C dX7_enough_64 kc_bipush_m2 ?_
      refine v_icmp_ne (tgt := 72) C dX7_enough_66 (by decide) ?_ ?_
      · skip
        refine v_iload_n 3 C dX7_enough_72 rfl ?_
        refine v_iload 0 C dX7_enough_73 rfl ?_
        refine v_mmax C dX7_enough_75 mt_X7_206 wSt_max wMath wCd_max (by decide) (Nat.le_of_ble_eq_true rfl) ?_
        refine v_istore_nL (lv0 := [(5, .int r10), (0, .ref (adr Y 7 0)), (2, .ref (adr Y 1 0)), (4, .int b4)]) C dX7_enough_78 rfl (by decide) rfl (fun x11 => ?_)
        refine v_iinc (lv' := [(4, .int (b4 + nI 1)), (3, .int x11), (5, .int r10), (0, .ref (adr Y 7 0)), (2, .ref (adr Y 1 0))]) 4 C dX7_enough_79 rfl (congrArg (b4 + ·) kc_iconst_1) (by decide) rfl ?_
        refine v_goto (tgt := 28) C dX7_enough_82 (by decide) ?_
        exact v_lv (ih x11 (b4 + nI 1) σ9) [3, 4, 1, 0] rfl
      · skip
        refine v_bipush C dX7_enough_69 kc_bipush_m2 ?_
        exact v_iret C M dX7_enough_71
set_option maxRecDepth 20000 in
theorem kX7_enough {X : Cx} (p1 : Int32) (σ : St) : Kon X 4 yX7_enough cX7_enough 6 (some .int) gI [.ref (adr X 7 0), .int p1] σ (fX7_enough p1 σ) := by
  refine konJ (own := RX7) (fun _ => gI) (fun a b => [.ref (a 7 0), .int p1]) (by decide +kernel) rfl (fun _ _ => Nat.le_of_ble_eq_true rfl) (fun Y C M => ?_)
  show V Y gI 0 [(0, .ref (adr Y 7 0)), (1, .int p1)] [] σ (fX7_enough p1 σ)
  unfold fX7_enough
  refine v_aload_n 0 C dX7_enough_0 rfl ?_
  refine v_aload_n 0 C dX7_enough_1 rfl ?_
  refine v_geti C dX7_enough_2 lf_X7_89 ck_7 (by decide) ?_
  refine v_iload_n 1 C dX7_enough_5 rfl ?_
  refine v_cS1p C dX7_enough_6 ls_X7_128 (kX7_isPass p1 _) (by decide) (Nat.le_of_ble_eq_true rfl) ?_
  refine v_cV2i C dX7_enough_9 lv_X7_145 ck_7 (kX7_accepts (σ.1 7 0 8) (fX7_isPass p1) _) (by decide) (Nat.le_of_ble_eq_true rfl) (fun r2 σ1 => ?_)
  refine v_if_ne (tgt := 17) C dX7_enough_12 (by decide) ?_ ?_
  · skip
    refine v_aload_n 0 C dX7_enough_17 rfl ?_
    refine v_iload_n 1 C dX7_enough_18 rfl ?_
    refine v_cV1u C dX7_enough_19 lv_X7_177 ck_7 (kX7_laid p1 _) (by decide) (Nat.le_of_ble_eq_true rfl) (fun _ σ3 => ?_)
    refine v_astore_n (lv' := [(2, .ref (adr Y 1 0)), (0, .ref (adr Y 7 0)), (1, .int p1)]) C dX7_enough_22 rfl (by decide) rfl ?_
    refine v_iconst C dX7_enough_23 kc_iconst_0 ?_
    refine v_istore_n (lv' := [(3, .int 0), (2, .ref (adr Y 1 0)), (0, .ref (adr Y 7 0)), (1, .int p1)]) C dX7_enough_24 rfl (by decide) rfl ?_
    refine v_iconst C dX7_enough_25 kc_iconst_1 ?_
    refine v_istore (lv' := [(4, .int (nI 1)), (3, .int 0), (2, .ref (adr Y 1 0)), (0, .ref (adr Y 7 0)), (1, .int p1)]) C dX7_enough_26 (by decide) rfl ?_
    refine v_lv (vLX7_enough_28 C M _ (fun x12 σ13 => ?_) FU _ _ _) [3, 2, 1, 0] rfl
    refine v_iload_n 0 C dX7_enough_85 rfl ?_
    exact v_iret C M dX7_enough_86
  · skip
    refine v_iconst C dX7_enough_15 kc_iconst_m1 ?_
    exact v_iret C M dX7_enough_16
-- OpenLines would(I)I, depth 4
def fX7_would (p1 : Int32) (σ : St) : Option (Int32 × St) :=
  bd (fX7_isSet p1 σ) fun (r2 : Int32) (σ1 : St) => bd (fX7_accepts (σ.1 7 0 8) r2 σ1) fun (r4 : Int32) (σ3 : St) => (if r4 = 0 then some ((-1), σ3) else bd (fX4_rankWords 0 σ3) fun _ (σ5 : St) => bd (fX0_decide 0 31 0 p1 σ5) fun _ (σ6 : St) => some (σ6.1 0 0 4, σ6))
set_option maxRecDepth 20000 in
theorem kX7_would {X : Cx} (p1 : Int32) (σ : St) : Kon X 4 yX7_would cX7_would 2 (some .int) gI [.ref (adr X 7 0), .int p1] σ (fX7_would p1 σ) := by
  refine konJ (own := RX7) (fun _ => gI) (fun a b => [.ref (a 7 0), .int p1]) (by decide +kernel) rfl (fun _ _ => Nat.le_of_ble_eq_true rfl) (fun Y C M => ?_)
  show V Y gI 0 [(0, .ref (adr Y 7 0)), (1, .int p1)] [] σ (fX7_would p1 σ)
  unfold fX7_would
  refine v_aload_n 0 C dX7_would_0 rfl ?_
  refine v_aload_n 0 C dX7_would_1 rfl ?_
  refine v_geti C dX7_would_2 lf_X7_89 ck_7 (by decide) ?_
  refine v_aload_n 0 C dX7_would_5 rfl ?_
  refine v_iload_n 1 C dX7_would_6 rfl ?_
  refine v_cV1i C dX7_would_7 lv_X7_211 ck_7 (kX7_isSet p1 _) (by decide) (Nat.le_of_ble_eq_true rfl) (fun r2 σ1 => ?_)
  refine v_cV2i C dX7_would_10 lv_X7_145 ck_7 (kX7_accepts (σ.1 7 0 8) r2 _) (by decide) (Nat.le_of_ble_eq_true rfl) (fun r4 σ3 => ?_)
  refine v_if_ne (tgt := 18) C dX7_would_13 (by decide) ?_ ?_
  · skip
    refine v_aload_n 0 C dX7_would_18 rfl ?_
    refine v_getk C dX7_would_19 lf_X7_28 ck_7 rfl ?_
    refine v_aload_n 0 C dX7_would_22 rfl ?_
    refine v_getk C dX7_would_23 lf_X7_35 ck_7 rfl ?_
    refine v_aload_n 0 C dX7_would_26 rfl ?_
    refine v_getk C dX7_would_27 lf_X7_35 ck_7 rfl ?_
    refine v_cV0u C dX7_would_30 lv_X7_131 ck_4 (kX4_rankWords 0 ck_4 _) (by decide) (Nat.le_of_ble_eq_true rfl) (fun _ σ5 => ?_)
    refine v_iload_n 1 C dX7_would_33 rfl ?_
    refine v_cV3v C dX7_would_34 lv_X7_214 ck_0 (kX0_decide 0 31 0 p1 ck_4 (by decide) ck_4 _) (by decide) (Nat.le_of_ble_eq_true rfl) (fun _ σ6 => ?_)
    refine v_aload_n 0 C dX7_would_37 rfl ?_
    refine v_getk C dX7_would_38 lf_X7_28 ck_7 rfl ?_
    refine v_geti C dX7_would_41 lf_X7_218 ck_0 (by decide) ?_
    exact v_iret C M dX7_would_44
  · skip
    refine v_iconst C dX7_would_16 kc_iconst_m1 ?_
    exact v_iret C M dX7_would_17
-- OpenLines now(I)I, depth 2
def fX7_now (p1 : Int32) (σ : St) : Option (Int32 × St) :=
  (jn (fun (σ1 : St) => bd (fX7_refused (nI 1) σ1) fun (r3 : Int32) (σ2 : St) => some (r3, σ2)) fun j16 => if (σ.1 7 0 8) = 0 then j16 σ else (if (fX7_isBelow p1 (nI 11)) = 0 then j16 σ else bd (fX4_state 0 p1 σ) fun (r5 : Int32) (σ4 : St) => bd (fX7_accepted r5 σ4) fun (r7 : Int32) (σ6 : St) => some (r7, σ6)))
set_option maxRecDepth 20000 in
theorem kX7_now {X : Cx} (p1 : Int32) (σ : St) : Kon X 2 yX7_now cX7_now 2 (some .int) gI [.ref (adr X 7 0), .int p1] σ (fX7_now p1 σ) := by
  refine konJ (own := RX7) (fun _ => gI) (fun a b => [.ref (a 7 0), .int p1]) (by decide +kernel) rfl (fun _ _ => Nat.le_of_ble_eq_true rfl) (fun Y C M => ?_)
  show V Y gI 0 [(0, .ref (adr Y 7 0)), (1, .int p1)] [] σ (fX7_now p1 σ)
  unfold fX7_now
  refine v_aload_n 0 C dX7_now_0 rfl ?_
  refine v_geti C dX7_now_1 lf_X7_89 ck_7 (by decide) ?_
  refine v_jn (fun j16 => ∀ (σ1 : St), V Y gI 16 [(0, .ref (adr Y 7 0))] [] σ1 (j16 σ1)) ?_ ?_
  · intro σ1
    refine v_aload_n 0 C dX7_now_16 rfl ?_
    refine v_iconst C dX7_now_17 kc_iconst_1 ?_
    refine v_cV1i C dX7_now_18 lv_X7_67 ck_7 (kX7_refused (nI 1) _) (by decide) (Nat.le_of_ble_eq_true rfl) (fun r3 σ2 => ?_)
    exact v_iret C M dX7_now_21
  · intro j16 hj16
    refine v_if_eq (tgt := 16) C dX7_now_4 (by decide) ?_ ?_
    · skip
      exact v_lv (hj16 σ) [0] rfl
    · skip
      refine v_iload_n 1 C dX7_now_7 rfl ?_
      refine v_bipush C dX7_now_8 kc_bipush_11 ?_
      refine v_cS2p C dX7_now_10 ls_X7_105 (kX7_isBelow p1 (nI 11) _) (by decide) (Nat.le_of_ble_eq_true rfl) ?_
      refine v_if_ne (tgt := 22) C dX7_now_13 (by decide) ?_ ?_
      · skip
        refine v_aload_n 0 C dX7_now_22 rfl ?_
        refine v_aload_n 0 C dX7_now_23 rfl ?_
        refine v_getk C dX7_now_24 lf_X7_35 ck_7 rfl ?_
        refine v_iload_n 1 C dX7_now_27 rfl ?_
        refine v_cV1i C dX7_now_28 lv_X7_221 ck_4 (kX4_state 0 p1 ck_4 _) (by decide) (Nat.le_of_ble_eq_true rfl) (fun r5 σ4 => ?_)
        refine v_cV1i C dX7_now_31 lv_X7_99 ck_7 (kX7_accepted r5 _) (by decide) (Nat.le_of_ble_eq_true rfl) (fun r7 σ6 => ?_)
        exact v_iret C M dX7_now_34
      · skip
        exact v_lv (hj16 σ) [0] rfl
-- OpenLines ledger(II)I, depth 3
def fX7_ledger (p1 : Int32) (p2 : Int32) (σ : St) : Option (Int32 × St) :=
  bd (fX7_hasBoard p1 σ) fun (r2 : Int32) (σ1 : St) => (jn (fun (σ3 : St) => bd (fX7_refused (nI 1) σ3) fun (r5 : Int32) (σ4 : St) => some (r5, σ4)) fun j17 => if r2 = 0 then j17 σ1 else (if (fX7_isBelow p2 (nI 6)) = 0 then j17 σ1 else bd (fX5_account 0 p1 p2 σ1) fun (r7 : Int32) (σ6 : St) => bd (fX7_accepted r7 σ6) fun (r9 : Int32) (σ8 : St) => some (r9, σ8)))
set_option maxRecDepth 20000 in
theorem kX7_ledger {X : Cx} (p1 : Int32) (p2 : Int32) (σ : St) : Kon X 3 yX7_ledger cX7_ledger 3 (some .int) gI [.ref (adr X 7 0), .int p1, .int p2] σ (fX7_ledger p1 p2 σ) := by
  refine konJ (own := RX7) (fun _ => gI) (fun a b => [.ref (a 7 0), .int p1, .int p2]) (by decide +kernel) rfl (fun _ _ => Nat.le_of_ble_eq_true rfl) (fun Y C M => ?_)
  show V Y gI 0 [(0, .ref (adr Y 7 0)), (1, .int p1), (2, .int p2)] [] σ (fX7_ledger p1 p2 σ)
  unfold fX7_ledger
  refine v_aload_n 0 C dX7_ledger_0 rfl ?_
  refine v_iload_n 1 C dX7_ledger_1 rfl ?_
  refine v_cV1i C dX7_ledger_2 lv_X7_115 ck_7 (kX7_hasBoard p1 _) (by decide) (Nat.le_of_ble_eq_true rfl) (fun r2 σ1 => ?_)
  refine v_jn (fun j17 => ∀ (σ3 : St), V Y gI 17 [(0, .ref (adr Y 7 0))] [] σ3 (j17 σ3)) ?_ ?_
  · intro σ3
    refine v_aload_n 0 C dX7_ledger_17 rfl ?_
    refine v_iconst C dX7_ledger_18 kc_iconst_1 ?_
    refine v_cV1i C dX7_ledger_19 lv_X7_67 ck_7 (kX7_refused (nI 1) _) (by decide) (Nat.le_of_ble_eq_true rfl) (fun r5 σ4 => ?_)
    exact v_iret C M dX7_ledger_22
  · intro j17 hj17
    refine v_if_eq (tgt := 17) C dX7_ledger_5 (by decide) ?_ ?_
    · skip
      exact v_lv (hj17 σ1) [0] rfl
    · skip
      refine v_iload_n 2 C dX7_ledger_8 rfl ?_
      refine v_bipush C dX7_ledger_9 kc_bipush_6 ?_
      refine v_cS2p C dX7_ledger_11 ls_X7_105 (kX7_isBelow p2 (nI 6) _) (by decide) (Nat.le_of_ble_eq_true rfl) ?_
      refine v_if_ne (tgt := 23) C dX7_ledger_14 (by decide) ?_ ?_
      · skip
        refine v_aload_n 0 C dX7_ledger_23 rfl ?_
        refine v_aload_n 0 C dX7_ledger_24 rfl ?_
        refine v_getk C dX7_ledger_25 lf_X7_35 ck_7 rfl ?_
        refine v_getc C dX7_ledger_28 lf_X7_224 ck_4 rfl ?_
        refine v_iload_n 1 C dX7_ledger_31 rfl ?_
        refine v_iload_n 2 C dX7_ledger_32 rfl ?_
        refine v_cV2i C dX7_ledger_33 lv_X7_228 ck_5 (kX5_account 0 p1 p2 ck_5 _) (by decide) (Nat.le_of_ble_eq_true rfl) (fun r7 σ6 => ?_)
        refine v_cV1i C dX7_ledger_36 lv_X7_99 ck_7 (kX7_accepted r7 _) (by decide) (Nat.le_of_ble_eq_true rfl) (fun r9 σ8 => ?_)
        exact v_iret C M dX7_ledger_39
      · skip
        exact v_lv (hj17 σ1) [0] rfl
-- OpenLines log(II)I, depth 3
def fX7_log (p1 : Int32) (p2 : Int32) (σ : St) : Option (Int32 × St) :=
  (jn (fun (σ1 : St) => bd (fX7_refused (nI 1) σ1) fun (r3 : Int32) (σ2 : St) => some (r3, σ2)) fun j33 => if (σ.1 7 0 8) = 0 then j33 σ else bd (fX5_logged 0 σ) fun (r5 : Int32) (σ4 : St) => (if (fX7_isBelow p1 r5) = 0 then j33 σ4 else (if (fX7_isBelow p2 (nI 6)) = 0 then j33 σ4 else bd (fX5_entry 0 p1 p2 σ4) fun (r7 : Int32) (σ6 : St) => bd (fX7_accepted r7 σ6) fun (r9 : Int32) (σ8 : St) => some (r9, σ8))))
set_option maxRecDepth 20000 in
theorem kX7_log {X : Cx} (p1 : Int32) (p2 : Int32) (σ : St) : Kon X 3 yX7_log cX7_log 3 (some .int) gI [.ref (adr X 7 0), .int p1, .int p2] σ (fX7_log p1 p2 σ) := by
  refine konJ (own := RX7) (fun _ => gI) (fun a b => [.ref (a 7 0), .int p1, .int p2]) (by decide +kernel) rfl (fun _ _ => Nat.le_of_ble_eq_true rfl) (fun Y C M => ?_)
  show V Y gI 0 [(0, .ref (adr Y 7 0)), (1, .int p1), (2, .int p2)] [] σ (fX7_log p1 p2 σ)
  unfold fX7_log
  refine v_aload_n 0 C dX7_log_0 rfl ?_
  refine v_geti C dX7_log_1 lf_X7_89 ck_7 (by decide) ?_
  refine v_jn (fun j33 => ∀ (σ1 : St), V Y gI 33 [(0, .ref (adr Y 7 0))] [] σ1 (j33 σ1)) ?_ ?_
  · intro σ1
    refine v_aload_n 0 C dX7_log_33 rfl ?_
    refine v_iconst C dX7_log_34 kc_iconst_1 ?_
    refine v_cV1i C dX7_log_35 lv_X7_67 ck_7 (kX7_refused (nI 1) _) (by decide) (Nat.le_of_ble_eq_true rfl) (fun r3 σ2 => ?_)
    exact v_iret C M dX7_log_38
  · intro j33 hj33
    refine v_if_eq (tgt := 33) C dX7_log_4 (by decide) ?_ ?_
    · skip
      exact v_lv (hj33 σ) [0] rfl
    · skip
      refine v_iload_n 1 C dX7_log_7 rfl ?_
      refine v_aload_n 0 C dX7_log_8 rfl ?_
      refine v_getk C dX7_log_9 lf_X7_35 ck_7 rfl ?_
      refine v_getc C dX7_log_12 lf_X7_224 ck_4 rfl ?_
      refine v_cV0i C dX7_log_15 lv_X7_233 ck_5 (kX5_logged 0 ck_5 _) (by decide) (Nat.le_of_ble_eq_true rfl) (fun r5 σ4 => ?_)
      refine v_cS2p C dX7_log_18 ls_X7_105 (kX7_isBelow p1 r5 _) (by decide) (Nat.le_of_ble_eq_true rfl) ?_
      refine v_if_eq (tgt := 33) C dX7_log_21 (by decide) ?_ ?_
      · skip
        exact v_lv (hj33 σ4) [0] rfl
      · skip
        refine v_iload_n 2 C dX7_log_24 rfl ?_
        refine v_bipush C dX7_log_25 kc_bipush_6 ?_
        refine v_cS2p C dX7_log_27 ls_X7_105 (kX7_isBelow p2 (nI 6) _) (by decide) (Nat.le_of_ble_eq_true rfl) ?_
        refine v_if_ne (tgt := 39) C dX7_log_30 (by decide) ?_ ?_
        · skip
          refine v_aload_n 0 C dX7_log_39 rfl ?_
          refine v_aload_n 0 C dX7_log_40 rfl ?_
          refine v_getk C dX7_log_41 lf_X7_35 ck_7 rfl ?_
          refine v_getc C dX7_log_44 lf_X7_224 ck_4 rfl ?_
          refine v_iload_n 1 C dX7_log_47 rfl ?_
          refine v_iload_n 2 C dX7_log_48 rfl ?_
          refine v_cV2i C dX7_log_49 lv_X7_236 ck_5 (kX5_entry 0 p1 p2 ck_5 _) (by decide) (Nat.le_of_ble_eq_true rfl) (fun r7 σ6 => ?_)
          refine v_cV1i C dX7_log_52 lv_X7_99 ck_7 (kX7_accepted r7 _) (by decide) (Nat.le_of_ble_eq_true rfl) (fun r9 σ8 => ?_)
          exact v_iret C M dX7_log_55
        · skip
          exact v_lv (hj33 σ4) [0] rfl
-- OpenLines past(I)I, depth 2
def fX7_past (p1 : Int32) (σ : St) : Option (Int32 × St) :=
  bd (fX7_accepts (σ.1 7 0 8) (fX7_isBelow p1 (nI 64)) σ) fun (r2 : Int32) (σ1 : St) => (if r2 = 0 then some ((-1), σ1) else bd (fX5_masterAt 0 ((σ1.1 4 0 2) - p1) σ1) fun (r4 : Int32) (σ3 : St) => some (r4, σ3))
set_option maxRecDepth 20000 in
theorem kX7_past {X : Cx} (p1 : Int32) (σ : St) : Kon X 2 yX7_past cX7_past 2 (some .int) gI [.ref (adr X 7 0), .int p1] σ (fX7_past p1 σ) := by
  refine konJ (own := RX7) (fun _ => gI) (fun a b => [.ref (a 7 0), .int p1]) (by decide +kernel) rfl (fun _ _ => Nat.le_of_ble_eq_true rfl) (fun Y C M => ?_)
  show V Y gI 0 [(0, .ref (adr Y 7 0)), (1, .int p1)] [] σ (fX7_past p1 σ)
  unfold fX7_past
  refine v_aload_n 0 C dX7_past_0 rfl ?_
  refine v_aload_n 0 C dX7_past_1 rfl ?_
  refine v_geti C dX7_past_2 lf_X7_89 ck_7 (by decide) ?_
  refine v_iload_n 1 C dX7_past_5 rfl ?_
  refine v_bipush C dX7_past_6 kc_bipush_64 ?_
  refine v_cS2p C dX7_past_8 ls_X7_105 (kX7_isBelow p1 (nI 64) _) (by decide) (Nat.le_of_ble_eq_true rfl) ?_
  refine v_cV2i C dX7_past_11 lv_X7_145 ck_7 (kX7_accepts (σ.1 7 0 8) (fX7_isBelow p1 (nI 64)) _) (by decide) (Nat.le_of_ble_eq_true rfl) (fun r2 σ1 => ?_)
  refine v_if_ne (tgt := 19) C dX7_past_14 (by decide) ?_ ?_
  · skip
    refine v_aload_n 0 C dX7_past_19 rfl ?_
    refine v_getk C dX7_past_20 lf_X7_35 ck_7 rfl ?_
    refine v_getc C dX7_past_23 lf_X7_224 ck_4 rfl ?_
    refine v_aload_n 0 C dX7_past_26 rfl ?_
    refine v_getk C dX7_past_27 lf_X7_35 ck_7 rfl ?_
    refine v_geti C dX7_past_30 lf_X7_109 ck_4 (by decide) ?_
    refine v_iload_n 1 C dX7_past_33 rfl ?_
    refine v_isub C dX7_past_34 ?_
    refine v_cV1i C dX7_past_35 lv_X7_239 ck_5 (kX5_masterAt 0 ((σ1.1 4 0 2) - p1) ck_5 _) (by decide) (Nat.le_of_ble_eq_true rfl) (fun r4 σ3 => ?_)
    exact v_iret C M dX7_past_38
  · skip
    refine v_iconst C dX7_past_17 kc_iconst_m1 ?_
    exact v_iret C M dX7_past_18
-- OpenLines idle()I, depth 3
def fX7_idle (σ : St) : Option (Int32 × St) :=
  (if (σ.1 7 0 8) = 0 then bd (fX7_refused (nI 1) σ) fun (r6 : Int32) (σ5 : St) => some (r6, σ5) else bd (fX5_idleTicks 0 (σ.1 4 0 2) σ) fun (r2 : Int32) (σ1 : St) => bd (fX7_accepted r2 σ1) fun (r4 : Int32) (σ3 : St) => some (r4, σ3))
set_option maxRecDepth 20000 in
theorem kX7_idle {X : Cx} (σ : St) : Kon X 3 yX7_idle cX7_idle 1 (some .int) gI [.ref (adr X 7 0)] σ (fX7_idle σ) := by
  refine konJ (own := RX7) (fun _ => gI) (fun a b => [.ref (a 7 0)]) (by decide +kernel) rfl (fun _ _ => Nat.le_of_ble_eq_true rfl) (fun Y C M => ?_)
  show V Y gI 0 [(0, .ref (adr Y 7 0))] [] σ (fX7_idle σ)
  unfold fX7_idle
  refine v_aload_n 0 C dX7_idle_0 rfl ?_
  refine v_geti C dX7_idle_1 lf_X7_89 ck_7 (by decide) ?_
  refine v_if_ne (tgt := 13) C dX7_idle_4 (by decide) ?_ ?_
  · skip
    refine v_aload_n 0 C dX7_idle_13 rfl ?_
    refine v_aload_n 0 C dX7_idle_14 rfl ?_
    refine v_getk C dX7_idle_15 lf_X7_35 ck_7 rfl ?_
    refine v_getc C dX7_idle_18 lf_X7_224 ck_4 rfl ?_
    refine v_aload_n 0 C dX7_idle_21 rfl ?_
    refine v_getk C dX7_idle_22 lf_X7_35 ck_7 rfl ?_
    refine v_geti C dX7_idle_25 lf_X7_109 ck_4 (by decide) ?_
    refine v_cV1i C dX7_idle_28 lv_X7_242 ck_5 (kX5_idleTicks 0 (σ.1 4 0 2) ck_5 _) (by decide) (Nat.le_of_ble_eq_true rfl) (fun r2 σ1 => ?_)
    refine v_cV1i C dX7_idle_31 lv_X7_99 ck_7 (kX7_accepted r2 _) (by decide) (Nat.le_of_ble_eq_true rfl) (fun r4 σ3 => ?_)
    exact v_iret C M dX7_idle_34
  · skip
    refine v_aload_n 0 C dX7_idle_7 rfl ?_
    refine v_iconst C dX7_idle_8 kc_iconst_1 ?_
    refine v_cV1i C dX7_idle_9 lv_X7_67 ck_7 (kX7_refused (nI 1) _) (by decide) (Nat.le_of_ble_eq_true rfl) (fun r6 σ5 => ?_)
    exact v_iret C M dX7_idle_12
-- OpenLines waiting(I)I, depth 2
def fX7_waiting (p1 : Int32) (σ : St) : Option (Int32 × St) :=
  bd (fX7_hasBoard p1 σ) fun (r2 : Int32) (σ1 : St) => (if r2 = 0 then bd (fX7_refused (nI 1) σ1) fun (r8 : Int32) (σ7 : St) => some (r8, σ7) else bd (fX4_waitersOf 0 p1 σ1) fun (r4 : Int32) (σ3 : St) => bd (fX7_accepted r4 σ3) fun (r6 : Int32) (σ5 : St) => some (r6, σ5))
set_option maxRecDepth 20000 in
theorem kX7_waiting {X : Cx} (p1 : Int32) (σ : St) : Kon X 2 yX7_waiting cX7_waiting 2 (some .int) gI [.ref (adr X 7 0), .int p1] σ (fX7_waiting p1 σ) := by
  refine konJ (own := RX7) (fun _ => gI) (fun a b => [.ref (a 7 0), .int p1]) (by decide +kernel) rfl (fun _ _ => Nat.le_of_ble_eq_true rfl) (fun Y C M => ?_)
  show V Y gI 0 [(0, .ref (adr Y 7 0)), (1, .int p1)] [] σ (fX7_waiting p1 σ)
  unfold fX7_waiting
  refine v_aload_n 0 C dX7_waiting_0 rfl ?_
  refine v_iload_n 1 C dX7_waiting_1 rfl ?_
  refine v_cV1i C dX7_waiting_2 lv_X7_115 ck_7 (kX7_hasBoard p1 _) (by decide) (Nat.le_of_ble_eq_true rfl) (fun r2 σ1 => ?_)
  refine v_if_ne (tgt := 14) C dX7_waiting_5 (by decide) ?_ ?_
  · skip
    refine v_aload_n 0 C dX7_waiting_14 rfl ?_
    refine v_aload_n 0 C dX7_waiting_15 rfl ?_
    refine v_getk C dX7_waiting_16 lf_X7_35 ck_7 rfl ?_
    refine v_iload_n 1 C dX7_waiting_19 rfl ?_
    refine v_cV1i C dX7_waiting_20 lv_X7_245 ck_4 (kX4_waitersOf 0 p1 ck_4 _) (by decide) (Nat.le_of_ble_eq_true rfl) (fun r4 σ3 => ?_)
    refine v_cV1i C dX7_waiting_23 lv_X7_99 ck_7 (kX7_accepted r4 _) (by decide) (Nat.le_of_ble_eq_true rfl) (fun r6 σ5 => ?_)
    exact v_iret C M dX7_waiting_26
  · skip
    refine v_aload_n 0 C dX7_waiting_8 rfl ?_
    refine v_iconst C dX7_waiting_9 kc_iconst_1 ?_
    refine v_cV1i C dX7_waiting_10 lv_X7_67 ck_7 (kX7_refused (nI 1) _) (by decide) (Nat.le_of_ble_eq_true rfl) (fun r8 σ7 => ?_)
    exact v_iret C M dX7_waiting_13
-- OpenLines longest()I, depth 3
def fX7_longest (σ : St) : Option (Int32 × St) :=
  (if (σ.1 7 0 8) = 0 then bd (fX7_refused (nI 1) σ) fun (r6 : Int32) (σ5 : St) => some (r6, σ5) else bd (fX4_longestAsking 0 σ) fun (r2 : Int32) (σ1 : St) => bd (fX7_accepted r2 σ1) fun (r4 : Int32) (σ3 : St) => some (r4, σ3))
set_option maxRecDepth 20000 in
theorem kX7_longest {X : Cx} (σ : St) : Kon X 3 yX7_longest cX7_longest 1 (some .int) gI [.ref (adr X 7 0)] σ (fX7_longest σ) := by
  refine konJ (own := RX7) (fun _ => gI) (fun a b => [.ref (a 7 0)]) (by decide +kernel) rfl (fun _ _ => Nat.le_of_ble_eq_true rfl) (fun Y C M => ?_)
  show V Y gI 0 [(0, .ref (adr Y 7 0))] [] σ (fX7_longest σ)
  unfold fX7_longest
  refine v_aload_n 0 C dX7_longest_0 rfl ?_
  refine v_geti C dX7_longest_1 lf_X7_89 ck_7 (by decide) ?_
  refine v_if_ne (tgt := 13) C dX7_longest_4 (by decide) ?_ ?_
  · skip
    refine v_aload_n 0 C dX7_longest_13 rfl ?_
    refine v_aload_n 0 C dX7_longest_14 rfl ?_
    refine v_getk C dX7_longest_15 lf_X7_35 ck_7 rfl ?_
    refine v_cV0i C dX7_longest_18 lv_X7_248 ck_4 (kX4_longestAsking 0 ck_4 _) (by decide) (Nat.le_of_ble_eq_true rfl) (fun r2 σ1 => ?_)
    refine v_cV1i C dX7_longest_21 lv_X7_99 ck_7 (kX7_accepted r2 _) (by decide) (Nat.le_of_ble_eq_true rfl) (fun r4 σ3 => ?_)
    exact v_iret C M dX7_longest_24
  · skip
    refine v_aload_n 0 C dX7_longest_7 rfl ?_
    refine v_iconst C dX7_longest_8 kc_iconst_1 ?_
    refine v_cV1i C dX7_longest_9 lv_X7_67 ck_7 (kX7_refused (nI 1) _) (by decide) (Nat.le_of_ble_eq_true rfl) (fun r6 σ5 => ?_)
    exact v_iret C M dX7_longest_12
-- OpenLines will(II)I, depth 7
def fX7_will (p1 : Int32) (p2 : Int32) (σ : St) : Option (Int32 × St) :=
  bd (fX7_accepts (if (σ.1 7 0 8) = 0 then 0 else (if (fX7_isBelow p2 (nI 11)) = 0 then 0 else (nI 1))) (fX7_isStepCount p1) σ) fun (r7 : Int32) (σ6 : St) => (if r7 = 0 then some ((-1), σ6) else bd (fX4_copy 1 0 σ6) fun _ (σ8 : St) => bd (fX4_advance 1 p1 σ8) fun _ (σ9 : St) => bd (fX4_state 1 p2 σ9) fun (r11 : Int32) (σ10 : St) => some (r11, σ10))
set_option maxRecDepth 20000 in
theorem kX7_will {X : Cx} (p1 : Int32) (p2 : Int32) (σ : St) : Kon X 7 yX7_will cX7_will 3 (some .int) gI [.ref (adr X 7 0), .int p1, .int p2] σ (fX7_will p1 p2 σ) := by
  refine konJ (own := RX7) (fun _ => gI) (fun a b => [.ref (a 7 0), .int p1, .int p2]) (by decide +kernel) rfl (fun _ _ => Nat.le_of_ble_eq_true rfl) (fun Y C M => ?_)
  show V Y gI 0 [(0, .ref (adr Y 7 0)), (1, .int p1), (2, .int p2)] [] σ (fX7_will p1 p2 σ)
  unfold fX7_will
  refine v_aload_n 0 C dX7_will_0 rfl ?_
  refine v_aload_n 0 C dX7_will_1 rfl ?_
  refine v_geti C dX7_will_2 lf_X7_89 ck_7 (by decide) ?_
  refine v_cut (pcJ := 22) (lv := [(0, .ref (adr Y 7 0)), (1, .int p1), (2, .int p2)]) (st := .int (if (σ.1 7 0 8) = 0 then 0 else (if (fX7_isBelow p2 (nI 11)) = 0 then 0 else (nI 1))) :: [.ref (adr Y 7 0)]) ?_ (fun hj1 => ?_)
  rotate_left
  · skip
    refine v_if_eq_b (tgt := 21) C dX7_will_5 (by decide) (fun h2 => ?_) (fun h2 => ?_)
    · have hj3 := v_jpos h2 hj1
      refine v_iconst C dX7_will_21 kc_iconst_0 ?_
      exact hj3
    · have hj3 := v_jneg h2 hj1
      refine v_iload_n 2 C dX7_will_8 rfl ?_
      refine v_bipush C dX7_will_9 kc_bipush_11 ?_
      refine v_cS2p C dX7_will_11 ls_X7_105 (kX7_isBelow p2 (nI 11) _) (by decide) (Nat.le_of_ble_eq_true rfl) ?_
      refine v_if_eq_b (tgt := 21) C dX7_will_14 (by decide) (fun h4 => ?_) (fun h4 => ?_)
      · have hj5 := v_jpos h4 hj3
        refine v_iconst C dX7_will_21 kc_iconst_0 ?_
        exact hj5
      · have hj5 := v_jneg h4 hj3
        refine v_iconst C dX7_will_17 kc_iconst_1 ?_
        refine v_goto (tgt := 22) C dX7_will_18 (by decide) ?_
        exact hj5
  refine v_iload_n 1 C dX7_will_22 rfl ?_
  refine v_cS1p C dX7_will_23 ls_X7_251 (kX7_isStepCount p1 _) (by decide) (Nat.le_of_ble_eq_true rfl) ?_
  refine v_cV2i C dX7_will_26 lv_X7_145 ck_7 (kX7_accepts (if (σ.1 7 0 8) = 0 then 0 else (if (fX7_isBelow p2 (nI 11)) = 0 then 0 else (nI 1))) (fX7_isStepCount p1) _) (by decide) (Nat.le_of_ble_eq_true rfl) (fun r7 σ6 => ?_)
  refine v_if_ne (tgt := 34) C dX7_will_29 (by decide) ?_ ?_
  · skip
    refine v_aload_n 0 C dX7_will_34 rfl ?_
    refine v_getk C dX7_will_35 lf_X7_39 ck_7 rfl ?_
    refine v_aload_n 0 C dX7_will_38 rfl ?_
    refine v_getk C dX7_will_39 lf_X7_35 ck_7 rfl ?_
    refine v_cV1v C dX7_will_42 lv_X7_254 ck_4_1 (kX4_copy 1 0 ck_4_1 ck_4 _) (by decide) (Nat.le_of_ble_eq_true rfl) (fun _ σ8 => ?_)
    refine v_aload_n 0 C dX7_will_45 rfl ?_
    refine v_getk C dX7_will_46 lf_X7_39 ck_7 rfl ?_
    refine v_iload_n 1 C dX7_will_49 rfl ?_
    refine v_aload_n 0 C dX7_will_50 rfl ?_
    refine v_getk C dX7_will_51 lf_X7_28 ck_7 rfl ?_
    refine v_cV2v C dX7_will_54 lv_X7_258 ck_4_1 (kX4_advance 1 p1 ck_4_1 _) (by decide) (Nat.le_of_ble_eq_true rfl) (fun _ σ9 => ?_)
    refine v_aload_n 0 C dX7_will_57 rfl ?_
    refine v_getk C dX7_will_58 lf_X7_39 ck_7 rfl ?_
    refine v_iload_n 2 C dX7_will_61 rfl ?_
    refine v_cV1i C dX7_will_62 lv_X7_221 ck_4_1 (kX4_state 1 p2 ck_4_1 _) (by decide) (Nat.le_of_ble_eq_true rfl) (fun r11 σ10 => ?_)
    exact v_iret C M dX7_will_65
  · skip
    refine v_iconst C dX7_will_32 kc_iconst_m1 ?_
    exact v_iret C M dX7_will_33
-- OpenLines till(I)I, depth 7
def fX7_till (p1 : Int32) (σ : St) : Option (Int32 × St) :=
  bd (fX7_hasBoard p1 σ) fun (r2 : Int32) (σ1 : St) => (if r2 = 0 then bd (fX7_refused (nI 1) σ1) fun (r9 : Int32) (σ8 : St) => some (r9, σ8) else bd (fX4_copy 1 0 σ1) fun _ (σ3 : St) => bd (fX4_ticksToMaster 1 p1 σ3) fun (r5 : Int32) (σ4 : St) => bd (fX7_accepted r5 σ4) fun (r7 : Int32) (σ6 : St) => some (r7, σ6))
set_option maxRecDepth 20000 in
theorem kX7_till {X : Cx} (p1 : Int32) (σ : St) : Kon X 7 yX7_till cX7_till 2 (some .int) gI [.ref (adr X 7 0), .int p1] σ (fX7_till p1 σ) := by
  refine konJ (own := RX7) (fun _ => gI) (fun a b => [.ref (a 7 0), .int p1]) (by decide +kernel) rfl (fun _ _ => Nat.le_of_ble_eq_true rfl) (fun Y C M => ?_)
  show V Y gI 0 [(0, .ref (adr Y 7 0)), (1, .int p1)] [] σ (fX7_till p1 σ)
  unfold fX7_till
  refine v_aload_n 0 C dX7_till_0 rfl ?_
  refine v_iload_n 1 C dX7_till_1 rfl ?_
  refine v_cV1i C dX7_till_2 lv_X7_115 ck_7 (kX7_hasBoard p1 _) (by decide) (Nat.le_of_ble_eq_true rfl) (fun r2 σ1 => ?_)
  refine v_if_ne (tgt := 14) C dX7_till_5 (by decide) ?_ ?_
  · skip
    refine v_aload_n 0 C dX7_till_14 rfl ?_
    refine v_getk C dX7_till_15 lf_X7_39 ck_7 rfl ?_
    refine v_aload_n 0 C dX7_till_18 rfl ?_
    refine v_getk C dX7_till_19 lf_X7_35 ck_7 rfl ?_
    refine v_cV1v C dX7_till_22 lv_X7_254 ck_4_1 (kX4_copy 1 0 ck_4_1 ck_4 _) (by decide) (Nat.le_of_ble_eq_true rfl) (fun _ σ3 => ?_)
    refine v_aload_n 0 C dX7_till_25 rfl ?_
    refine v_aload_n 0 C dX7_till_26 rfl ?_
    refine v_getk C dX7_till_27 lf_X7_39 ck_7 rfl ?_
    refine v_iload_n 1 C dX7_till_30 rfl ?_
    refine v_aload_n 0 C dX7_till_31 rfl ?_
    refine v_getk C dX7_till_32 lf_X7_28 ck_7 rfl ?_
    refine v_cV2i C dX7_till_35 lv_X7_262 ck_4_1 (kX4_ticksToMaster 1 p1 ck_4_1 _) (by decide) (Nat.le_of_ble_eq_true rfl) (fun r5 σ4 => ?_)
    refine v_cV1i C dX7_till_38 lv_X7_99 ck_7 (kX7_accepted r5 _) (by decide) (Nat.le_of_ble_eq_true rfl) (fun r7 σ6 => ?_)
    exact v_iret C M dX7_till_41
  · skip
    refine v_aload_n 0 C dX7_till_8 rfl ?_
    refine v_iconst C dX7_till_9 kc_iconst_1 ?_
    refine v_cV1i C dX7_till_10 lv_X7_67 ck_7 (kX7_refused (nI 1) _) (by decide) (Nat.le_of_ble_eq_true rfl) (fun r9 σ8 => ?_)
    exact v_iret C M dX7_till_13
-- OpenLines ask(II)I, depth 4
def fX7_ask (p1 : Int32) (p2 : Int32) (σ : St) : Option (Int32 × St) :=
  bd (fX7_hasBoard p1 σ) fun (r2 : Int32) (σ1 : St) => (if r2 = 0 then bd (fX7_refused (nI 1) σ1) fun (r17 : Int32) (σ16 : St) => some (r17, σ16) else (jn (fun (σ3 : St) => bd (fX7_refused (nI 2) σ3) fun (r5 : Int32) (σ4 : St) => some (r5, σ4)) fun j25 => if p2 < (nI 1) then j25 σ1 else (if p2 ≤ (nI 99) then bd (fX4_hear 0 p1 p2 σ1) fun (r7 : Int32) (σ6 : St) => (if r7 = 0 then bd (fX7_refused (nI 5) σ6) fun (r15 : Int32) (σ14 : St) => some (r15, σ14) else bd (fX4_askers 0 σ6) fun (r9 : Int32) (σ8 : St) => bd (fJ6_bitCount_0f7a4 r9 σ8) fun (r11 : Int32) (σ10 : St) => bd (fX7_accepted r11 σ10) fun (r13 : Int32) (σ12 : St) => some (r13, σ12)) else j25 σ1)))
set_option maxRecDepth 20000 in
theorem kX7_ask {X : Cx} (p1 : Int32) (p2 : Int32) (σ : St) : Kon X 4 yX7_ask cX7_ask 3 (some .int) gI [.ref (adr X 7 0), .int p1, .int p2] σ (fX7_ask p1 p2 σ) := by
  refine konJ (own := RX7) (fun _ => gI) (fun a b => [.ref (a 7 0), .int p1, .int p2]) (by decide +kernel) rfl (fun _ _ => Nat.le_of_ble_eq_true rfl) (fun Y C M => ?_)
  show V Y gI 0 [(0, .ref (adr Y 7 0)), (1, .int p1), (2, .int p2)] [] σ (fX7_ask p1 p2 σ)
  unfold fX7_ask
  refine v_aload_n 0 C dX7_ask_0 rfl ?_
  refine v_iload_n 1 C dX7_ask_1 rfl ?_
  refine v_cV1i C dX7_ask_2 lv_X7_115 ck_7 (kX7_hasBoard p1 _) (by decide) (Nat.le_of_ble_eq_true rfl) (fun r2 σ1 => ?_)
  refine v_if_ne (tgt := 14) C dX7_ask_5 (by decide) ?_ ?_
  · skip
    refine v_iload_n 2 C dX7_ask_14 rfl ?_
    refine v_iconst C dX7_ask_15 kc_iconst_1 ?_
    refine v_jn (fun j25 => ∀ (σ3 : St), V Y gI 25 [(0, .ref (adr Y 7 0))] [] σ3 (j25 σ3)) ?_ ?_
    · intro σ3
      refine v_aload_n 0 C dX7_ask_25 rfl ?_
      refine v_iconst C dX7_ask_26 kc_iconst_2 ?_
      refine v_cV1i C dX7_ask_27 lv_X7_67 ck_7 (kX7_refused (nI 2) _) (by decide) (Nat.le_of_ble_eq_true rfl) (fun r5 σ4 => ?_)
      exact v_iret C M dX7_ask_30
    · intro j25 hj25
      refine v_icmp_lt (tgt := 25) C dX7_ask_16 (by decide) ?_ ?_
      · skip
        exact v_lv (hj25 σ1) [0] rfl
      · skip
        refine v_iload_n 2 C dX7_ask_19 rfl ?_
        refine v_bipush C dX7_ask_20 kc_bipush_99 ?_
        refine v_icmp_le (tgt := 31) C dX7_ask_22 (by decide) ?_ ?_
        · skip
          refine v_aload_n 0 C dX7_ask_31 rfl ?_
          refine v_getk C dX7_ask_32 lf_X7_35 ck_7 rfl ?_
          refine v_iload_n 1 C dX7_ask_35 rfl ?_
          refine v_iload_n 2 C dX7_ask_36 rfl ?_
          refine v_cV2i C dX7_ask_37 lv_X7_266 ck_4 (kX4_hear 0 p1 p2 ck_4 _) (by decide) (Nat.le_of_ble_eq_true rfl) (fun r7 σ6 => ?_)
          refine v_if_ne (tgt := 49) C dX7_ask_40 (by decide) ?_ ?_
          · skip
            refine v_aload_n 0 C dX7_ask_49 rfl ?_
            refine v_aload_n 0 C dX7_ask_50 rfl ?_
            refine v_getk C dX7_ask_51 lf_X7_35 ck_7 rfl ?_
            refine v_cV0i C dX7_ask_54 lv_X7_269 ck_4 (kX4_askers 0 ck_4 _) (by decide) (Nat.le_of_ble_eq_true rfl) (fun r9 σ8 => ?_)
            refine v_cS1i C dX7_ask_57 ls_X7_272 (kJ6_bitCount_0f7a4 r9 _) (by decide) (Nat.le_of_ble_eq_true rfl) (fun r11 σ10 => ?_)
            refine v_cV1i C dX7_ask_60 lv_X7_99 ck_7 (kX7_accepted r11 _) (by decide) (Nat.le_of_ble_eq_true rfl) (fun r13 σ12 => ?_)
            exact v_iret C M dX7_ask_63
          · skip
            refine v_aload_n 0 C dX7_ask_43 rfl ?_
            refine v_iconst C dX7_ask_44 kc_iconst_5 ?_
            refine v_cV1i C dX7_ask_45 lv_X7_67 ck_7 (kX7_refused (nI 5) _) (by decide) (Nat.le_of_ble_eq_true rfl) (fun r15 σ14 => ?_)
            exact v_iret C M dX7_ask_48
        · skip
          exact v_lv (hj25 σ1) [0] rfl
  · skip
    refine v_aload_n 0 C dX7_ask_8 rfl ?_
    refine v_iconst C dX7_ask_9 kc_iconst_1 ?_
    refine v_cV1i C dX7_ask_10 lv_X7_67 ck_7 (kX7_refused (nI 1) _) (by decide) (Nat.le_of_ble_eq_true rfl) (fun r17 σ16 => ?_)
    exact v_iret C M dX7_ask_13
-- OpenLines waits(II)I, depth 2
def fX7_waits (p1 : Int32) (p2 : Int32) (σ : St) : Option (Int32 × St) :=
  bd (fX7_hasBoard p1 σ) fun (r2 : Int32) (σ1 : St) => (if r2 = 0 then bd (fX7_refused (nI 1) σ1) fun (r22 : Int32) (σ21 : St) => some (r22, σ21) else (jn (fun (σ3 : St) => bd (fX7_refused (nI 2) σ3) fun (r5 : Int32) (σ4 : St) => some (r5, σ4)) fun j32 => if p2 = p1 then j32 σ1 else (jn (fun (σ6 : St) => (jn (fun (σ7 : St) => bd (fX4_letWait 0 p1 (if p2 = (-1) then (-2) else p2) σ7) fun (r12 : Int32) (σ11 : St) => bd (fX7_accepted r12 σ11) fun (r14 : Int32) (σ13 : St) => some (r14, σ13)) fun j64 => if p2 = (-1) then j64 σ6 else bd (fX4_waitersOf 0 p1 σ6) fun (r16 : Int32) (σ15 : St) => (if (fX7_has r16 p2) = 0 then j64 σ15 else bd (fX7_refused (nI 5) σ15) fun (r18 : Int32) (σ17 : St) => some (r18, σ17)))) fun j38 => if p2 = (-1) then j38 σ1 else bd (fX7_hasBoard p2 σ1) fun (r20 : Int32) (σ19 : St) => (if r20 = 0 then j32 σ19 else j38 σ19))))
set_option maxRecDepth 20000 in
theorem kX7_waits {X : Cx} (p1 : Int32) (p2 : Int32) (σ : St) : Kon X 2 yX7_waits cX7_waits 3 (some .int) gI [.ref (adr X 7 0), .int p1, .int p2] σ (fX7_waits p1 p2 σ) := by
  refine konJ (own := RX7) (fun _ => gI) (fun a b => [.ref (a 7 0), .int p1, .int p2]) (by decide +kernel) rfl (fun _ _ => Nat.le_of_ble_eq_true rfl) (fun Y C M => ?_)
  show V Y gI 0 [(0, .ref (adr Y 7 0)), (1, .int p1), (2, .int p2)] [] σ (fX7_waits p1 p2 σ)
  unfold fX7_waits
  refine v_aload_n 0 C dX7_waits_0 rfl ?_
  refine v_iload_n 1 C dX7_waits_1 rfl ?_
  refine v_cV1i C dX7_waits_2 lv_X7_115 ck_7 (kX7_hasBoard p1 _) (by decide) (Nat.le_of_ble_eq_true rfl) (fun r2 σ1 => ?_)
  refine v_if_ne (tgt := 14) C dX7_waits_5 (by decide) ?_ ?_
  · skip
    refine v_iload_n 2 C dX7_waits_14 rfl ?_
    refine v_iload_n 1 C dX7_waits_15 rfl ?_
    refine v_jn (fun j32 => ∀ (σ3 : St), V Y gI 32 [(0, .ref (adr Y 7 0))] [] σ3 (j32 σ3)) ?_ ?_
    · intro σ3
      refine v_aload_n 0 C dX7_waits_32 rfl ?_
      refine v_iconst C dX7_waits_33 kc_iconst_2 ?_
      refine v_cV1i C dX7_waits_34 lv_X7_67 ck_7 (kX7_refused (nI 2) _) (by decide) (Nat.le_of_ble_eq_true rfl) (fun r5 σ4 => ?_)
      exact v_iret C M dX7_waits_37
    · intro j32 hj32
      refine v_icmp_eq (tgt := 32) C dX7_waits_16 (by decide) ?_ ?_
      · skip
        exact v_lv (hj32 σ1) [0] rfl
      · skip
        refine v_iload_n 2 C dX7_waits_19 rfl ?_
        refine v_iconst C dX7_waits_20 kc_iconst_m1 ?_
        refine v_jn (fun j38 => ∀ (σ6 : St), V Y gI 38 [(0, .ref (adr Y 7 0)), (1, .int p1), (2, .int p2)] [] σ6 (j38 σ6)) ?_ ?_
        · intro σ6
          refine v_iload_n 2 C dX7_waits_38 rfl ?_
          refine v_iconst C dX7_waits_39 kc_iconst_m1 ?_
          refine v_jn (fun j64 => ∀ (σ7 : St), V Y gI 64 [(0, .ref (adr Y 7 0)), (1, .int p1), (2, .int p2)] [] σ7 (j64 σ7)) ?_ ?_
          · intro σ7
            refine v_aload_n 0 C dX7_waits_64 rfl ?_
            refine v_aload_n 0 C dX7_waits_65 rfl ?_
            refine v_getk C dX7_waits_66 lf_X7_35 ck_7 rfl ?_
            refine v_iload_n 1 C dX7_waits_69 rfl ?_
            refine v_iload_n 2 C dX7_waits_70 rfl ?_
            refine v_iconst C dX7_waits_71 kc_iconst_m1 ?_
            refine v_cut (pcJ := 81) (lv := [(0, .ref (adr Y 7 0)), (1, .int p1), (2, .int p2)]) (st := .int (if p2 = (-1) then (-2) else p2) :: [.int p1, .ref (adr Y 4 0), .ref (adr Y 7 0)]) ?_ (fun hj8 => ?_)
            rotate_left
            · skip
              refine v_icmp_ne_b (tgt := 80) C dX7_waits_72 (by decide) (fun h9 => ?_) (fun h9 => ?_)
              · have hj10 := v_jneg h9 hj8
                refine v_iload_n 2 C dX7_waits_80 rfl ?_
                exact hj10
              · have hj10 := v_jpos h9 hj8
                refine v_bipush C dX7_waits_75 kc_bipush_m2 ?_
                refine v_goto (tgt := 81) C dX7_waits_77 (by decide) ?_
                exact hj10
            refine v_cV2i C dX7_waits_81 lv_X7_280 ck_4 (kX4_letWait 0 p1 (if p2 = (-1) then (-2) else p2) ck_4 _) (by decide) (Nat.le_of_ble_eq_true rfl) (fun r12 σ11 => ?_)
            refine v_cV1i C dX7_waits_84 lv_X7_99 ck_7 (kX7_accepted r12 _) (by decide) (Nat.le_of_ble_eq_true rfl) (fun r14 σ13 => ?_)
            exact v_iret C M dX7_waits_87
          · intro j64 hj64
            refine v_icmp_eq (tgt := 64) C dX7_waits_40 (by decide) ?_ ?_
            · skip
              exact v_lv (hj64 σ6) [0, 1, 2] rfl
            · skip
              refine v_aload_n 0 C dX7_waits_43 rfl ?_
              refine v_getk C dX7_waits_44 lf_X7_35 ck_7 rfl ?_
              refine v_iload_n 1 C dX7_waits_47 rfl ?_
              refine v_cV1i C dX7_waits_48 lv_X7_245 ck_4 (kX4_waitersOf 0 p1 ck_4 _) (by decide) (Nat.le_of_ble_eq_true rfl) (fun r16 σ15 => ?_)
              refine v_iload_n 2 C dX7_waits_51 rfl ?_
              refine v_cS2p C dX7_waits_52 ls_X7_277 (kX7_has r16 p2 _) (by decide) (Nat.le_of_ble_eq_true rfl) ?_
              refine v_if_eq (tgt := 64) C dX7_waits_55 (by decide) ?_ ?_
              · skip
                exact v_lv (hj64 σ15) [0, 1, 2] rfl
              · skip
                refine v_aload_n 0 C dX7_waits_58 rfl ?_
                refine v_iconst C dX7_waits_59 kc_iconst_5 ?_
                refine v_cV1i C dX7_waits_60 lv_X7_67 ck_7 (kX7_refused (nI 5) _) (by decide) (Nat.le_of_ble_eq_true rfl) (fun r18 σ17 => ?_)
                exact v_iret C M dX7_waits_63
        · intro j38 hj38
          refine v_icmp_eq (tgt := 38) C dX7_waits_21 (by decide) ?_ ?_
          · skip
            exact v_lv (hj38 σ1) [0, 1, 2] rfl
          · skip
            refine v_aload_n 0 C dX7_waits_24 rfl ?_
            refine v_iload_n 2 C dX7_waits_25 rfl ?_
            refine v_cV1i C dX7_waits_26 lv_X7_115 ck_7 (kX7_hasBoard p2 _) (by decide) (Nat.le_of_ble_eq_true rfl) (fun r20 σ19 => ?_)
            refine v_if_ne (tgt := 38) C dX7_waits_29 (by decide) ?_ ?_
            · skip
              exact v_lv (hj38 σ19) [0, 1, 2] rfl
            · skip
              exact v_lv (hj32 σ19) [0] rfl
  · skip
    refine v_aload_n 0 C dX7_waits_8 rfl ?_
    refine v_iconst C dX7_waits_9 kc_iconst_1 ?_
    refine v_cV1i C dX7_waits_10 lv_X7_67 ck_7 (kX7_refused (nI 1) _) (by decide) (Nat.le_of_ble_eq_true rfl) (fun r22 σ21 => ?_)
    exact v_iret C M dX7_waits_13
-- OpenLines stick(II)I, depth 2
def fX7_stick (p1 : Int32) (p2 : Int32) (σ : St) : Option (Int32 × St) :=
  (jn (fun (x2 : Int32) (σ1 : St) => bd (fX7_accepts x2 (if p2 < 0 then 0 else (if (nI 2) < p2 then 0 else (nI 1))) σ1) fun (r9 : Int32) (σ8 : St) => (if r9 = 0 then some ((-1), σ8) else bd (fX4_letLine 0 p1 p2 σ8) fun (r11 : Int32) (σ10 : St) => some (r11, σ10))) fun j22 => jn (fun (σ12 : St) => j22 0 σ12) fun j21 => if (σ.1 7 0 8) = 0 then j21 σ else (if (fX7_isBelow p1 (nI 6)) = 0 then j21 σ else j22 (nI 1) σ))
set_option maxRecDepth 20000 in
theorem kX7_stick {X : Cx} (p1 : Int32) (p2 : Int32) (σ : St) : Kon X 2 yX7_stick cX7_stick 3 (some .int) gI [.ref (adr X 7 0), .int p1, .int p2] σ (fX7_stick p1 p2 σ) := by
  refine konJ (own := RX7) (fun _ => gI) (fun a b => [.ref (a 7 0), .int p1, .int p2]) (by decide +kernel) rfl (fun _ _ => Nat.le_of_ble_eq_true rfl) (fun Y C M => ?_)
  show V Y gI 0 [(0, .ref (adr Y 7 0)), (1, .int p1), (2, .int p2)] [] σ (fX7_stick p1 p2 σ)
  unfold fX7_stick
  refine v_aload_n 0 C dX7_stick_0 rfl ?_
  refine v_aload_n 0 C dX7_stick_1 rfl ?_
  refine v_geti C dX7_stick_2 lf_X7_89 ck_7 (by decide) ?_
  refine v_jn (fun j22 => ∀ (x2 : Int32) (σ1 : St), V Y gI 22 [(0, .ref (adr Y 7 0)), (1, .int p1), (2, .int p2)] [.int x2, .ref (adr Y 7 0)] σ1 (j22 x2 σ1)) ?_ ?_
  · intro x2 σ1
    refine v_iload_n 2 C dX7_stick_22 rfl ?_
    refine v_cut (pcJ := 36) (lv := [(0, .ref (adr Y 7 0)), (1, .int p1), (2, .int p2)]) (st := .int (if p2 < 0 then 0 else (if (nI 2) < p2 then 0 else (nI 1))) :: [.int x2, .ref (adr Y 7 0)]) ?_ (fun hj3 => ?_)
    rotate_left
    · skip
      refine v_if_lt_b (tgt := 35) C dX7_stick_23 (by decide) (fun h4 => ?_) (fun h4 => ?_)
      · have hj5 := v_jpos h4 hj3
        refine v_iconst C dX7_stick_35 kc_iconst_0 ?_
        exact hj5
      · have hj5 := v_jneg h4 hj3
        refine v_iload_n 2 C dX7_stick_26 rfl ?_
        refine v_iconst C dX7_stick_27 kc_iconst_2 ?_
        refine v_icmp_gt_b (tgt := 35) C dX7_stick_28 (by decide) (fun h6 => ?_) (fun h6 => ?_)
        · have hj7 := v_jpos h6 hj5
          refine v_iconst C dX7_stick_35 kc_iconst_0 ?_
          exact hj7
        · have hj7 := v_jneg h6 hj5
          refine v_iconst C dX7_stick_31 kc_iconst_1 ?_
          refine v_goto (tgt := 36) C dX7_stick_32 (by decide) ?_
          exact hj7
    refine v_cV2i C dX7_stick_36 lv_X7_145 ck_7 (kX7_accepts x2 (if p2 < 0 then 0 else (if (nI 2) < p2 then 0 else (nI 1))) _) (by decide) (Nat.le_of_ble_eq_true rfl) (fun r9 σ8 => ?_)
    refine v_if_ne (tgt := 44) C dX7_stick_39 (by decide) ?_ ?_
    · skip
      refine v_aload_n 0 C dX7_stick_44 rfl ?_
      refine v_getk C dX7_stick_45 lf_X7_35 ck_7 rfl ?_
      refine v_iload_n 1 C dX7_stick_48 rfl ?_
      refine v_iload_n 2 C dX7_stick_49 rfl ?_
      refine v_cV2i C dX7_stick_50 lv_X7_283 ck_4 (kX4_letLine 0 p1 p2 ck_4 _) (by decide) (Nat.le_of_ble_eq_true rfl) (fun r11 σ10 => ?_)
      exact v_iret C M dX7_stick_53
    · skip
      refine v_iconst C dX7_stick_42 kc_iconst_m1 ?_
      exact v_iret C M dX7_stick_43
  · intro j22 hj22
    refine v_jn (fun j21 => ∀ (σ12 : St), V Y gI 21 [(0, .ref (adr Y 7 0)), (1, .int p1), (2, .int p2)] [.ref (adr Y 7 0)] σ12 (j21 σ12)) ?_ ?_
    · intro σ12
      refine v_iconst C dX7_stick_21 kc_iconst_0 ?_
      exact v_lv (hj22 0 σ12) [0, 1, 2] rfl
    · intro j21 hj21
      refine v_if_eq (tgt := 21) C dX7_stick_5 (by decide) ?_ ?_
      · skip
        exact v_lv (hj21 σ) [0, 1, 2] rfl
      · skip
        refine v_iload_n 1 C dX7_stick_8 rfl ?_
        refine v_bipush C dX7_stick_9 kc_bipush_6 ?_
        refine v_cS2p C dX7_stick_11 ls_X7_105 (kX7_isBelow p1 (nI 6) _) (by decide) (Nat.le_of_ble_eq_true rfl) ?_
        refine v_if_eq (tgt := 21) C dX7_stick_14 (by decide) ?_ ?_
        · skip
          exact v_lv (hj21 σ) [0, 1, 2] rfl
        · skip
          refine v_iconst C dX7_stick_17 kc_iconst_1 ?_
          refine v_goto (tgt := 22) C dX7_stick_18 (by decide) ?_
          exact v_lv (hj22 (nI 1) σ) [0, 1, 2] rfl
-- OpenLines ticks(I)I, depth 7
def fX7_ticks (p1 : Int32) (σ : St) : Option (Int32 × St) :=
  bd (fX7_accepts (σ.1 7 0 8) (fX7_isStepCount p1) σ) fun (r2 : Int32) (σ1 : St) => (if r2 = 0 then some ((-1), σ1) else bd (fX4_advance 0 p1 σ1) fun _ (σ3 : St) => some (σ3.1 4 0 3, σ3))
set_option maxRecDepth 20000 in
theorem kX7_ticks {X : Cx} (p1 : Int32) (σ : St) : Kon X 7 yX7_ticks cX7_ticks 2 (some .int) gI [.ref (adr X 7 0), .int p1] σ (fX7_ticks p1 σ) := by
  refine konJ (own := RX7) (fun _ => gI) (fun a b => [.ref (a 7 0), .int p1]) (by decide +kernel) rfl (fun _ _ => Nat.le_of_ble_eq_true rfl) (fun Y C M => ?_)
  show V Y gI 0 [(0, .ref (adr Y 7 0)), (1, .int p1)] [] σ (fX7_ticks p1 σ)
  unfold fX7_ticks
  refine v_aload_n 0 C dX7_ticks_0 rfl ?_
  refine v_aload_n 0 C dX7_ticks_1 rfl ?_
  refine v_geti C dX7_ticks_2 lf_X7_89 ck_7 (by decide) ?_
  refine v_iload_n 1 C dX7_ticks_5 rfl ?_
  refine v_cS1p C dX7_ticks_6 ls_X7_251 (kX7_isStepCount p1 _) (by decide) (Nat.le_of_ble_eq_true rfl) ?_
  refine v_cV2i C dX7_ticks_9 lv_X7_145 ck_7 (kX7_accepts (σ.1 7 0 8) (fX7_isStepCount p1) _) (by decide) (Nat.le_of_ble_eq_true rfl) (fun r2 σ1 => ?_)
  refine v_if_ne (tgt := 17) C dX7_ticks_12 (by decide) ?_ ?_
  · skip
    refine v_aload_n 0 C dX7_ticks_17 rfl ?_
    refine v_getk C dX7_ticks_18 lf_X7_35 ck_7 rfl ?_
    refine v_iload_n 1 C dX7_ticks_21 rfl ?_
    refine v_aload_n 0 C dX7_ticks_22 rfl ?_
    refine v_getk C dX7_ticks_23 lf_X7_28 ck_7 rfl ?_
    refine v_cV2v C dX7_ticks_26 lv_X7_258 ck_4 (kX4_advance 0 p1 ck_4 _) (by decide) (Nat.le_of_ble_eq_true rfl) (fun _ σ3 => ?_)
    refine v_aload_n 0 C dX7_ticks_29 rfl ?_
    refine v_getk C dX7_ticks_30 lf_X7_35 ck_7 rfl ?_
    refine v_geti C dX7_ticks_33 lf_X7_286 ck_4 (by decide) ?_
    exact v_iret C M dX7_ticks_36
  · skip
    refine v_iconst C dX7_ticks_15 kc_iconst_m1 ?_
    exact v_iret C M dX7_ticks_16
-- OpenLines keep()Z, depth 3
def fX7_keep (σ : St) : Option (Int32 × St) :=
  (if (σ.1 7 0 8) = 0 then lt (wI σ 7 0 10 (nI 1)) fun (σ4 : St) => some (0, σ4) else bd (fX4_copy 2 0 σ) fun _ (σ1 : St) => gd ((nI 1) = 0 ∨ (nI 1) = 1) <| lt (wI σ1 7 0 9 (nI 1)) fun (σ2 : St) => lt (wI σ2 7 0 10 0) fun (σ3 : St) => some (nI 1, σ3))
set_option maxRecDepth 20000 in
theorem kX7_keep {X : Cx} (σ : St) : Kon X 3 yX7_keep cX7_keep 1 (some .boolean) gI [.ref (adr X 7 0)] σ (fX7_keep σ) := by
  refine konJ (own := RX7) (fun _ => gI) (fun a b => [.ref (a 7 0)]) (by decide +kernel) rfl (fun _ _ => Nat.le_of_ble_eq_true rfl) (fun Y C M => ?_)
  show V Y gI 0 [(0, .ref (adr Y 7 0))] [] σ (fX7_keep σ)
  unfold fX7_keep
  refine v_aload_n 0 C dX7_keep_0 rfl ?_
  refine v_geti C dX7_keep_1 lf_X7_89 ck_7 (by decide) ?_
  refine v_if_ne (tgt := 14) C dX7_keep_4 (by decide) ?_ ?_
  · skip
    refine v_aload_n 0 C dX7_keep_14 rfl ?_
    refine v_getk C dX7_keep_15 lf_X7_42 ck_7 rfl ?_
    refine v_aload_n 0 C dX7_keep_18 rfl ?_
    refine v_getk C dX7_keep_19 lf_X7_35 ck_7 rfl ?_
    refine v_cV1v C dX7_keep_22 lv_X7_254 ck_4_2 (kX4_copy 2 0 ck_4_2 ck_4 _) (by decide) (Nat.le_of_ble_eq_true rfl) (fun _ σ1 => ?_)
    refine v_aload_n 0 C dX7_keep_25 rfl ?_
    refine v_iconst C dX7_keep_26 kc_iconst_1 ?_
    refine v_putzL C dX7_keep_27 lp_X7_93 ck_7 (by decide) (fun σ2 => ?_)
    refine v_aload_n 0 C dX7_keep_30 rfl ?_
    refine v_iconst C dX7_keep_31 kc_iconst_0 ?_
    refine v_putiL C dX7_keep_32 lp_X7_102 ck_7 (by decide) (fun σ3 => ?_)
    refine v_iconst C dX7_keep_35 kc_iconst_1 ?_
    exact v_zret C M (by decide) dX7_keep_36
  · skip
    refine v_aload_n 0 C dX7_keep_7 rfl ?_
    refine v_iconst C dX7_keep_8 kc_iconst_1 ?_
    refine v_putiL C dX7_keep_9 lp_X7_102 ck_7 (by decide) (fun σ4 => ?_)
    refine v_iconst C dX7_keep_12 kc_iconst_0 ?_
    exact v_zret C M (by decide) dX7_keep_13
-- OpenLines back()Z, depth 3
def fX7_back (σ : St) : Option (Int32 × St) :=
  (if (σ.1 7 0 9) = 0 then lt (wI σ 7 0 10 (nI 1)) fun (σ3 : St) => some (0, σ3) else bd (fX4_copy 0 2 σ) fun _ (σ1 : St) => lt (wI σ1 7 0 10 0) fun (σ2 : St) => some (nI 1, σ2))
set_option maxRecDepth 20000 in
theorem kX7_back {X : Cx} (σ : St) : Kon X 3 yX7_back cX7_back 1 (some .boolean) gI [.ref (adr X 7 0)] σ (fX7_back σ) := by
  refine konJ (own := RX7) (fun _ => gI) (fun a b => [.ref (a 7 0)]) (by decide +kernel) rfl (fun _ _ => Nat.le_of_ble_eq_true rfl) (fun Y C M => ?_)
  show V Y gI 0 [(0, .ref (adr Y 7 0))] [] σ (fX7_back σ)
  unfold fX7_back
  refine v_aload_n 0 C dX7_back_0 rfl ?_
  refine v_geti C dX7_back_1 lf_X7_93 ck_7 (by decide) ?_
  refine v_if_ne (tgt := 14) C dX7_back_4 (by decide) ?_ ?_
  · skip
    refine v_aload_n 0 C dX7_back_14 rfl ?_
    refine v_getk C dX7_back_15 lf_X7_35 ck_7 rfl ?_
    refine v_aload_n 0 C dX7_back_18 rfl ?_
    refine v_getk C dX7_back_19 lf_X7_42 ck_7 rfl ?_
    refine v_cV1v C dX7_back_22 lv_X7_254 ck_4 (kX4_copy 0 2 ck_4 ck_4_2 _) (by decide) (Nat.le_of_ble_eq_true rfl) (fun _ σ1 => ?_)
    refine v_aload_n 0 C dX7_back_25 rfl ?_
    refine v_iconst C dX7_back_26 kc_iconst_0 ?_
    refine v_putiL C dX7_back_27 lp_X7_102 ck_7 (by decide) (fun σ2 => ?_)
    refine v_iconst C dX7_back_30 kc_iconst_1 ?_
    exact v_zret C M (by decide) dX7_back_31
  · skip
    refine v_aload_n 0 C dX7_back_7 rfl ?_
    refine v_iconst C dX7_back_8 kc_iconst_1 ?_
    refine v_putiL C dX7_back_9 lp_X7_102 ck_7 (by decide) (fun σ3 => ?_)
    refine v_iconst C dX7_back_12 kc_iconst_0 ?_
    exact v_zret C M (by decide) dX7_back_13
-- OpenLines trouble()I, depth 0
def fX7_trouble (σ : St) : Option (Int32 × St) :=
  some (σ.1 7 0 10, σ)
set_option maxRecDepth 20000 in
theorem kX7_trouble {X : Cx} (σ : St) : Kon X 0 yX7_trouble cX7_trouble 1 (some .int) gI [.ref (adr X 7 0)] σ (fX7_trouble σ) := by
  refine konJ (own := RX7) (fun _ => gI) (fun a b => [.ref (a 7 0)]) (by decide +kernel) rfl (fun _ _ => Nat.le_of_ble_eq_true rfl) (fun Y C M => ?_)
  show V Y gI 0 [(0, .ref (adr Y 7 0))] [] σ (fX7_trouble σ)
  unfold fX7_trouble
  refine v_aload_n 0 C dX7_trouble_0 rfl ?_
  refine v_geti C dX7_trouble_1 lf_X7_102 ck_7 (by decide) ?_
  exact v_iret C M dX7_trouble_4
-- OpenLines size(I)I, depth 2
def fX7_size (p1 : Int32) (σ : St) : Option (Int32 × St) :=
  (if p1 = 0 then some (σ.1 6 0 1, σ) else if p1 = nI 1 then (if (σ.1 7 0 8) = 0 then some (0, σ) else bd (fX4_asksToCome 0 σ) fun (r4 : Int32) (σ3 : St) => some (r4, σ3)) else if p1 = nI 2 then some (if (σ.1 7 0 9) = 0 then 0 else (nI 1), σ) else if p1 = nI 3 then (if (σ.1 7 0 8) = 0 then some (0, σ) else bd (fX4_hurtLines 0 σ) fun (r11 : Int32) (σ10 : St) => some (r11, σ10)) else some ((-1), σ))
set_option maxRecDepth 20000 in
theorem kX7_size {X : Cx} (p1 : Int32) (σ : St) : Kon X 2 yX7_size cX7_size 2 (some .int) gI [.ref (adr X 7 0), .int p1] σ (fX7_size p1 σ) := by
  refine konJ (own := RX7) (fun _ => gI) (fun a b => [.ref (a 7 0), .int p1]) (by decide +kernel) rfl (fun _ _ => Nat.le_of_ble_eq_true rfl) (fun Y C M => ?_)
  show V Y gI 0 [(0, .ref (adr Y 7 0)), (1, .int p1)] [] σ (fX7_size p1 σ)
  unfold fX7_size
  refine v_iload_n 1 C dX7_size_0 rfl ?_
  refine v_swK (k := 0) (tgt := 32) C dX7_size_1 (by decide) rfl (by decide) ?_ (fun h1 => ?_)
  · skip
    refine v_aload_n 0 C dX7_size_32 rfl ?_
    refine v_getk C dX7_size_33 lf_X7_10 ck_7 rfl ?_
    refine v_geti C dX7_size_36 lf_X7_63 ck_6 (by decide) ?_
    exact v_iret C M dX7_size_39
  refine v_swK (k := nI 1) (tgt := 40) C dX7_size_1 (by decide) rfl (by decide) ?_ (fun h2 => ?_)
  · skip
    refine v_aload_n 0 C dX7_size_40 rfl ?_
    refine v_geti C dX7_size_41 lf_X7_89 ck_7 (by decide) ?_
    refine v_if_eq (tgt := 57) C dX7_size_44 (by decide) ?_ ?_
    · skip
      refine v_iconst C dX7_size_57 kc_iconst_0 ?_
      exact v_iret C M dX7_size_58
    · skip
      refine v_aload_n 0 C dX7_size_47 rfl ?_
      refine v_getk C dX7_size_48 lf_X7_35 ck_7 rfl ?_
      refine v_cV0i C dX7_size_51 lv_X7_299 ck_4 (kX4_asksToCome 0 ck_4 _) (by decide) (Nat.le_of_ble_eq_true rfl) (fun r4 σ3 => ?_)
      refine v_goto (tgt := 58) C dX7_size_54 (by decide) ?_
      exact v_iret C M dX7_size_58
  refine v_swK (k := nI 2) (tgt := 59) C dX7_size_1 (by decide) rfl (by decide) ?_ (fun h5 => ?_)
  · skip
    refine v_aload_n 0 C dX7_size_59 rfl ?_
    refine v_geti C dX7_size_60 lf_X7_93 ck_7 (by decide) ?_
    refine v_cut (pcJ := 71) (lv := [(0, .ref (adr Y 7 0)), (1, .int p1)]) (st := .int (if (σ.1 7 0 9) = 0 then 0 else (nI 1)) :: []) ?_ (fun hj6 => ?_)
    rotate_left
    · skip
      refine v_if_eq_b (tgt := 70) C dX7_size_63 (by decide) (fun h7 => ?_) (fun h7 => ?_)
      · have hj8 := v_jpos h7 hj6
        refine v_iconst C dX7_size_70 kc_iconst_0 ?_
        exact hj8
      · have hj8 := v_jneg h7 hj6
        refine v_iconst C dX7_size_66 kc_iconst_1 ?_
        refine v_goto (tgt := 71) C dX7_size_67 (by decide) ?_
        exact hj8
    exact v_iret C M dX7_size_71
  refine v_swK (k := nI 3) (tgt := 72) C dX7_size_1 (by decide) rfl (by decide) ?_ (fun h9 => ?_)
  · skip
    refine v_aload_n 0 C dX7_size_72 rfl ?_
    refine v_geti C dX7_size_73 lf_X7_89 ck_7 (by decide) ?_
    refine v_if_eq (tgt := 89) C dX7_size_76 (by decide) ?_ ?_
    · skip
      refine v_iconst C dX7_size_89 kc_iconst_0 ?_
      exact v_iret C M dX7_size_90
    · skip
      refine v_aload_n 0 C dX7_size_79 rfl ?_
      refine v_getk C dX7_size_80 lf_X7_35 ck_7 rfl ?_
      refine v_cV0i C dX7_size_83 lv_X7_302 ck_4 (kX4_hurtLines 0 ck_4 _) (by decide) (Nat.le_of_ble_eq_true rfl) (fun r11 σ10 => ?_)
      refine v_goto (tgt := 90) C dX7_size_86 (by decide) ?_
      exact v_iret C M dX7_size_90
  refine v_swOut (tgt := 91) C dX7_size_1 (by have qh1 := lv_neT (a := 0) h1 (by decide); have qh2 := lv_neT (a := 1) h2 (by decide); have qh5 := lv_neT (a := 2) h5 (by decide); have qh9 := lv_neT (a := 3) h9 (by decide); omega) (by decide) ?_
  refine v_iconst C dX7_size_91 kc_iconst_m1 ?_
  exact v_iret C M dX7_size_92
end
