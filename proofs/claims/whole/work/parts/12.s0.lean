noncomputable section
-- OpenLines$Reader packed(Ljava/lang/String;)I, depth 4
def LX3_packed_4 (s0 : Nat) (ke : Int32 → St → Option (Int32 × St)) : Nat → Int32 → Int32 → St → Option (Int32 × St)
  | 0, _, _, _ => none
  | n + 1, b1, b2, σ => (if (nI (lenS.getD s0 0)) ≤ b2 then ke b1 σ else gi b2 (lenS.getD s0 0) <| lt ((b1 * (nI 27)) + (fX3_letter (chS s0 b2.toNatClampNeg))) fun (x1 : Int32) => LX3_packed_4 s0 ke n x1 (b2 + nI 1) σ)
def fX3_packed (s0 : Nat) (σ : St) : Option (Int32 × St) :=
  (LX3_packed_4 s0 (fun (x2 : Int32) (σ3 : St) => some (x2, σ3)) FU 0 0 σ)
set_option maxRecDepth 20000 in
theorem vLX3_packed_4 {Y : Cx} (s0 : Nat) (hs0 : s0 < 10) (C : Ok Y RX3 cX3_packed 3 4) (M : OkM Y (some .int)) (ke : Int32 → St → Option (Int32 × St)) (hke : ∀ (b1 : Int32) (σ : St), V Y gI 32 [(1, .int b1)] [] σ (ke b1 σ)) : ∀ (n : Nat) (b1 : Int32) (b2 : Int32) (σ : St), V Y gI 4 [(0, .ref (adS Y s0)), (1, .int b1), (2, .int b2)] [] σ (LX3_packed_4 s0 ke n b1 b2 σ) := by
  intro n
  induction n with
  | zero => intros; exact v_none
  | succ n ih =>
    intro b1 b2 σ
    rw [LX3_packed_4]
    refine v_iload_n 2 C dX3_packed_4 rfl ?_
    refine v_aload_n 0 C dX3_packed_5 rfl ?_
    refine v_slen_X3_170 C dX3_packed_6 hs0 (by decide) (Nat.le_of_ble_eq_true rfl) ?_
    refine v_icmp_ge (tgt := 32) C dX3_packed_9 (by decide) ?_ ?_
    · skip
      exact v_lv (hke b1 σ) [1] rfl
    · skip
      refine v_iload_n 1 C dX3_packed_12 rfl ?_
      refine v_bipush C dX3_packed_13 kc_bipush_27 ?_
      refine v_imul C dX3_packed_15 ?_
      refine v_aload_n 0 C dX3_packed_16 rfl ?_
      refine v_iload_n 2 C dX3_packed_17 rfl ?_
      refine v_schar_X3_175 C dX3_packed_18 hs0 (by decide) (Nat.le_of_ble_eq_true rfl) ?_
      refine v_cS1p C dX3_packed_21 ls_X3_167 (kX3_letter (chS s0 b2.toNatClampNeg) _) (by decide) (Nat.le_of_ble_eq_true rfl) ?_
      refine v_iadd C dX3_packed_24 ?_
      refine v_istore_nL (lv0 := [(0, .ref (adS Y s0)), (2, .int b2)]) C dX3_packed_25 rfl (by decide) rfl (fun x1 => ?_)
      refine v_iinc (lv' := [(2, .int (b2 + nI 1)), (1, .int x1), (0, .ref (adS Y s0))]) 2 C dX3_packed_26 rfl (congrArg (b2 + ·) kc_iconst_1) (by decide) rfl ?_
      refine v_goto (tgt := 4) C dX3_packed_29 (by decide) ?_
      exact v_lv (ih x1 (b2 + nI 1) σ) [2, 1, 0] rfl
set_option maxRecDepth 20000 in
theorem kX3_packed {X : Cx} (s0 : Nat) (hs0 : s0 < 10) (σ : St) : Kon X 4 yX3_packed cX3_packed 3 (some .int) gI [.ref (adS X s0)] σ (fX3_packed s0 σ) := by
  refine konJ (own := RX3) (fun _ => gI) (fun a b => [.ref (b s0)]) (by decide +kernel) rfl (fun _ _ => Nat.le_of_ble_eq_true rfl) (fun Y C M => ?_)
  show V Y gI 0 [(0, .ref (adS Y s0))] [] σ (fX3_packed s0 σ)
  unfold fX3_packed
  refine v_iconst C dX3_packed_0 kc_iconst_0 ?_
  refine v_istore_n (lv' := [(1, .int 0), (0, .ref (adS Y s0))]) C dX3_packed_1 rfl (by decide) rfl ?_
  refine v_iconst C dX3_packed_2 kc_iconst_0 ?_
  refine v_istore_n (lv' := [(2, .int 0), (1, .int 0), (0, .ref (adS Y s0))]) C dX3_packed_3 rfl (by decide) rfl ?_
  refine v_lv (vLX3_packed_4 _ hs0 C M _ (fun x2 σ3 => ?_) FU _ _ _) [2, 1, 0] rfl
  refine v_iload_n 0 C dX3_packed_32 rfl ?_
  exact v_iret C M dX3_packed_33
-- OpenLines$Reader isWord(Ljava/lang/String;)Z, depth 5
def fX3_isWord (s1 : Nat) (σ : St) : Option (Int32 × St) :=
  (if (σ.1 3 0 6) = (nI 1) then bd (fX3_packed s1 σ) fun (r2 : Int32) (σ1 : St) => rz (if (σ.1 3 0 8) = r2 then (nI 1) else 0) σ1 else some (0, σ))
set_option maxRecDepth 20000 in
theorem kX3_isWord {X : Cx} (s1 : Nat) (hs1 : s1 < 10) (σ : St) : Kon X 5 yX3_isWord cX3_isWord 2 (some .boolean) gI [.ref (adr X 3 0), .ref (adS X s1)] σ (fX3_isWord s1 σ) := by
  refine konJ (own := RX3) (fun _ => gI) (fun a b => [.ref (a 3 0), .ref (b s1)]) (by decide +kernel) rfl (fun _ _ => Nat.le_of_ble_eq_true rfl) (fun Y C M => ?_)
  show V Y gI 0 [(0, .ref (adr Y 3 0)), (1, .ref (adS Y s1))] [] σ (fX3_isWord s1 σ)
  unfold fX3_isWord
  refine v_aload_n 0 C dX3_isWord_0 rfl ?_
  refine v_geti C dX3_isWord_1 lf_X3_54 ck_3 (by decide) ?_
  refine v_iconst C dX3_isWord_4 kc_iconst_1 ?_
  refine v_icmp_ne (tgt := 23) C dX3_isWord_5 (by decide) ?_ ?_
  · skip
    refine v_iconst C dX3_isWord_23 kc_iconst_0 ?_
    exact v_zret C M (by decide) dX3_isWord_24
  · skip
    refine v_aload_n 0 C dX3_isWord_8 rfl ?_
    refine v_geti C dX3_isWord_9 lf_X3_99 ck_3 (by decide) ?_
    refine v_aload_n 1 C dX3_isWord_12 rfl ?_
    refine v_cS1i C dX3_isWord_13 ls_X3_143 (kX3_packed s1 hs1 _) (by decide) (Nat.le_of_ble_eq_true rfl) (fun r2 σ1 => ?_)
    refine v_cut (pcJ := 24) (lv := [(0, .ref (adr Y 3 0)), (1, .ref (adS Y s1))]) (st := .int (if (σ.1 3 0 8) = r2 then (nI 1) else 0) :: []) ?_ (fun hj3 => ?_)
    rotate_left
    · skip
      refine v_icmp_ne_b (tgt := 23) C dX3_isWord_16 (by decide) (fun h4 => ?_) (fun h4 => ?_)
      · have hj5 := v_jneg h4 hj3
        refine v_iconst C dX3_isWord_23 kc_iconst_0 ?_
        exact hj5
      · have hj5 := v_jpos h4 hj3
        refine v_iconst C dX3_isWord_19 kc_iconst_1 ?_
        refine v_goto (tgt := 24) C dX3_isWord_20 (by decide) ?_
        exact hj5
    exact v_zretg C M dX3_isWord_24
-- OpenLines$Reader keyword(Ljava/lang/String;)Z, depth 6
def fX3_keyword (s1 : Nat) (σ : St) : Option (Int32 × St) :=
  bd (fX3_step σ) fun _ (σ1 : St) => bd (fX3_isWord s1 σ1) fun (r3 : Int32) (σ2 : St) => (jn (fun (σ4 : St) => some (nI 1, σ4)) fun j20 => if r3 = 0 then bd (fX3_fail (nI 1) σ2) fun (r6 : Int32) (σ5 : St) => (if r6 = 0 then some (0, σ5) else j20 σ5) else j20 σ2)
set_option maxRecDepth 20000 in
theorem kX3_keyword {X : Cx} (s1 : Nat) (hs1 : s1 < 10) (σ : St) : Kon X 6 yX3_keyword cX3_keyword 2 (some .boolean) gI [.ref (adr X 3 0), .ref (adS X s1)] σ (fX3_keyword s1 σ) := by
  refine konJ (own := RX3) (fun _ => gI) (fun a b => [.ref (a 3 0), .ref (b s1)]) (by decide +kernel) rfl (fun _ _ => Nat.le_of_ble_eq_true rfl) (fun Y C M => ?_)
  show V Y gI 0 [(0, .ref (adr Y 3 0)), (1, .ref (adS Y s1))] [] σ (fX3_keyword s1 σ)
  unfold fX3_keyword
  refine v_aload_n 0 C dX3_keyword_0 rfl ?_
  refine v_cV0v C dX3_keyword_1 lv_X3_51 ck_3 (kX3_step _) (by decide) (Nat.le_of_ble_eq_true rfl) (fun _ σ1 => ?_)
  refine v_aload_n 0 C dX3_keyword_4 rfl ?_
  refine v_aload_n 1 C dX3_keyword_5 rfl ?_
  refine v_cV1i C dX3_keyword_6 lv_X3_66 ck_3 (kX3_isWord s1 hs1 _) (by decide) (Nat.le_of_ble_eq_true rfl) (fun r3 σ2 => ?_)
  refine v_jn (fun j20 => ∀ (σ4 : St), V Y gI 20 [] [] σ4 (j20 σ4)) ?_ ?_
  · intro σ4
    refine v_iconst C dX3_keyword_20 kc_iconst_1 ?_
    refine v_goto (tgt := 25) C dX3_keyword_21 (by decide) ?_
    exact v_zret C M (by decide) dX3_keyword_25
  · intro j20 hj20
    refine v_if_ne (tgt := 20) C dX3_keyword_9 (by decide) ?_ ?_
    · skip
      exact v_lv (hj20 σ2) [] rfl
    · skip
      refine v_aload_n 0 C dX3_keyword_12 rfl ?_
      refine v_iconst C dX3_keyword_13 kc_iconst_1 ?_
      refine v_cV1i C dX3_keyword_14 lv_X3_60 ck_3 (kX3_fail (nI 1) _) (by decide) (Nat.le_of_ble_eq_true rfl) (fun r6 σ5 => ?_)
      refine v_if_eq (tgt := 24) C dX3_keyword_17 (by decide) ?_ ?_
      · skip
        refine v_iconst C dX3_keyword_24 kc_iconst_0 ?_
        exact v_zret C M (by decide) dX3_keyword_25
      · skip
        exact v_lv (hj20 σ5) [] rfl
-- OpenLines$Reader readHead()Z, depth 7
def fX3_readHead (σ : St) : Option (Int32 × St) :=
  gd (σ.2.2 3 0 3 < 6) <| gd ((nI 1) = 0 ∨ (nI 1) = 1) <| lt (wI σ 2 (σ.2.2 3 0 3) 5 (nI 1)) fun (σ2 : St) => bd (fX3_keyword 1 σ2) fun (r4 : Int32) (σ3 : St) => (if r4 = 0 then some (0, σ3) else bd (fX3_whole (nI 1) (nI 3) σ3) fun (r6 : Int32) (σ5 : St) => (if r6 = 0 then some (0, σ5) else gd (σ5.2.2 3 0 3 < 6) <| lt (wI σ5 2 (σ5.2.2 3 0 3) 0 (σ5.1 3 0 8)) fun (σ8 : St) => bd (fX3_keyword 2 σ8) fun (r10 : Int32) (σ9 : St) => (if r10 = 0 then some (0, σ9) else bd (fX3_whole 0 (nI 20) σ9) fun (r12 : Int32) (σ11 : St) => (if r12 = 0 then some (0, σ11) else gd (σ11.2.2 3 0 3 < 6) <| lt (wI σ11 2 (σ11.2.2 3 0 3) 1 (σ11.1 3 0 8)) fun (σ14 : St) => bd (fX3_keyword 3 σ14) fun (r16 : Int32) (σ15 : St) => (if r16 = 0 then some (0, σ15) else bd (fX3_whole (nI 1) (nI 200) σ15) fun (r18 : Int32) (σ17 : St) => (if r18 = 0 then some (0, σ17) else gd (σ17.2.2 3 0 3 < 6) <| lt (wI σ17 2 (σ17.2.2 3 0 3) 2 (σ17.1 3 0 8)) fun (σ20 : St) => some (nI 1, σ20)))))))
set_option maxRecDepth 20000 in
theorem kX3_readHead {X : Cx} (σ : St) : Kon X 7 yX3_readHead cX3_readHead 1 (some .boolean) gI [.ref (adr X 3 0)] σ (fX3_readHead σ) := by
  refine konJ (own := RX3) (fun _ => gI) (fun a b => [.ref (a 3 0)]) (by decide +kernel) rfl (fun _ _ => Nat.le_of_ble_eq_true rfl) (fun Y C M => ?_)
  show V Y gI 0 [(0, .ref (adr Y 3 0))] [] σ (fX3_readHead σ)
  unfold fX3_readHead
  refine v_aload_n 0 C dX3_readHead_0 rfl ?_
  refine v_getr C dX3_readHead_1 lf_X3_12 ck_3 rfl rfl (fun hq1 => ?_)
  refine v_iconst C dX3_readHead_4 kc_iconst_1 ?_
  refine v_putzL C dX3_readHead_5 lp_X3_70 hq1 (by decide) (fun σ2 => ?_)
  refine v_aload_n 0 C dX3_readHead_8 rfl ?_
  refine v_ldcS (i := 1) (tx := "gate") C dX3_readHead_9 (by decide +kernel) ?_
  refine v_cV1i C dX3_readHead_11 lv_X3_92 ck_3 (kX3_keyword 1 (by decide) _) (by decide) (Nat.le_of_ble_eq_true rfl) (fun r4 σ3 => ?_)
  refine v_if_eq (tgt := 26) C dX3_readHead_14 (by decide) ?_ ?_
  · skip
    refine v_iconst C dX3_readHead_26 kc_iconst_0 ?_
    exact v_zret C M (by decide) dX3_readHead_27
  · skip
    refine v_aload_n 0 C dX3_readHead_17 rfl ?_
    refine v_iconst C dX3_readHead_18 kc_iconst_1 ?_
    refine v_iconst C dX3_readHead_19 kc_iconst_3 ?_
    refine v_cV2i C dX3_readHead_20 lv_X3_95 ck_3 (kX3_whole (nI 1) (nI 3) _) (by decide) (Nat.le_of_ble_eq_true rfl) (fun r6 σ5 => ?_)
    refine v_if_ne (tgt := 28) C dX3_readHead_23 (by decide) ?_ ?_
    · skip
      refine v_aload_n 0 C dX3_readHead_28 rfl ?_
      refine v_getr C dX3_readHead_29 lf_X3_12 ck_3 rfl rfl (fun hq7 => ?_)
      refine v_aload_n 0 C dX3_readHead_32 rfl ?_
      refine v_geti C dX3_readHead_33 lf_X3_99 ck_3 (by decide) ?_
      refine v_putiL C dX3_readHead_36 lp_X3_102 hq7 (by decide) (fun σ8 => ?_)
      refine v_aload_n 0 C dX3_readHead_39 rfl ?_
      refine v_ldcS (i := 2) (tx := "filter") C dX3_readHead_40 (by decide +kernel) ?_
      refine v_cV1i C dX3_readHead_42 lv_X3_92 ck_3 (kX3_keyword 2 (by decide) _) (by decide) (Nat.le_of_ble_eq_true rfl) (fun r10 σ9 => ?_)
      refine v_if_eq (tgt := 58) C dX3_readHead_45 (by decide) ?_ ?_
      · skip
        refine v_iconst C dX3_readHead_58 kc_iconst_0 ?_
        exact v_zret C M (by decide) dX3_readHead_59
      · skip
        refine v_aload_n 0 C dX3_readHead_48 rfl ?_
        refine v_iconst C dX3_readHead_49 kc_iconst_0 ?_
        refine v_bipush C dX3_readHead_50 kc_bipush_20 ?_
        refine v_cV2i C dX3_readHead_52 lv_X3_95 ck_3 (kX3_whole 0 (nI 20) _) (by decide) (Nat.le_of_ble_eq_true rfl) (fun r12 σ11 => ?_)
        refine v_if_ne (tgt := 60) C dX3_readHead_55 (by decide) ?_ ?_
        · skip
          refine v_aload_n 0 C dX3_readHead_60 rfl ?_
          refine v_getr C dX3_readHead_61 lf_X3_12 ck_3 rfl rfl (fun hq13 => ?_)
          refine v_aload_n 0 C dX3_readHead_64 rfl ?_
          refine v_geti C dX3_readHead_65 lf_X3_99 ck_3 (by decide) ?_
          refine v_putiL C dX3_readHead_68 lp_X3_106 hq13 (by decide) (fun σ14 => ?_)
          refine v_aload_n 0 C dX3_readHead_71 rfl ?_
          refine v_ldcS (i := 3) (tx := "window") C dX3_readHead_72 (by decide +kernel) ?_
          refine v_cV1i C dX3_readHead_74 lv_X3_92 ck_3 (kX3_keyword 3 (by decide) _) (by decide) (Nat.le_of_ble_eq_true rfl) (fun r16 σ15 => ?_)
          refine v_if_eq (tgt := 91) C dX3_readHead_77 (by decide) ?_ ?_
          · skip
            refine v_iconst C dX3_readHead_91 kc_iconst_0 ?_
            exact v_zret C M (by decide) dX3_readHead_92
          · skip
            refine v_aload_n 0 C dX3_readHead_80 rfl ?_
            refine v_iconst C dX3_readHead_81 kc_iconst_1 ?_
            refine v_sipush C dX3_readHead_82 kc_sipush_200 ?_
            refine v_cV2i C dX3_readHead_85 lv_X3_95 ck_3 (kX3_whole (nI 1) (nI 200) _) (by decide) (Nat.le_of_ble_eq_true rfl) (fun r18 σ17 => ?_)
            refine v_if_ne (tgt := 93) C dX3_readHead_88 (by decide) ?_ ?_
            · skip
              refine v_aload_n 0 C dX3_readHead_93 rfl ?_
              refine v_getr C dX3_readHead_94 lf_X3_12 ck_3 rfl rfl (fun hq19 => ?_)
              refine v_aload_n 0 C dX3_readHead_97 rfl ?_
              refine v_geti C dX3_readHead_98 lf_X3_99 ck_3 (by decide) ?_
              refine v_putiL C dX3_readHead_101 lp_X3_110 hq19 (by decide) (fun σ20 => ?_)
              refine v_iconst C dX3_readHead_104 kc_iconst_1 ?_
              exact v_zret C M (by decide) dX3_readHead_105
            · skip
              refine v_iconst C dX3_readHead_91 kc_iconst_0 ?_
              exact v_zret C M (by decide) dX3_readHead_92
        · skip
          refine v_iconst C dX3_readHead_58 kc_iconst_0 ?_
          exact v_zret C M (by decide) dX3_readHead_59
    · skip
      refine v_iconst C dX3_readHead_26 kc_iconst_0 ?_
      exact v_zret C M (by decide) dX3_readHead_27
-- OpenLines$Reader name()Z, depth 6
def fX3_name (σ : St) : Option (Int32 × St) :=
  bd (fX3_step σ) fun _ (σ1 : St) => bd (fX3_isWord 0 σ1) fun (r3 : Int32) (σ2 : St) => (jn (fun (x5 : Int32) (σ4 : St) => (jn (fun (σ6 : St) => some (nI 1, σ6)) fun j57 => jn (fun (σ7 : St) => bd (fX3_fail (nI 1) σ7) fun (r9 : Int32) (σ8 : St) => (if r9 = 0 then some (0, σ8) else j57 σ8)) fun j49 => if (σ4.1 3 0 6) = (nI 1) then (if x5 = 0 then j57 σ4 else j49 σ4) else j49 σ4)) fun j36 => jn (fun (σ10 : St) => j36 (nI 1) σ10) fun j31 => if r3 = 0 then bd (fX3_isWord 4 σ2) fun (r12 : Int32) (σ11 : St) => (if r12 = 0 then bd (fX3_isWord 5 σ11) fun (r14 : Int32) (σ13 : St) => (if r14 = 0 then j36 0 σ13 else j31 σ13) else j31 σ11) else j31 σ2)
set_option maxRecDepth 20000 in
theorem kX3_name {X : Cx} (σ : St) : Kon X 6 yX3_name cX3_name 2 (some .boolean) gI [.ref (adr X 3 0)] σ (fX3_name σ) := by
  refine konJ (own := RX3) (fun _ => gI) (fun a b => [.ref (a 3 0)]) (by decide +kernel) rfl (fun _ _ => Nat.le_of_ble_eq_true rfl) (fun Y C M => ?_)
  show V Y gI 0 [(0, .ref (adr Y 3 0))] [] σ (fX3_name σ)
  unfold fX3_name
  refine v_aload_n 0 C dX3_name_0 rfl ?_
  refine v_cV0v C dX3_name_1 lv_X3_51 ck_3 (kX3_step _) (by decide) (Nat.le_of_ble_eq_true rfl) (fun _ σ1 => ?_)
  refine v_aload_n 0 C dX3_name_4 rfl ?_
  refine v_ldcS (i := 0) (tx := "bus") C dX3_name_5 (by decide +kernel) ?_
  refine v_cV1i C dX3_name_7 lv_X3_66 ck_3 (kX3_isWord 0 (by decide) _) (by decide) (Nat.le_of_ble_eq_true rfl) (fun r3 σ2 => ?_)
  refine v_jn (fun j36 => ∀ (x5 : Int32) (σ4 : St), V Y gI 36 [(0, .ref (adr Y 3 0))] [.int x5] σ4 (j36 x5 σ4)) ?_ ?_
  · intro x5 σ4
    refine v_istore_n (lv' := [(1, .int x5), (0, .ref (adr Y 3 0))]) C dX3_name_36 rfl (by decide) rfl ?_
    refine v_aload_n 1 C dX3_name_37 rfl ?_
    refine v_geti C dX3_name_38 lf_X3_54 ck_3 (by decide) ?_
    refine v_iconst C dX3_name_41 kc_iconst_1 ?_
    refine v_jn (fun j57 => ∀ (σ6 : St), V Y gI 57 [] [] σ6 (j57 σ6)) ?_ ?_
    · intro σ6
      refine v_iconst C dX3_name_57 kc_iconst_1 ?_
      refine v_goto (tgt := 62) C dX3_name_58 (by decide) ?_
      exact v_zret C M (by decide) dX3_name_62
    · intro j57 hj57
      refine v_jn (fun j49 => ∀ (σ7 : St), V Y gI 49 [(0, .ref (adr Y 3 0))] [] σ7 (j49 σ7)) ?_ ?_
      · intro σ7
        refine v_aload_n 0 C dX3_name_49 rfl ?_
        refine v_iconst C dX3_name_50 kc_iconst_1 ?_
        refine v_cV1i C dX3_name_51 lv_X3_60 ck_3 (kX3_fail (nI 1) _) (by decide) (Nat.le_of_ble_eq_true rfl) (fun r9 σ8 => ?_)
        refine v_if_eq (tgt := 61) C dX3_name_54 (by decide) ?_ ?_
        · skip
          refine v_iconst C dX3_name_61 kc_iconst_0 ?_
          exact v_zret C M (by decide) dX3_name_62
        · skip
          exact v_lv (hj57 σ8) [] rfl
      · intro j49 hj49
        refine v_icmp_ne (tgt := 49) C dX3_name_42 (by decide) ?_ ?_
        · skip
          exact v_lv (hj49 σ4) [1] rfl
        · skip
          refine v_iload_n 0 C dX3_name_45 rfl ?_
          refine v_if_eq (tgt := 57) C dX3_name_46 (by decide) ?_ ?_
          · skip
            exact v_lv (hj57 σ4) [] rfl
          · skip
            exact v_lv (hj49 σ4) [1] rfl
  · intro j36 hj36
    refine v_jn (fun j31 => ∀ (σ10 : St), V Y gI 31 [(0, .ref (adr Y 3 0))] [] σ10 (j31 σ10)) ?_ ?_
    · intro σ10
      refine v_iconst C dX3_name_31 kc_iconst_1 ?_
      refine v_goto (tgt := 36) C dX3_name_32 (by decide) ?_
      exact v_lv (hj36 (nI 1) σ10) [0] rfl
    · intro j31 hj31
      refine v_if_ne (tgt := 31) C dX3_name_10 (by decide) ?_ ?_
      · skip
        exact v_lv (hj31 σ2) [0] rfl
      · skip
        refine v_aload_n 0 C dX3_name_13 rfl ?_
        refine v_ldcS (i := 4) (tx := "board") C dX3_name_14 (by decide +kernel) ?_
        refine v_cV1i C dX3_name_16 lv_X3_66 ck_3 (kX3_isWord 4 (by decide) _) (by decide) (Nat.le_of_ble_eq_true rfl) (fun r12 σ11 => ?_)
        refine v_if_ne (tgt := 31) C dX3_name_19 (by decide) ?_ ?_
        · skip
          exact v_lv (hj31 σ11) [0] rfl
        · skip
          refine v_aload_n 0 C dX3_name_22 rfl ?_
          refine v_ldcS (i := 5) (tx := "ask") C dX3_name_23 (by decide +kernel) ?_
          refine v_cV1i C dX3_name_25 lv_X3_66 ck_3 (kX3_isWord 5 (by decide) _) (by decide) (Nat.le_of_ble_eq_true rfl) (fun r14 σ13 => ?_)
          refine v_if_eq (tgt := 35) C dX3_name_28 (by decide) ?_ ?_
          · skip
            refine v_iconst C dX3_name_35 kc_iconst_0 ?_
            exact v_lv (hj36 0 σ13) [0] rfl
          · skip
            exact v_lv (hj31 σ13) [0] rfl
-- OpenLines$Reader readBoard()Z, depth 7
def fX3_readBoard (σ : St) : Option (Int32 × St) :=
  bd (fX3_name σ) fun (r2 : Int32) (σ1 : St) => (if r2 = 0 then some (0, σ1) else lt (σ1.1 3 0 8) fun (x3 : Int32) => gd (σ1.2.2 3 0 3 < 6) <| bd (fX2_boardOfName (σ1.2.2 3 0 3) x3 σ1) fun (r6 : Int32) (σ5 : St) => (if r6 = (-1) then bd (fX3_keyword 6 σ5) fun (r8 : Int32) (σ7 : St) => (if r8 = 0 then some (0, σ7) else bd (fX3_whole 0 (nI 9) σ7) fun (r10 : Int32) (σ9 : St) => (if r10 = 0 then some (0, σ9) else lt (σ9.1 3 0 8) fun (x11 : Int32) => gd (σ9.2.2 3 0 3 < 6) <| bd (fX2_boardOfSlot (σ9.2.2 3 0 3) x11 σ9) fun (r14 : Int32) (σ13 : St) => (if r14 = (-1) then bd (fX3_keyword 7 σ13) fun (r16 : Int32) (σ15 : St) => (if r16 = 0 then some (0, σ15) else bd (fX3_whole (nI 1) (nI 31) σ15) fun (r18 : Int32) (σ17 : St) => (if r18 = 0 then some (0, σ17) else lt (σ17.1 3 0 8) fun (x19 : Int32) => gd (σ17.2.2 3 0 3 < 6) <| bd (fX2_boardOfCode (σ17.2.2 3 0 3) x19 σ17) fun (r22 : Int32) (σ21 : St) => (if r22 = (-1) then bd (fX3_keyword 8 σ21) fun (r24 : Int32) (σ23 : St) => (if r24 = 0 then some (0, σ23) else bd (fX3_whole 0 (nI 7) σ23) fun (r26 : Int32) (σ25 : St) => (if r26 = 0 then some (0, σ25) else gd (σ25.2.2 3 0 3 < 6) <| bd (fX2_addBoard (σ25.2.2 3 0 3) x3 x11 x19 (σ25.1 3 0 8) σ25) fun _ (σ28 : St) => some (nI 1, σ28))) else bd (fX3_fail (nI 3) σ21) fun (r30 : Int32) (σ29 : St) => rz r30 σ29))) else bd (fX3_fail (nI 3) σ13) fun (r32 : Int32) (σ31 : St) => rz r32 σ31))) else bd (fX3_fail (nI 3) σ5) fun (r34 : Int32) (σ33 : St) => rz r34 σ33))
set_option maxRecDepth 20000 in
theorem kX3_readBoard {X : Cx} (σ : St) : Kon X 7 yX3_readBoard cX3_readBoard 4 (some .boolean) gI [.ref (adr X 3 0)] σ (fX3_readBoard σ) := by
  refine konJ (own := RX3) (fun _ => gI) (fun a b => [.ref (a 3 0)]) (by decide +kernel) rfl (fun _ _ => Nat.le_of_ble_eq_true rfl) (fun Y C M => ?_)
  show V Y gI 0 [(0, .ref (adr Y 3 0))] [] σ (fX3_readBoard σ)
  unfold fX3_readBoard
  refine v_aload_n 0 C dX3_readBoard_0 rfl ?_
  refine v_cV0i C dX3_readBoard_1 lv_X3_112 ck_3 (kX3_name _) (by decide) (Nat.le_of_ble_eq_true rfl) (fun r2 σ1 => ?_)
  refine v_if_ne (tgt := 9) C dX3_readBoard_4 (by decide) ?_ ?_
  · skip
    refine v_aload_n 0 C dX3_readBoard_9 rfl ?_
    refine v_geti C dX3_readBoard_10 lf_X3_99 ck_3 (by decide) ?_
    refine v_istore_nL (lv0 := [(0, .ref (adr Y 3 0))]) C dX3_readBoard_13 rfl (by decide) rfl (fun x3 => ?_)
    refine v_aload_n 1 C dX3_readBoard_14 rfl ?_
    refine v_getr C dX3_readBoard_15 lf_X3_12 ck_3 rfl rfl (fun hq4 => ?_)
    refine v_iload_n 0 C dX3_readBoard_18 rfl ?_
    refine v_cV1i C dX3_readBoard_19 lv_X3_115 hq4 (kX2_boardOfName (σ1.2.2 3 0 3) x3 hq4 _) (by decide) (Nat.le_of_ble_eq_true rfl) (fun r6 σ5 => ?_)
    refine v_iconst C dX3_readBoard_22 kc_iconst_m1 ?_
    refine v_icmp_eq (tgt := 32) C dX3_readBoard_23 (by decide) ?_ ?_
    · skip
      refine v_aload_n 1 C dX3_readBoard_32 rfl ?_
      refine v_ldcS (i := 6) (tx := "slot") C dX3_readBoard_33 (by decide +kernel) ?_
      refine v_cV1i C dX3_readBoard_35 lv_X3_92 ck_3 (kX3_keyword 6 (by decide) _) (by decide) (Nat.le_of_ble_eq_true rfl) (fun r8 σ7 => ?_)
      refine v_if_eq (tgt := 51) C dX3_readBoard_38 (by decide) ?_ ?_
      · skip
        refine v_iconst C dX3_readBoard_51 kc_iconst_0 ?_
        exact v_zret C M (by decide) dX3_readBoard_52
      · skip
        refine v_aload_n 1 C dX3_readBoard_41 rfl ?_
        refine v_iconst C dX3_readBoard_42 kc_iconst_0 ?_
        refine v_bipush C dX3_readBoard_43 kc_bipush_9 ?_
        refine v_cV2i C dX3_readBoard_45 lv_X3_95 ck_3 (kX3_whole 0 (nI 9) _) (by decide) (Nat.le_of_ble_eq_true rfl) (fun r10 σ9 => ?_)
        refine v_if_ne (tgt := 53) C dX3_readBoard_48 (by decide) ?_ ?_
        · skip
          refine v_aload_n 1 C dX3_readBoard_53 rfl ?_
          refine v_geti C dX3_readBoard_54 lf_X3_99 ck_3 (by decide) ?_
          refine v_istore_nL (lv0 := [(1, .int x3), (0, .ref (adr Y 3 0))]) C dX3_readBoard_57 rfl (by decide) rfl (fun x11 => ?_)
          refine v_aload_n 2 C dX3_readBoard_58 rfl ?_
          refine v_getr C dX3_readBoard_59 lf_X3_12 ck_3 rfl rfl (fun hq12 => ?_)
          refine v_iload_n 0 C dX3_readBoard_62 rfl ?_
          refine v_cV1i C dX3_readBoard_63 lv_X3_121 hq12 (kX2_boardOfSlot (σ9.2.2 3 0 3) x11 hq12 _) (by decide) (Nat.le_of_ble_eq_true rfl) (fun r14 σ13 => ?_)
          refine v_iconst C dX3_readBoard_66 kc_iconst_m1 ?_
          refine v_icmp_eq (tgt := 76) C dX3_readBoard_67 (by decide) ?_ ?_
          · skip
            refine v_aload_n 2 C dX3_readBoard_76 rfl ?_
            refine v_ldcS (i := 7) (tx := "code") C dX3_readBoard_77 (by decide +kernel) ?_
            refine v_cV1i C dX3_readBoard_79 lv_X3_92 ck_3 (kX3_keyword 7 (by decide) _) (by decide) (Nat.le_of_ble_eq_true rfl) (fun r16 σ15 => ?_)
            refine v_if_eq (tgt := 95) C dX3_readBoard_82 (by decide) ?_ ?_
            · skip
              refine v_iconst C dX3_readBoard_95 kc_iconst_0 ?_
              exact v_zret C M (by decide) dX3_readBoard_96
            · skip
              refine v_aload_n 2 C dX3_readBoard_85 rfl ?_
              refine v_iconst C dX3_readBoard_86 kc_iconst_1 ?_
              refine v_bipush C dX3_readBoard_87 kc_bipush_31 ?_
              refine v_cV2i C dX3_readBoard_89 lv_X3_95 ck_3 (kX3_whole (nI 1) (nI 31) _) (by decide) (Nat.le_of_ble_eq_true rfl) (fun r18 σ17 => ?_)
              refine v_if_ne (tgt := 97) C dX3_readBoard_92 (by decide) ?_ ?_
              · skip
                refine v_aload_n 2 C dX3_readBoard_97 rfl ?_
                refine v_geti C dX3_readBoard_98 lf_X3_99 ck_3 (by decide) ?_
                refine v_istore_nL (lv0 := [(2, .int x11), (1, .int x3), (0, .ref (adr Y 3 0))]) C dX3_readBoard_101 rfl (by decide) rfl (fun x19 => ?_)
                refine v_aload_n 3 C dX3_readBoard_102 rfl ?_
                refine v_getr C dX3_readBoard_103 lf_X3_12 ck_3 rfl rfl (fun hq20 => ?_)
                refine v_iload_n 0 C dX3_readBoard_106 rfl ?_
                refine v_cV1i C dX3_readBoard_107 lv_X3_126 hq20 (kX2_boardOfCode (σ17.2.2 3 0 3) x19 hq20 _) (by decide) (Nat.le_of_ble_eq_true rfl) (fun r22 σ21 => ?_)
                refine v_iconst C dX3_readBoard_110 kc_iconst_m1 ?_
                refine v_icmp_eq (tgt := 120) C dX3_readBoard_111 (by decide) ?_ ?_
                · skip
                  refine v_aload_n 3 C dX3_readBoard_120 rfl ?_
                  refine v_ldcS (i := 8) (tx := "rank") C dX3_readBoard_121 (by decide +kernel) ?_
                  refine v_cV1i C dX3_readBoard_123 lv_X3_92 ck_3 (kX3_keyword 8 (by decide) _) (by decide) (Nat.le_of_ble_eq_true rfl) (fun r24 σ23 => ?_)
                  refine v_if_eq (tgt := 139) C dX3_readBoard_126 (by decide) ?_ ?_
                  · skip
                    refine v_iconst C dX3_readBoard_139 kc_iconst_0 ?_
                    exact v_zret C M (by decide) dX3_readBoard_140
                  · skip
                    refine v_aload_n 3 C dX3_readBoard_129 rfl ?_
                    refine v_iconst C dX3_readBoard_130 kc_iconst_0 ?_
                    refine v_bipush C dX3_readBoard_131 kc_bipush_7 ?_
                    refine v_cV2i C dX3_readBoard_133 lv_X3_95 ck_3 (kX3_whole 0 (nI 7) _) (by decide) (Nat.le_of_ble_eq_true rfl) (fun r26 σ25 => ?_)
                    refine v_if_ne (tgt := 141) C dX3_readBoard_136 (by decide) ?_ ?_
                    · skip
                      refine v_aload_n 3 C dX3_readBoard_141 rfl ?_
                      refine v_getr C dX3_readBoard_142 lf_X3_12 ck_3 rfl rfl (fun hq27 => ?_)
                      refine v_iload_n 2 C dX3_readBoard_145 rfl ?_
                      refine v_iload_n 1 C dX3_readBoard_146 rfl ?_
                      refine v_iload_n 0 C dX3_readBoard_147 rfl ?_
                      refine v_aload_n 3 C dX3_readBoard_148 rfl ?_
                      refine v_geti C dX3_readBoard_149 lf_X3_99 ck_3 (by decide) ?_
                      refine v_cV4v C dX3_readBoard_152 lv_X3_131 hq27 (kX2_addBoard (σ25.2.2 3 0 3) x3 x11 x19 (σ25.1 3 0 8) hq27 _) (by decide) (Nat.le_of_ble_eq_true rfl) (fun _ σ28 => ?_)
                      refine v_iconst C dX3_readBoard_155 kc_iconst_1 ?_
                      exact v_zret C M (by decide) dX3_readBoard_156
                    · skip
                      refine v_iconst C dX3_readBoard_139 kc_iconst_0 ?_
                      exact v_zret C M (by decide) dX3_readBoard_140
                · skip
                  refine v_aload_n 3 C dX3_readBoard_114 rfl ?_
                  refine v_iconst C dX3_readBoard_115 kc_iconst_3 ?_
                  refine v_cV1i C dX3_readBoard_116 lv_X3_60 ck_3 (kX3_fail (nI 3) _) (by decide) (Nat.le_of_ble_eq_true rfl) (fun r30 σ29 => ?_)
                  exact v_zretg C M dX3_readBoard_119
              · skip
                refine v_iconst C dX3_readBoard_95 kc_iconst_0 ?_
                exact v_zret C M (by decide) dX3_readBoard_96
          · skip
            refine v_aload_n 2 C dX3_readBoard_70 rfl ?_
            refine v_iconst C dX3_readBoard_71 kc_iconst_3 ?_
            refine v_cV1i C dX3_readBoard_72 lv_X3_60 ck_3 (kX3_fail (nI 3) _) (by decide) (Nat.le_of_ble_eq_true rfl) (fun r32 σ31 => ?_)
            exact v_zretg C M dX3_readBoard_75
        · skip
          refine v_iconst C dX3_readBoard_51 kc_iconst_0 ?_
          exact v_zret C M (by decide) dX3_readBoard_52
    · skip
      refine v_aload_n 1 C dX3_readBoard_26 rfl ?_
      refine v_iconst C dX3_readBoard_27 kc_iconst_3 ?_
      refine v_cV1i C dX3_readBoard_28 lv_X3_60 ck_3 (kX3_fail (nI 3) _) (by decide) (Nat.le_of_ble_eq_true rfl) (fun r34 σ33 => ?_)
      exact v_zretg C M dX3_readBoard_31
  · skip
    refine v_iconst C dX3_readBoard_7 kc_iconst_0 ?_
    exact v_zret C M (by decide) dX3_readBoard_8
-- OpenLines$Reader readAsk()Z, depth 7
def fX3_readAsk (σ : St) : Option (Int32 × St) :=
  gd (σ.2.2 3 0 3 < 6) <| bd (fX2_latestAsk (σ.2.2 3 0 3) σ) fun (r3 : Int32) (σ2 : St) => bd (fX3_whole r3 (nI 999) σ2) fun (r5 : Int32) (σ4 : St) => (if r5 = 0 then some (0, σ4) else lt (σ4.1 3 0 8) fun (x6 : Int32) => bd (fX3_name σ4) fun (r8 : Int32) (σ7 : St) => (if r8 = 0 then some (0, σ7) else gd (σ7.2.2 3 0 3 < 6) <| bd (fX2_boardOfName (σ7.2.2 3 0 3) (σ7.1 3 0 8) σ7) fun (r11 : Int32) (σ10 : St) => (if r11 = (-1) then bd (fX3_fail (nI 2) σ10) fun (r17 : Int32) (σ16 : St) => rz r17 σ16 else bd (fX3_whole (nI 1) (nI 99) σ10) fun (r13 : Int32) (σ12 : St) => (if r13 = 0 then some (0, σ12) else gd (σ12.2.2 3 0 3 < 6) <| bd (fX2_addAsk (σ12.2.2 3 0 3) x6 r11 (σ12.1 3 0 8) σ12) fun _ (σ15 : St) => some (nI 1, σ15)))))
set_option maxRecDepth 20000 in
theorem kX3_readAsk {X : Cx} (σ : St) : Kon X 7 yX3_readAsk cX3_readAsk 3 (some .boolean) gI [.ref (adr X 3 0)] σ (fX3_readAsk σ) := by
  refine konJ (own := RX3) (fun _ => gI) (fun a b => [.ref (a 3 0)]) (by decide +kernel) rfl (fun _ _ => Nat.le_of_ble_eq_true rfl) (fun Y C M => ?_)
  show V Y gI 0 [(0, .ref (adr Y 3 0))] [] σ (fX3_readAsk σ)
  unfold fX3_readAsk
  refine v_aload_n 0 C dX3_readAsk_0 rfl ?_
  refine v_aload_n 0 C dX3_readAsk_1 rfl ?_
  refine v_getr C dX3_readAsk_2 lf_X3_12 ck_3 rfl rfl (fun hq1 => ?_)
  refine v_cV0i C dX3_readAsk_5 lv_X3_135 hq1 (kX2_latestAsk (σ.2.2 3 0 3) hq1 _) (by decide) (Nat.le_of_ble_eq_true rfl) (fun r3 σ2 => ?_)
  refine v_sipush C dX3_readAsk_8 kc_sipush_999 ?_
  refine v_cV2i C dX3_readAsk_11 lv_X3_95 ck_3 (kX3_whole r3 (nI 999) _) (by decide) (Nat.le_of_ble_eq_true rfl) (fun r5 σ4 => ?_)
  refine v_if_ne (tgt := 19) C dX3_readAsk_14 (by decide) ?_ ?_
  · skip
    refine v_aload_n 0 C dX3_readAsk_19 rfl ?_
    refine v_geti C dX3_readAsk_20 lf_X3_99 ck_3 (by decide) ?_
    refine v_istore_nL (lv0 := [(0, .ref (adr Y 3 0))]) C dX3_readAsk_23 rfl (by decide) rfl (fun x6 => ?_)
    refine v_aload_n 1 C dX3_readAsk_24 rfl ?_
    refine v_cV0i C dX3_readAsk_25 lv_X3_112 ck_3 (kX3_name _) (by decide) (Nat.le_of_ble_eq_true rfl) (fun r8 σ7 => ?_)
    refine v_if_ne (tgt := 33) C dX3_readAsk_28 (by decide) ?_ ?_
    · skip
      refine v_aload_n 1 C dX3_readAsk_33 rfl ?_
      refine v_getr C dX3_readAsk_34 lf_X3_12 ck_3 rfl rfl (fun hq9 => ?_)
      refine v_aload_n 1 C dX3_readAsk_37 rfl ?_
      refine v_geti C dX3_readAsk_38 lf_X3_99 ck_3 (by decide) ?_
      refine v_cV1i C dX3_readAsk_41 lv_X3_115 hq9 (kX2_boardOfName (σ7.2.2 3 0 3) (σ7.1 3 0 8) hq9 _) (by decide) (Nat.le_of_ble_eq_true rfl) (fun r11 σ10 => ?_)
      refine v_istore_n (lv' := [(2, .int r11), (1, .int x6), (0, .ref (adr Y 3 0))]) C dX3_readAsk_44 rfl (by decide) rfl ?_
      refine v_iload_n 0 C dX3_readAsk_45 rfl ?_
      refine v_iconst C dX3_readAsk_46 kc_iconst_m1 ?_
      refine v_icmp_ne (tgt := 56) C dX3_readAsk_47 (by decide) ?_ ?_
      · skip
        refine v_aload_n 2 C dX3_readAsk_56 rfl ?_
        refine v_iconst C dX3_readAsk_57 kc_iconst_1 ?_
        refine v_bipush C dX3_readAsk_58 kc_bipush_99 ?_
        refine v_cV2i C dX3_readAsk_60 lv_X3_95 ck_3 (kX3_whole (nI 1) (nI 99) _) (by decide) (Nat.le_of_ble_eq_true rfl) (fun r13 σ12 => ?_)
        refine v_if_ne (tgt := 68) C dX3_readAsk_63 (by decide) ?_ ?_
        · skip
          refine v_aload_n 2 C dX3_readAsk_68 rfl ?_
          refine v_getr C dX3_readAsk_69 lf_X3_12 ck_3 rfl rfl (fun hq14 => ?_)
          refine v_iload_n 1 C dX3_readAsk_72 rfl ?_
          refine v_iload_n 0 C dX3_readAsk_73 rfl ?_
          refine v_aload_n 2 C dX3_readAsk_74 rfl ?_
          refine v_geti C dX3_readAsk_75 lf_X3_99 ck_3 (by decide) ?_
          refine v_cV3v C dX3_readAsk_78 lv_X3_139 hq14 (kX2_addAsk (σ12.2.2 3 0 3) x6 r11 (σ12.1 3 0 8) hq14 _) (by decide) (Nat.le_of_ble_eq_true rfl) (fun _ σ15 => ?_)
          refine v_iconst C dX3_readAsk_81 kc_iconst_1 ?_
          exact v_zret C M (by decide) dX3_readAsk_82
        · skip
          refine v_iconst C dX3_readAsk_66 kc_iconst_0 ?_
          exact v_zret C M (by decide) dX3_readAsk_67
      · skip
        refine v_aload_n 2 C dX3_readAsk_50 rfl ?_
        refine v_iconst C dX3_readAsk_51 kc_iconst_2 ?_
        refine v_cV1i C dX3_readAsk_52 lv_X3_60 ck_3 (kX3_fail (nI 2) _) (by decide) (Nat.le_of_ble_eq_true rfl) (fun r17 σ16 => ?_)
        exact v_zretg C M dX3_readAsk_55
    · skip
      refine v_iconst C dX3_readAsk_31 kc_iconst_0 ?_
      exact v_zret C M (by decide) dX3_readAsk_32
  · skip
    refine v_iconst C dX3_readAsk_17 kc_iconst_0 ?_
    exact v_zret C M (by decide) dX3_readAsk_18
-- OpenLines$Reader readLine()Z, depth 8
def fX3_readLine (σ : St) : Option (Int32 × St) :=
  bd (fX3_step σ) fun _ (σ1 : St) => bd (fX3_isWord 0 σ1) fun (r3 : Int32) (σ2 : St) => (if r3 = 0 then bd (fX3_isWord 4 σ2) fun (r5 : Int32) (σ4 : St) => (jn (fun (σ6 : St) => gd (σ6.2.2 3 0 3 < 6) <| (if (σ6.1 2 (σ6.2.2 3 0 3) 5) = 0 then bd (fX3_fail (nI 6) σ6) fun (r19 : Int32) (σ18 : St) => rz r19 σ18 else (if r5 = 0 then gd (σ6.2.2 3 0 3 < 6) <| (if (σ6.1 2 (σ6.2.2 3 0 3) 4) < (nI 12) then bd (fX3_readAsk σ6) fun (r10 : Int32) (σ9 : St) => rz r10 σ9 else bd (fX3_fail (nI 5) σ6) fun (r12 : Int32) (σ11 : St) => rz r12 σ11) else gd (σ6.2.2 3 0 3 < 6) <| (if (σ6.1 2 (σ6.2.2 3 0 3) 3) < (nI 6) then bd (fX3_readBoard σ6) fun (r15 : Int32) (σ14 : St) => rz r15 σ14 else bd (fX3_fail (nI 5) σ6) fun (r17 : Int32) (σ16 : St) => rz r17 σ16)))) fun j62 => if r5 = 0 then bd (fX3_isWord 5 σ4) fun (r21 : Int32) (σ20 : St) => (if r21 = 0 then bd (fX3_fail (nI 1) σ20) fun (r23 : Int32) (σ22 : St) => rz r23 σ22 else j62 σ20) else j62 σ4) else gd (σ2.2.2 3 0 3 < 6) <| (if (σ2.1 2 (σ2.2.2 3 0 3) 5) = 0 then bd (fX3_readHead σ2) fun (r26 : Int32) (σ25 : St) => rz r26 σ25 else bd (fX3_fail (nI 3) σ2) fun (r28 : Int32) (σ27 : St) => rz r28 σ27))
set_option maxRecDepth 20000 in
theorem kX3_readLine {X : Cx} (σ : St) : Kon X 8 yX3_readLine cX3_readLine 2 (some .boolean) gI [.ref (adr X 3 0)] σ (fX3_readLine σ) := by
  refine konJ (own := RX3) (fun _ => gI) (fun a b => [.ref (a 3 0)]) (by decide +kernel) rfl (fun _ _ => Nat.le_of_ble_eq_true rfl) (fun Y C M => ?_)
  show V Y gI 0 [(0, .ref (adr Y 3 0))] [] σ (fX3_readLine σ)
  unfold fX3_readLine
  refine v_aload_n 0 C dX3_readLine_0 rfl ?_
  refine v_cV0v C dX3_readLine_1 lv_X3_51 ck_3 (kX3_step _) (by decide) (Nat.le_of_ble_eq_true rfl) (fun _ σ1 => ?_)
  refine v_aload_n 0 C dX3_readLine_4 rfl ?_
  refine v_ldcS (i := 0) (tx := "bus") C dX3_readLine_5 (by decide +kernel) ?_
  refine v_cV1i C dX3_readLine_7 lv_X3_66 ck_3 (kX3_isWord 0 (by decide) _) (by decide) (Nat.le_of_ble_eq_true rfl) (fun r3 σ2 => ?_)
  refine v_if_eq (tgt := 36) C dX3_readLine_10 (by decide) ?_ ?_
  · skip
    refine v_aload_n 0 C dX3_readLine_36 rfl ?_
    refine v_ldcS (i := 4) (tx := "board") C dX3_readLine_37 (by decide +kernel) ?_
    refine v_cV1i C dX3_readLine_39 lv_X3_66 ck_3 (kX3_isWord 4 (by decide) _) (by decide) (Nat.le_of_ble_eq_true rfl) (fun r5 σ4 => ?_)
    refine v_istore_n (lv' := [(1, .int r5), (0, .ref (adr Y 3 0))]) C dX3_readLine_42 rfl (by decide) rfl ?_
    refine v_iload_n 0 C dX3_readLine_43 rfl ?_
    refine v_jn (fun j62 => ∀ (σ6 : St), V Y gI 62 [(0, .ref (adr Y 3 0)), (1, .int r5)] [] σ6 (j62 σ6)) ?_ ?_
    · intro σ6
      refine v_aload_n 0 C dX3_readLine_62 rfl ?_
      refine v_getr C dX3_readLine_63 lf_X3_12 ck_3 rfl rfl (fun hq7 => ?_)
      refine v_geti C dX3_readLine_66 lf_X3_70 hq7 (by decide) ?_
      refine v_if_ne (tgt := 79) C dX3_readLine_69 (by decide) ?_ ?_
      · skip
        refine v_iload_n 1 C dX3_readLine_79 rfl ?_
        refine v_if_eq (tgt := 108) C dX3_readLine_80 (by decide) ?_ ?_
        · skip
          refine v_aload_n 0 C dX3_readLine_108 rfl ?_
          refine v_getr C dX3_readLine_109 lf_X3_12 ck_3 rfl rfl (fun hq8 => ?_)
          refine v_geti C dX3_readLine_112 lf_X3_84 hq8 (by decide) ?_
          refine v_bipush C dX3_readLine_115 kc_bipush_12 ?_
          refine v_icmp_lt (tgt := 128) C dX3_readLine_117 (by decide) ?_ ?_
          · skip
            refine v_aload_n 0 C dX3_readLine_128 rfl ?_
            refine v_cV0i C dX3_readLine_129 lv_X3_87 ck_3 (kX3_readAsk _) (by decide) (Nat.le_of_ble_eq_true rfl) (fun r10 σ9 => ?_)
            exact v_zretg C M dX3_readLine_132
          · skip
            refine v_aload_n 0 C dX3_readLine_120 rfl ?_
            refine v_iconst C dX3_readLine_121 kc_iconst_5 ?_
            refine v_cV1i C dX3_readLine_122 lv_X3_60 ck_3 (kX3_fail (nI 5) _) (by decide) (Nat.le_of_ble_eq_true rfl) (fun r12 σ11 => ?_)
            refine v_goto (tgt := 132) C dX3_readLine_125 (by decide) ?_
            exact v_zretg C M dX3_readLine_132
        · skip
          refine v_aload_n 0 C dX3_readLine_83 rfl ?_
          refine v_getr C dX3_readLine_84 lf_X3_12 ck_3 rfl rfl (fun hq13 => ?_)
          refine v_geti C dX3_readLine_87 lf_X3_57 hq13 (by decide) ?_
          refine v_bipush C dX3_readLine_90 kc_bipush_6 ?_
          refine v_icmp_lt (tgt := 103) C dX3_readLine_92 (by decide) ?_ ?_
          · skip
            refine v_aload_n 0 C dX3_readLine_103 rfl ?_
            refine v_cV0i C dX3_readLine_104 lv_X3_81 ck_3 (kX3_readBoard _) (by decide) (Nat.le_of_ble_eq_true rfl) (fun r15 σ14 => ?_)
            exact v_zretg C M dX3_readLine_107
          · skip
            refine v_aload_n 0 C dX3_readLine_95 rfl ?_
            refine v_iconst C dX3_readLine_96 kc_iconst_5 ?_
            refine v_cV1i C dX3_readLine_97 lv_X3_60 ck_3 (kX3_fail (nI 5) _) (by decide) (Nat.le_of_ble_eq_true rfl) (fun r17 σ16 => ?_)
            refine v_goto (tgt := 107) C dX3_readLine_100 (by decide) ?_
            exact v_zretg C M dX3_readLine_107
      · skip
        refine v_aload_n 0 C dX3_readLine_72 rfl ?_
        refine v_bipush C dX3_readLine_73 kc_bipush_6 ?_
        refine v_cV1i C dX3_readLine_75 lv_X3_60 ck_3 (kX3_fail (nI 6) _) (by decide) (Nat.le_of_ble_eq_true rfl) (fun r19 σ18 => ?_)
        exact v_zretg C M dX3_readLine_78
    · intro j62 hj62
      refine v_if_ne (tgt := 62) C dX3_readLine_44 (by decide) ?_ ?_
      · skip
        exact v_lv (hj62 σ4) [1, 0] rfl
      · skip
        refine v_aload_n 1 C dX3_readLine_47 rfl ?_
        refine v_ldcS (i := 5) (tx := "ask") C dX3_readLine_48 (by decide +kernel) ?_
        refine v_cV1i C dX3_readLine_50 lv_X3_66 ck_3 (kX3_isWord 5 (by decide) _) (by decide) (Nat.le_of_ble_eq_true rfl) (fun r21 σ20 => ?_)
        refine v_if_ne (tgt := 62) C dX3_readLine_53 (by decide) ?_ ?_
        · skip
          exact v_lv (hj62 σ20) [1, 0] rfl
        · skip
          refine v_aload_n 1 C dX3_readLine_56 rfl ?_
          refine v_iconst C dX3_readLine_57 kc_iconst_1 ?_
          refine v_cV1i C dX3_readLine_58 lv_X3_60 ck_3 (kX3_fail (nI 1) _) (by decide) (Nat.le_of_ble_eq_true rfl) (fun r23 σ22 => ?_)
          exact v_zretg C M dX3_readLine_61
  · skip
    refine v_aload_n 0 C dX3_readLine_13 rfl ?_
    refine v_getr C dX3_readLine_14 lf_X3_12 ck_3 rfl rfl (fun hq24 => ?_)
    refine v_geti C dX3_readLine_17 lf_X3_70 hq24 (by decide) ?_
    refine v_if_eq (tgt := 31) C dX3_readLine_20 (by decide) ?_ ?_
    · skip
      refine v_aload_n 0 C dX3_readLine_31 rfl ?_
      refine v_cV0i C dX3_readLine_32 lv_X3_74 ck_3 (kX3_readHead _) (by decide) (Nat.le_of_ble_eq_true rfl) (fun r26 σ25 => ?_)
      exact v_zretg C M dX3_readLine_35
    · skip
      refine v_aload_n 0 C dX3_readLine_23 rfl ?_
      refine v_iconst C dX3_readLine_24 kc_iconst_3 ?_
      refine v_cV1i C dX3_readLine_25 lv_X3_60 ck_3 (kX3_fail (nI 3) _) (by decide) (Nat.le_of_ble_eq_true rfl) (fun r28 σ27 => ?_)
      refine v_goto (tgt := 35) C dX3_readLine_28 (by decide) ?_
      exact v_zretg C M dX3_readLine_35
-- OpenLines$Reader read(ILOpenLines$Plan;)I, depth 9
def LX3_read_40 (ke : St → Option (Int32 × St)) : Nat → Int32 → Int32 → St → Option (Int32 × St)
  | 0, _, _, _ => none
  | n + 1, b3, b4, σ => (if b3 = 0 then ke σ else (if (nI 700) < b4 then ke σ else bd (fX3_readLine σ) fun (r8 : Int32) (σ7 : St) => (jn (fun (x10 : Int32) (σ9 : St) => LX3_read_40 ke n x10 (b4 + nI 1) σ9) fun j71 => jn (fun (σ11 : St) => j71 0 σ11) fun j70 => if r8 = 0 then j70 σ7 else bd (fX3_goesOn σ7) fun (r13 : Int32) (σ12 : St) => (if r13 = 0 then j70 σ12 else j71 (nI 1) σ12))))
def fX3_read (p1 : Int32) (k2 : Nat) (σ : St) : Option (Int32 × St) :=
  lt (wR σ 3 0 3 k2) fun (σ1 : St) => lt (wI σ1 3 0 4 (if (nI 700) < p1 then (nI 700) else p1)) fun (σ2 : St) => lt (wI σ2 3 0 5 0) fun (σ3 : St) => lt (wI σ3 3 0 1 0) fun (σ4 : St) => lt (wI σ4 3 0 0 0) fun (σ5 : St) => bd (fX2_clear k2 σ5) fun _ (σ6 : St) => (LX3_read_40 (fun (σ14 : St) => some (σ14.1 3 0 1, σ14)) FU (nI 1) 0 σ6)
set_option maxRecDepth 20000 in
theorem vLX3_read_40 {Y : Cx} (C : Ok Y RX3 cX3_read 5 9) (M : OkM Y (some .int)) (ke : St → Option (Int32 × St)) (hke : ∀ (σ : St), V Y gI 78 [(0, .ref (adr Y 3 0))] [] σ (ke σ)) : ∀ (n : Nat) (b3 : Int32) (b4 : Int32) (σ : St), V Y gI 40 [(0, .ref (adr Y 3 0)), (3, .int b3), (4, .int b4)] [] σ (LX3_read_40 ke n b3 b4 σ) := by
  intro n
  induction n with
  | zero => intros; exact v_none
  | succ n ih =>
    intro b3 b4 σ
    rw [LX3_read_40]
    refine v_iload_n 1 C dX3_read_40 rfl ?_
    refine v_if_eq (tgt := 78) C dX3_read_41 (by decide) ?_ ?_
    · skip
      exact v_lv (hke σ) [0] rfl
    · skip
      refine v_iload 2 C dX3_read_44 rfl ?_
      refine v_sipush C dX3_read_46 kc_sipush_700 ?_
      refine v_icmp_gt (tgt := 78) C dX3_read_49 (by decide) ?_ ?_
      · skip
        exact v_lv (hke σ) [0] rfl
      · skip
        refine v_aload_n 0 C dX3_read_52 rfl ?_
        refine v_cV0i C dX3_read_53 lv_X3_44 ck_3 (kX3_readLine _) (by decide) (Nat.le_of_ble_eq_true rfl) (fun r8 σ7 => ?_)
        refine v_jn (fun j71 => ∀ (x10 : Int32) (σ9 : St), V Y gI 71 [(0, .ref (adr Y 3 0)), (4, .int b4)] [.int x10] σ9 (j71 x10 σ9)) ?_ ?_
        · intro x10 σ9
          refine v_istore_n (lv' := [(3, .int x10), (0, .ref (adr Y 3 0)), (4, .int b4)]) C dX3_read_71 rfl (by decide) rfl ?_
          refine v_iinc (lv' := [(4, .int (b4 + nI 1)), (3, .int x10), (0, .ref (adr Y 3 0))]) 2 C dX3_read_72 rfl (congrArg (b4 + ·) kc_iconst_1) (by decide) rfl ?_
          refine v_goto (tgt := 40) C dX3_read_75 (by decide) ?_
          exact v_lv (ih x10 (b4 + nI 1) σ9) [2, 1, 0] rfl
        · intro j71 hj71
          refine v_jn (fun j70 => ∀ (σ11 : St), V Y gI 70 [(0, .ref (adr Y 3 0)), (4, .int b4)] [] σ11 (j70 σ11)) ?_ ?_
          · intro σ11
            refine v_iconst C dX3_read_70 kc_iconst_0 ?_
            exact v_lv (hj71 0 σ11) [0, 1] rfl
          · intro j70 hj70
            refine v_if_eq (tgt := 70) C dX3_read_56 (by decide) ?_ ?_
            · skip
              exact v_lv (hj70 σ7) [0, 2] rfl
            · skip
              refine v_aload_n 0 C dX3_read_59 rfl ?_
              refine v_cV0i C dX3_read_60 lv_X3_48 ck_3 (kX3_goesOn _) (by decide) (Nat.le_of_ble_eq_true rfl) (fun r13 σ12 => ?_)
              refine v_if_eq (tgt := 70) C dX3_read_63 (by decide) ?_ ?_
              · skip
                exact v_lv (hj70 σ12) [0, 2] rfl
              · skip
                refine v_iconst C dX3_read_66 kc_iconst_1 ?_
                refine v_goto (tgt := 71) C dX3_read_67 (by decide) ?_
                exact v_lv (hj71 (nI 1) σ12) [0, 2] rfl
set_option maxRecDepth 20000 in
theorem kX3_read {X : Cx} (p1 : Int32) (k2 : Nat) (hk2 : k2 < cnt 2) (σ : St) : Kon X 9 yX3_read cX3_read 5 (some .int) gI [.ref (adr X 3 0), .int p1, .ref (adr X 2 k2)] σ (fX3_read p1 k2 σ) := by
  refine konJ (own := RX3) (fun _ => gI) (fun a b => [.ref (a 3 0), .int p1, .ref (a 2 k2)]) (by decide +kernel) rfl (fun _ _ => Nat.le_of_ble_eq_true rfl) (fun Y C M => ?_)
  show V Y gI 0 [(0, .ref (adr Y 3 0)), (1, .int p1), (2, .ref (adr Y 2 k2))] [] σ (fX3_read p1 k2 σ)
  unfold fX3_read
  refine v_aload_n 0 C dX3_read_0 rfl ?_
  refine v_aload_n 2 C dX3_read_1 rfl ?_
  refine v_putrL C dX3_read_2 lp_X3_12 rfl ck_3 rfl (fun σ1 => ?_)
  refine v_aload_n 0 C dX3_read_5 rfl ?_
  refine v_iload_n 1 C dX3_read_6 rfl ?_
  refine v_sipush C dX3_read_7 kc_sipush_700 ?_
  refine v_mmin C dX3_read_10 mt_X3_22 wSt_min wMath wCd_min (by decide) (Nat.le_of_ble_eq_true rfl) ?_
  refine v_putiL C dX3_read_13 lp_X3_28 ck_3 (by decide) (fun σ2 => ?_)
  refine v_aload_n 0 C dX3_read_16 rfl ?_
  refine v_iconst C dX3_read_17 kc_iconst_0 ?_
  refine v_putiL C dX3_read_18 lp_X3_32 ck_3 (by decide) (fun σ3 => ?_)
  refine v_aload_n 0 C dX3_read_21 rfl ?_
  refine v_iconst C dX3_read_22 kc_iconst_0 ?_
  refine v_putiL C dX3_read_23 lp_X3_35 ck_3 (by decide) (fun σ4 => ?_)
  refine v_aload_n 0 C dX3_read_26 rfl ?_
  refine v_iconst C dX3_read_27 kc_iconst_0 ?_
  refine v_putiL C dX3_read_28 lp_X3_38 ck_3 (by decide) (fun σ5 => ?_)
  refine v_aload_n 2 C dX3_read_31 rfl ?_
  refine v_cV0v C dX3_read_32 lv_X3_41 hk2 (kX2_clear k2 hk2 _) (by decide) (Nat.le_of_ble_eq_true rfl) (fun _ σ6 => ?_)
  refine v_iconst C dX3_read_35 kc_iconst_1 ?_
  refine v_istore_n (lv' := [(3, .int (nI 1)), (0, .ref (adr Y 3 0)), (1, .int p1), (2, .ref (adr Y 2 k2))]) C dX3_read_36 rfl (by decide) rfl ?_
  refine v_iconst C dX3_read_37 kc_iconst_0 ?_
  refine v_istore (lv' := [(4, .int 0), (3, .int (nI 1)), (0, .ref (adr Y 3 0)), (1, .int p1), (2, .ref (adr Y 2 k2))]) C dX3_read_38 (by decide) rfl ?_
  refine v_lv (vLX3_read_40 C M _ (fun σ14 => ?_) FU _ _ _) [2, 1, 0] rfl
  refine v_aload_n 0 C dX3_read_78 rfl ?_
  refine v_geti C dX3_read_79 lf_X3_35 ck_3 (by decide) ?_
  exact v_iret C M dX3_read_82
-- OpenLines bus(I)I, depth 10
def fX7_bus (p1 : Int32) (σ : St) : Option (Int32 × St) :=
  (jn (fun (σ1 : St) => bd (fX7_refused (nI 2) σ1) fun (r3 : Int32) (σ2 : St) => some (r3, σ2)) fun j15 => if p1 < 0 then j15 σ else (if p1 ≤ (σ.1 6 0 1) then gd (σ.2.2 7 0 7 < 6) <| bd (fX3_read p1 (σ.2.2 7 0 7) σ) fun (r6 : Int32) (σ5 : St) => lt (wI σ5 7 0 11 r6) fun (σ7 : St) => bd (fX6_clear σ7) fun _ (σ8 : St) => (if (σ8.1 7 0 11) = 0 then gd (σ8.2.2 7 0 6 < 6) <| gd (σ8.2.2 7 0 7 < 6) <| lt (wR σ8 7 0 6 (σ8.2.2 7 0 7)) fun (σ11 : St) => lt (wR σ11 7 0 7 (σ8.2.2 7 0 6)) fun (σ12 : St) => gd (σ12.2.2 7 0 6 < 6) <| bd (fX4_start 0 (σ12.2.2 7 0 6) σ12) fun _ (σ14 : St) => gd ((nI 1) = 0 ∨ (nI 1) = 1) <| lt (wI σ14 7 0 8 (nI 1)) fun (σ15 : St) => gd (0 = 0 ∨ 0 = 1) <| lt (wI σ15 7 0 9 0) fun (σ16 : St) => gd (σ16.2.2 7 0 6 < 6) <| bd (fX7_accepted (σ16.1 2 (σ16.2.2 7 0 6) 3) σ16) fun (r19 : Int32) (σ18 : St) => some (r19, σ18) else lt (wI σ8 7 0 12 (σ8.1 3 0 0)) fun (σ20 : St) => bd (fX7_refused (nI 4) σ20) fun (r22 : Int32) (σ21 : St) => some (r22, σ21)) else j15 σ))
set_option maxRecDepth 20000 in
theorem kX7_bus {X : Cx} (p1 : Int32) (σ : St) : Kon X 10 yX7_bus cX7_bus 3 (some .int) gI [.ref (adr X 7 0), .int p1] σ (fX7_bus p1 σ) := by
  refine konJ (own := RX7) (fun _ => gI) (fun a b => [.ref (a 7 0), .int p1]) (by decide +kernel) rfl (fun _ _ => Nat.le_of_ble_eq_true rfl) (fun Y C M => ?_)
  show V Y gI 0 [(0, .ref (adr Y 7 0)), (1, .int p1)] [] σ (fX7_bus p1 σ)
  unfold fX7_bus
  refine v_iload_n 1 C dX7_bus_0 rfl ?_
  refine v_jn (fun j15 => ∀ (σ1 : St), V Y gI 15 [(0, .ref (adr Y 7 0))] [] σ1 (j15 σ1)) ?_ ?_
  · intro σ1
    refine v_aload_n 0 C dX7_bus_15 rfl ?_
    refine v_iconst C dX7_bus_16 kc_iconst_2 ?_
    refine v_cV1i C dX7_bus_17 lv_X7_67 ck_7 (kX7_refused (nI 2) _) (by decide) (Nat.le_of_ble_eq_true rfl) (fun r3 σ2 => ?_)
    exact v_iret C M dX7_bus_20
  · intro j15 hj15
    refine v_if_lt (tgt := 15) C dX7_bus_1 (by decide) ?_ ?_
    · skip
      exact v_lv (hj15 σ) [0] rfl
    · skip
      refine v_iload_n 1 C dX7_bus_4 rfl ?_
      refine v_aload_n 0 C dX7_bus_5 rfl ?_
      refine v_getk C dX7_bus_6 lf_X7_10 ck_7 rfl ?_
      refine v_geti C dX7_bus_9 lf_X7_63 ck_6 (by decide) ?_
      refine v_icmp_le (tgt := 21) C dX7_bus_12 (by decide) ?_ ?_
      · skip
        refine v_aload_n 0 C dX7_bus_21 rfl ?_
        refine v_aload_n 0 C dX7_bus_22 rfl ?_
        refine v_getk C dX7_bus_23 lf_X7_21 ck_7 rfl ?_
        refine v_iload_n 1 C dX7_bus_26 rfl ?_
        refine v_aload_n 0 C dX7_bus_27 rfl ?_
        refine v_getr C dX7_bus_28 lf_X7_52 ck_7 rfl rfl (fun hq4 => ?_)
        refine v_cV2i C dX7_bus_31 lv_X7_71 ck_3 (kX3_read p1 (σ.2.2 7 0 7) hq4 _) (by decide) (Nat.le_of_ble_eq_true rfl) (fun r6 σ5 => ?_)
        refine v_putiL C dX7_bus_34 lp_X7_75 ck_7 (by decide) (fun σ7 => ?_)
        refine v_aload_n 0 C dX7_bus_37 rfl ?_
        refine v_getk C dX7_bus_38 lf_X7_10 ck_7 rfl ?_
        refine v_cV0v C dX7_bus_41 lv_X7_78 ck_6 (kX6_clear _) (by decide) (Nat.le_of_ble_eq_true rfl) (fun _ σ8 => ?_)
        refine v_aload_n 0 C dX7_bus_44 rfl ?_
        refine v_geti C dX7_bus_45 lf_X7_75 ck_7 (by decide) ?_
        refine v_if_eq (tgt := 68) C dX7_bus_48 (by decide) ?_ ?_
        · skip
          refine v_aload_n 0 C dX7_bus_68 rfl ?_
          refine v_getr C dX7_bus_69 lf_X7_48 ck_7 rfl rfl (fun hq9 => ?_)
          refine v_astore_n (lv' := [(2, .ref (adr Y 2 (σ8.2.2 7 0 6))), (0, .ref (adr Y 7 0)), (1, .int p1)]) C dX7_bus_72 rfl (by decide) rfl ?_
          refine v_aload_n 1 C dX7_bus_73 rfl ?_
          refine v_aload_n 1 C dX7_bus_74 rfl ?_
          refine v_getr C dX7_bus_75 lf_X7_52 ck_7 rfl rfl (fun hq10 => ?_)
          refine v_putrL C dX7_bus_78 lp_X7_48 rfl ck_7 rfl (fun σ11 => ?_)
          refine v_aload_n 1 C dX7_bus_81 rfl ?_
          refine v_aload_n 0 C dX7_bus_82 rfl ?_
          refine v_putrL C dX7_bus_83 lp_X7_52 rfl ck_7 rfl (fun σ12 => ?_)
          refine v_aload_n 1 C dX7_bus_86 rfl ?_
          refine v_getk C dX7_bus_87 lf_X7_35 ck_7 rfl ?_
          refine v_aload_n 1 C dX7_bus_90 rfl ?_
          refine v_getr C dX7_bus_91 lf_X7_48 ck_7 rfl rfl (fun hq13 => ?_)
          refine v_cV1v C dX7_bus_94 lv_X7_85 ck_4 (kX4_start 0 (σ12.2.2 7 0 6) ck_4 hq13 _) (by decide) (Nat.le_of_ble_eq_true rfl) (fun _ σ14 => ?_)
          refine v_aload_n 1 C dX7_bus_97 rfl ?_
          refine v_iconst C dX7_bus_98 kc_iconst_1 ?_
          refine v_putzL C dX7_bus_99 lp_X7_89 ck_7 (by decide) (fun σ15 => ?_)
          refine v_aload_n 1 C dX7_bus_102 rfl ?_
          refine v_iconst C dX7_bus_103 kc_iconst_0 ?_
          refine v_putzL C dX7_bus_104 lp_X7_93 ck_7 (by decide) (fun σ16 => ?_)
          refine v_aload_n 1 C dX7_bus_107 rfl ?_
          refine v_aload_n 1 C dX7_bus_108 rfl ?_
          refine v_getr C dX7_bus_109 lf_X7_48 ck_7 rfl rfl (fun hq17 => ?_)
          refine v_geti C dX7_bus_112 lf_X7_96 hq17 (by decide) ?_
          refine v_cV1i C dX7_bus_115 lv_X7_99 ck_7 (kX7_accepted (σ16.1 2 (σ16.2.2 7 0 6) 3) _) (by decide) (Nat.le_of_ble_eq_true rfl) (fun r19 σ18 => ?_)
          exact v_iret C M dX7_bus_118
        · skip
          refine v_aload_n 0 C dX7_bus_51 rfl ?_
          refine v_aload_n 0 C dX7_bus_52 rfl ?_
          refine v_getk C dX7_bus_53 lf_X7_21 ck_7 rfl ?_
          refine v_geti C dX7_bus_56 lf_X7_81 ck_3 (by decide) ?_
          refine v_putiL C dX7_bus_59 lp_X7_84 ck_7 (by decide) (fun σ20 => ?_)
          refine v_aload_n 0 C dX7_bus_62 rfl ?_
          refine v_iconst C dX7_bus_63 kc_iconst_4 ?_
          refine v_cV1i C dX7_bus_64 lv_X7_67 ck_7 (kX7_refused (nI 4) _) (by decide) (Nat.le_of_ble_eq_true rfl) (fun r22 σ21 => ?_)
          exact v_iret C M dX7_bus_67
      · skip
        exact v_lv (hj15 σ) [0] rfl
-- OpenLinesModel isWord(Ljava/lang/String;)Z, depth 4
def LX8_isWord_28 (s1 : Nat) (ke : St → Option (Int32 × St)) : Nat → Int32 → St → Option (Int32 × St)
  | 0, _, _ => none
  | n + 1, b2, σ => (if (nI (lenS.getD s1 0)) ≤ b2 then ke σ else gi ((σ.1 8 0 11) + b2) 700 <| gi b2 (lenS.getD s1 0) <| (if (σ.1 43 0 ((σ.1 8 0 11) + b2).toNatClampNeg) = (chS s1 b2.toNatClampNeg) then LX8_isWord_28 s1 ke n (b2 + nI 1) σ else some (0, σ)))
def fX8_isWord (s1 : Nat) (σ : St) : Option (Int32 × St) :=
  (if (σ.1 8 0 13) = (nI 2) then (if ((σ.1 8 0 12) - (σ.1 8 0 11)) = (nI (lenS.getD s1 0)) then (LX8_isWord_28 s1 (fun (σ1 : St) => some (nI 1, σ1)) FU 0 σ) else some (0, σ)) else some (0, σ))
set_option maxRecDepth 20000 in
theorem vLX8_isWord_28 {Y : Cx} (s1 : Nat) (hs1 : s1 < 10) (C : Ok Y RX8 cX8_isWord 3 4) (M : OkM Y (some .boolean)) (ke : St → Option (Int32 × St)) (hke : ∀ (σ : St), V Y gI 63 [] [] σ (ke σ)) : ∀ (n : Nat) (b2 : Int32) (σ : St), V Y gI 28 [(0, .ref (adr Y 8 0)), (1, .ref (adS Y s1)), (2, .int b2)] [] σ (LX8_isWord_28 s1 ke n b2 σ) := by
  intro n
  induction n with
  | zero => intros; exact v_none
  | succ n ih =>
    intro b2 σ
    rw [LX8_isWord_28]
    refine v_iload_n 2 C dX8_isWord_28 rfl ?_
    refine v_aload_n 1 C dX8_isWord_29 rfl ?_
    refine v_slen_X8_90 C dX8_isWord_30 hs1 (by decide) (Nat.le_of_ble_eq_true rfl) ?_
    refine v_icmp_ge (tgt := 63) C dX8_isWord_33 (by decide) ?_ ?_
    · skip
      exact v_lv (hke σ) [] rfl
    · skip
      refine v_aload_n 0 C dX8_isWord_36 rfl ?_
      refine v_getc C dX8_isWord_37 lf_X8_13 ck_8 rfl ?_
      refine v_aload_n 0 C dX8_isWord_40 rfl ?_
      refine v_geti C dX8_isWord_41 lf_X8_77 ck_8 (by decide) ?_
      refine v_iload_n 2 C dX8_isWord_44 rfl ?_
      refine v_iadd C dX8_isWord_45 ?_
      refine v_iaload C dX8_isWord_46 ck_43 (by decide) rfl ?_
      refine v_aload_n 1 C dX8_isWord_47 rfl ?_
      refine v_iload_n 2 C dX8_isWord_48 rfl ?_
      refine v_schar_X8_96 C dX8_isWord_49 hs1 (by decide) (Nat.le_of_ble_eq_true rfl) ?_
      refine v_icmp_eq (tgt := 57) C dX8_isWord_52 (by decide) ?_ ?_
      · skip
        refine v_iinc (lv' := [(2, .int (b2 + nI 1)), (0, .ref (adr Y 8 0)), (1, .ref (adS Y s1))]) 2 C dX8_isWord_57 rfl (congrArg (b2 + ·) kc_iconst_1) (by decide) rfl ?_
        refine v_goto (tgt := 28) C dX8_isWord_60 (by decide) ?_
        exact v_lv (ih (b2 + nI 1) σ) [1, 2, 0] rfl
      · skip
        refine v_iconst C dX8_isWord_55 kc_iconst_0 ?_
        exact v_zret C M (by decide) dX8_isWord_56
set_option maxRecDepth 20000 in
theorem kX8_isWord {X : Cx} (s1 : Nat) (hs1 : s1 < 10) (σ : St) : Kon X 4 yX8_isWord cX8_isWord 3 (some .boolean) gI [.ref (adr X 8 0), .ref (adS X s1)] σ (fX8_isWord s1 σ) := by
  refine konJ (own := RX8) (fun _ => gI) (fun a b => [.ref (a 8 0), .ref (b s1)]) (by decide +kernel) rfl (fun _ _ => Nat.le_of_ble_eq_true rfl) (fun Y C M => ?_)
  show V Y gI 0 [(0, .ref (adr Y 8 0)), (1, .ref (adS Y s1))] [] σ (fX8_isWord s1 σ)
  unfold fX8_isWord
  refine v_aload_n 0 C dX8_isWord_0 rfl ?_
  refine v_geti C dX8_isWord_1 lf_X8_80 ck_8 (by decide) ?_
  refine v_iconst C dX8_isWord_4 kc_iconst_2 ?_
  refine v_icmp_ne (tgt := 24) C dX8_isWord_5 (by decide) ?_ ?_
  · skip
    refine v_iconst C dX8_isWord_24 kc_iconst_0 ?_
    exact v_zret C M (by decide) dX8_isWord_25
  · skip
    refine v_aload_n 0 C dX8_isWord_8 rfl ?_
    refine v_geti C dX8_isWord_9 lf_X8_70 ck_8 (by decide) ?_
    refine v_aload_n 0 C dX8_isWord_12 rfl ?_
    refine v_geti C dX8_isWord_13 lf_X8_77 ck_8 (by decide) ?_
    refine v_isub C dX8_isWord_16 ?_
    refine v_aload_n 1 C dX8_isWord_17 rfl ?_
    refine v_slen_X8_90 C dX8_isWord_18 hs1 (by decide) (Nat.le_of_ble_eq_true rfl) ?_
    refine v_icmp_eq (tgt := 26) C dX8_isWord_21 (by decide) ?_ ?_
    · skip
      refine v_iconst C dX8_isWord_26 kc_iconst_0 ?_
      refine v_istore_n (lv' := [(2, .int 0), (0, .ref (adr Y 8 0)), (1, .ref (adS Y s1))]) C dX8_isWord_27 rfl (by decide) rfl ?_
      refine v_lv (vLX8_isWord_28 _ hs1 C M _ (fun σ1 => ?_) FU _ _) [1, 2, 0] rfl
      refine v_iconst C dX8_isWord_63 kc_iconst_1 ?_
      exact v_zret C M (by decide) dX8_isWord_64
    · skip
      refine v_iconst C dX8_isWord_24 kc_iconst_0 ?_
      exact v_zret C M (by decide) dX8_isWord_25
-- OpenLinesModel after(Ljava/lang/String;III)Z, depth 5
def fX8_after (s1 : Nat) (p2 : Int32) (p3 : Int32) (p4 : Int32) (σ : St) : Option (Int32 × St) :=
  bd (fX8_isWord s1 σ) fun (r2 : Int32) (σ1 : St) => (if r2 = 0 then bd (fX8_errs (nI 1) σ1) fun (r7 : Int32) (σ6 : St) => rz r7 σ6 else bd (fX8_goesOn σ1) fun _ (σ3 : St) => bd (fX8_lays p2 p3 p4 σ3) fun (r5 : Int32) (σ4 : St) => rz r5 σ4)
set_option maxRecDepth 20000 in
theorem kX8_after {X : Cx} (s1 : Nat) (p2 : Int32) (p3 : Int32) (p4 : Int32) (hs1 : s1 < 10) (σ : St) : Kon X 5 yX8_after cX8_after 5 (some .boolean) gI [.ref (adr X 8 0), .ref (adS X s1), .int p2, .int p3, .int p4] σ (fX8_after s1 p2 p3 p4 σ) := by
  refine konJ (own := RX8) (fun _ => gI) (fun a b => [.ref (a 8 0), .ref (b s1), .int p2, .int p3, .int p4]) (by decide +kernel) rfl (fun _ _ => Nat.le_of_ble_eq_true rfl) (fun Y C M => ?_)
  show V Y gI 0 [(0, .ref (adr Y 8 0)), (1, .ref (adS Y s1)), (2, .int p2), (3, .int p3), (4, .int p4)] [] σ (fX8_after s1 p2 p3 p4 σ)
  unfold fX8_after
  refine v_aload_n 0 C dX8_after_0 rfl ?_
  refine v_aload_n 1 C dX8_after_1 rfl ?_
  refine v_cV1i C dX8_after_2 lv_X8_113 ck_8 (kX8_isWord s1 hs1 _) (by decide) (Nat.le_of_ble_eq_true rfl) (fun r2 σ1 => ?_)
  refine v_if_ne (tgt := 14) C dX8_after_5 (by decide) ?_ ?_
  · skip
    refine v_aload_n 0 C dX8_after_14 rfl ?_
    refine v_cV0v C dX8_after_15 lv_X8_110 ck_8 (kX8_goesOn _) (by decide) (Nat.le_of_ble_eq_true rfl) (fun _ σ3 => ?_)
    refine v_aload_n 0 C dX8_after_18 rfl ?_
    refine v_iload_n 2 C dX8_after_19 rfl ?_
    refine v_iload_n 3 C dX8_after_20 rfl ?_
    refine v_iload 4 C dX8_after_21 rfl ?_
    refine v_cV3i C dX8_after_23 lv_X8_117 ck_8 (kX8_lays p2 p3 p4 _) (by decide) (Nat.le_of_ble_eq_true rfl) (fun r5 σ4 => ?_)
    exact v_zretg C M dX8_after_26
  · skip
    refine v_aload_n 0 C dX8_after_8 rfl ?_
    refine v_iconst C dX8_after_9 kc_iconst_1 ?_
    refine v_cV1i C dX8_after_10 lv_X8_106 ck_8 (kX8_errs (nI 1) _) (by decide) (Nat.le_of_ble_eq_true rfl) (fun r7 σ6 => ?_)
    exact v_zretg C M dX8_after_13
-- OpenLinesModel isName()Z, depth 5
def fX8_isName (σ : St) : Option (Int32 × St) :=
  (if (σ.1 8 0 13) = (nI 2) then bd (fX8_isWord 0 σ) fun (r2 : Int32) (σ1 : St) => (if r2 = 0 then bd (fX8_isWord 4 σ1) fun (r4 : Int32) (σ3 : St) => (if r4 = 0 then bd (fX8_isWord 5 σ3) fun (r6 : Int32) (σ5 : St) => rz (if r6 = 0 then (nI 1) else 0) σ5 else some (0, σ3)) else some (0, σ1)) else some (0, σ))
set_option maxRecDepth 20000 in
theorem kX8_isName {X : Cx} (σ : St) : Kon X 5 yX8_isName cX8_isName 1 (some .boolean) gI [.ref (adr X 8 0)] σ (fX8_isName σ) := by
  refine konJ (own := RX8) (fun _ => gI) (fun a b => [.ref (a 8 0)]) (by decide +kernel) rfl (fun _ _ => Nat.le_of_ble_eq_true rfl) (fun Y C M => ?_)
  show V Y gI 0 [(0, .ref (adr Y 8 0))] [] σ (fX8_isName σ)
  unfold fX8_isName
  refine v_aload_n 0 C dX8_isName_0 rfl ?_
  refine v_geti C dX8_isName_1 lf_X8_80 ck_8 (by decide) ?_
  refine v_iconst C dX8_isName_4 kc_iconst_2 ?_
  refine v_icmp_ne (tgt := 39) C dX8_isName_5 (by decide) ?_ ?_
  · skip
    refine v_iconst C dX8_isName_39 kc_iconst_0 ?_
    exact v_zret C M (by decide) dX8_isName_40
  · skip
    refine v_aload_n 0 C dX8_isName_8 rfl ?_
    refine v_ldcS (i := 0) (tx := "bus") C dX8_isName_9 (by decide +kernel) ?_
    refine v_cV1i C dX8_isName_11 lv_X8_113 ck_8 (kX8_isWord 0 (by decide) _) (by decide) (Nat.le_of_ble_eq_true rfl) (fun r2 σ1 => ?_)
    refine v_if_ne (tgt := 39) C dX8_isName_14 (by decide) ?_ ?_
    · skip
      refine v_iconst C dX8_isName_39 kc_iconst_0 ?_
      exact v_zret C M (by decide) dX8_isName_40
    · skip
      refine v_aload_n 0 C dX8_isName_17 rfl ?_
      refine v_ldcS (i := 4) (tx := "board") C dX8_isName_18 (by decide +kernel) ?_
      refine v_cV1i C dX8_isName_20 lv_X8_113 ck_8 (kX8_isWord 4 (by decide) _) (by decide) (Nat.le_of_ble_eq_true rfl) (fun r4 σ3 => ?_)
      refine v_if_ne (tgt := 39) C dX8_isName_23 (by decide) ?_ ?_
      · skip
        refine v_iconst C dX8_isName_39 kc_iconst_0 ?_
        exact v_zret C M (by decide) dX8_isName_40
      · skip
        refine v_aload_n 0 C dX8_isName_26 rfl ?_
        refine v_ldcS (i := 5) (tx := "ask") C dX8_isName_27 (by decide +kernel) ?_
        refine v_cV1i C dX8_isName_29 lv_X8_113 ck_8 (kX8_isWord 5 (by decide) _) (by decide) (Nat.le_of_ble_eq_true rfl) (fun r6 σ5 => ?_)
        refine v_cut (pcJ := 40) (lv := [(0, .ref (adr Y 8 0))]) (st := .int (if r6 = 0 then (nI 1) else 0) :: []) ?_ (fun hj7 => ?_)
        rotate_left
        · skip
          refine v_if_ne_b (tgt := 39) C dX8_isName_32 (by decide) (fun h8 => ?_) (fun h8 => ?_)
          · have hj9 := v_jneg h8 hj7
            refine v_iconst C dX8_isName_39 kc_iconst_0 ?_
            exact hj9
          · have hj9 := v_jpos h8 hj7
            refine v_iconst C dX8_isName_35 kc_iconst_1 ?_
            refine v_goto (tgt := 40) C dX8_isName_36 (by decide) ?_
            exact hj9
        exact v_zretg C M dX8_isName_40
-- OpenLinesModel readBus()Z, depth 6
def fX8_readBus (σ : St) : Option (Int32 × St) :=
  (if (σ.1 8 0 17) = 0 then bd (fX8_goesOn σ) fun _ (σ1 : St) => bd (fX8_after 1 0 (nI 1) (nI 3) σ1) fun (r3 : Int32) (σ2 : St) => (jn (fun (x5 : Int32) (σ4 : St) => gd (x5 = 0 ∨ x5 = 1) <| lt (wI σ4 8 0 17 x5) fun (σ6 : St) => rz (σ6.1 8 0 17) σ6) fun j62 => jn (fun (σ7 : St) => j62 0 σ7) fun j61 => if r3 = 0 then j61 σ2 else bd (fX8_after 2 (nI 1) 0 (nI 20) σ2) fun (r9 : Int32) (σ8 : St) => (if r9 = 0 then j61 σ8 else bd (fX8_after 3 (nI 2) (nI 1) (nI 200) σ8) fun (r11 : Int32) (σ10 : St) => (if r11 = 0 then j61 σ10 else j62 (nI 1) σ10))) else bd (fX8_errs (nI 3) σ) fun (r13 : Int32) (σ12 : St) => rz r13 σ12)
set_option maxRecDepth 20000 in
theorem kX8_readBus {X : Cx} (σ : St) : Kon X 6 yX8_readBus cX8_readBus 1 (some .boolean) gI [.ref (adr X 8 0)] σ (fX8_readBus σ) := by
  refine konJ (own := RX8) (fun _ => gI) (fun a b => [.ref (a 8 0)]) (by decide +kernel) rfl (fun _ _ => Nat.le_of_ble_eq_true rfl) (fun Y C M => ?_)
  show V Y gI 0 [(0, .ref (adr Y 8 0))] [] σ (fX8_readBus σ)
  unfold fX8_readBus
  refine v_aload_n 0 C dX8_readBus_0 rfl ?_
  refine v_geti C dX8_readBus_1 lf_X8_134 ck_8 (by decide) ?_
  refine v_if_eq (tgt := 13) C dX8_readBus_4 (by decide) ?_ ?_
  · skip
    refine v_aload_n 0 C dX8_readBus_13 rfl ?_
    refine v_cV0v C dX8_readBus_14 lv_X8_110 ck_8 (kX8_goesOn _) (by decide) (Nat.le_of_ble_eq_true rfl) (fun _ σ1 => ?_)
    refine v_aload_n 0 C dX8_readBus_17 rfl ?_
    refine v_aload_n 0 C dX8_readBus_18 rfl ?_
    refine v_ldcS (i := 1) (tx := "gate") C dX8_readBus_19 (by decide +kernel) ?_
    refine v_iconst C dX8_readBus_21 kc_iconst_0 ?_
    refine v_iconst C dX8_readBus_22 kc_iconst_1 ?_
    refine v_iconst C dX8_readBus_23 kc_iconst_3 ?_
    refine v_cV4i C dX8_readBus_24 lv_X8_140 ck_8 (kX8_after 1 0 (nI 1) (nI 3) (by decide) _) (by decide) (Nat.le_of_ble_eq_true rfl) (fun r3 σ2 => ?_)
    refine v_jn (fun j62 => ∀ (x5 : Int32) (σ4 : St), V Y gI 62 [(0, .ref (adr Y 8 0))] [.int x5, .ref (adr Y 8 0)] σ4 (j62 x5 σ4)) ?_ ?_
    · intro x5 σ4
      refine v_putzL C dX8_readBus_62 lp_X8_134 ck_8 (by decide) (fun σ6 => ?_)
      refine v_aload_n 0 C dX8_readBus_65 rfl ?_
      refine v_geti C dX8_readBus_66 lf_X8_134 ck_8 (by decide) ?_
      exact v_zretg C M dX8_readBus_69
    · intro j62 hj62
      refine v_jn (fun j61 => ∀ (σ7 : St), V Y gI 61 [(0, .ref (adr Y 8 0))] [.ref (adr Y 8 0)] σ7 (j61 σ7)) ?_ ?_
      · intro σ7
        refine v_iconst C dX8_readBus_61 kc_iconst_0 ?_
        exact v_lv (hj62 0 σ7) [0] rfl
      · intro j61 hj61
        refine v_if_eq (tgt := 61) C dX8_readBus_27 (by decide) ?_ ?_
        · skip
          exact v_lv (hj61 σ2) [0] rfl
        · skip
          refine v_aload_n 0 C dX8_readBus_30 rfl ?_
          refine v_ldcS (i := 2) (tx := "filter") C dX8_readBus_31 (by decide +kernel) ?_
          refine v_iconst C dX8_readBus_33 kc_iconst_1 ?_
          refine v_iconst C dX8_readBus_34 kc_iconst_0 ?_
          refine v_bipush C dX8_readBus_35 kc_bipush_20 ?_
          refine v_cV4i C dX8_readBus_37 lv_X8_140 ck_8 (kX8_after 2 (nI 1) 0 (nI 20) (by decide) _) (by decide) (Nat.le_of_ble_eq_true rfl) (fun r9 σ8 => ?_)
          refine v_if_eq (tgt := 61) C dX8_readBus_40 (by decide) ?_ ?_
          · skip
            exact v_lv (hj61 σ8) [0] rfl
          · skip
            refine v_aload_n 0 C dX8_readBus_43 rfl ?_
            refine v_ldcS (i := 3) (tx := "window") C dX8_readBus_44 (by decide +kernel) ?_
            refine v_iconst C dX8_readBus_46 kc_iconst_2 ?_
            refine v_iconst C dX8_readBus_47 kc_iconst_1 ?_
            refine v_sipush C dX8_readBus_48 kc_sipush_200 ?_
            refine v_cV4i C dX8_readBus_51 lv_X8_140 ck_8 (kX8_after 3 (nI 2) (nI 1) (nI 200) (by decide) _) (by decide) (Nat.le_of_ble_eq_true rfl) (fun r11 σ10 => ?_)
            refine v_if_eq (tgt := 61) C dX8_readBus_54 (by decide) ?_ ?_
            · skip
              exact v_lv (hj61 σ10) [0] rfl
            · skip
              refine v_iconst C dX8_readBus_57 kc_iconst_1 ?_
              refine v_goto (tgt := 62) C dX8_readBus_58 (by decide) ?_
              exact v_lv (hj62 (nI 1) σ10) [0] rfl
  · skip
    refine v_aload_n 0 C dX8_readBus_7 rfl ?_
    refine v_iconst C dX8_readBus_8 kc_iconst_3 ?_
    refine v_cV1i C dX8_readBus_9 lv_X8_106 ck_8 (kX8_errs (nI 3) _) (by decide) (Nat.le_of_ble_eq_true rfl) (fun r13 σ12 => ?_)
    exact v_zretg C M dX8_readBus_12
-- OpenLinesModel laysOwn(Ljava/lang/String;III)Z, depth 5
def LX8_laysOwn_21 (a2 : Int32) (a3 : Int32) (a4 : Int32) (ke : St → Option (Int32 × St)) : Nat → Int32 → St → Option (Int32 × St)
  | 0, _, _ => none
  | n + 1, b5, σ => gi (nI 3) 59 <| (if (σ.1 45 0 (nI 3).toNatClampNeg) ≤ b5 then ke σ else (jn (fun (σ4 : St) => LX8_laysOwn_21 a2 a3 a4 ke n (b5 + nI 1) σ4) fun j62 => if (σ.1 8 0 13) = (nI 3) then gi (a2 + b5) 59 <| (if (σ.1 45 0 (a2 + b5).toNatClampNeg) = (σ.1 8 0 14) then bd (fX8_errs (nI 3) σ) fun (r6 : Int32) (σ5 : St) => rz r6 σ5 else j62 σ) else j62 σ))
def fX8_laysOwn (s1 : Nat) (p2 : Int32) (p3 : Int32) (p4 : Int32) (σ : St) : Option (Int32 × St) :=
  bd (fX8_isWord s1 σ) fun (r2 : Int32) (σ1 : St) => (if r2 = 0 then bd (fX8_errs (nI 1) σ1) fun (r11 : Int32) (σ10 : St) => rz r11 σ10 else bd (fX8_goesOn σ1) fun _ (σ3 : St) => (LX8_laysOwn_21 p2 p3 p4 (fun (σ7 : St) => gi (nI 3) 59 <| bd (fX8_lays (p2 + (σ7.1 45 0 (nI 3).toNatClampNeg)) p3 p4 σ7) fun (r9 : Int32) (σ8 : St) => rz r9 σ8) FU 0 σ3))
set_option maxRecDepth 20000 in
theorem vLX8_laysOwn_21 {Y : Cx} (a2 : Int32) (a3 : Int32) (a4 : Int32) (C : Ok Y RX8 cX8_laysOwn 6 5) (M : OkM Y (some .boolean)) (ke : St → Option (Int32 × St)) (hke : ∀ (σ : St), V Y gI 68 [(0, .ref (adr Y 8 0)), (2, .int a2), (3, .int a3), (4, .int a4)] [] σ (ke σ)) : ∀ (n : Nat) (b5 : Int32) (σ : St), V Y gI 21 [(0, .ref (adr Y 8 0)), (2, .int a2), (3, .int a3), (4, .int a4), (5, .int b5)] [] σ (LX8_laysOwn_21 a2 a3 a4 ke n b5 σ) := by
  intro n
  induction n with
  | zero => intros; exact v_none
  | succ n ih =>
    intro b5 σ
    rw [LX8_laysOwn_21]
    refine v_iload 4 C dX8_laysOwn_21 rfl ?_
    refine v_aload_n 0 C dX8_laysOwn_23 rfl ?_
    refine v_getc C dX8_laysOwn_24 lf_X8_20 ck_8 rfl ?_
    refine v_iconst C dX8_laysOwn_27 kc_iconst_3 ?_
    refine v_iaload C dX8_laysOwn_28 ck_45 (by decide) rfl ?_
    refine v_icmp_ge (tgt := 68) C dX8_laysOwn_29 (by decide) ?_ ?_
    · skip
      exact v_lv (hke σ) [0, 1, 2, 3] rfl
    · skip
      refine v_aload_n 0 C dX8_laysOwn_32 rfl ?_
      refine v_geti C dX8_laysOwn_33 lf_X8_80 ck_8 (by decide) ?_
      refine v_iconst C dX8_laysOwn_36 kc_iconst_3 ?_
      refine v_jn (fun j62 => ∀ (σ4 : St), V Y gI 62 [(0, .ref (adr Y 8 0)), (2, .int a2), (3, .int a3), (4, .int a4), (5, .int b5)] [] σ4 (j62 σ4)) ?_ ?_
      · intro σ4
        refine v_iinc (lv' := [(5, .int (b5 + nI 1)), (0, .ref (adr Y 8 0)), (2, .int a2), (3, .int a3), (4, .int a4)]) 4 C dX8_laysOwn_62 rfl (congrArg (b5 + ·) kc_iconst_1) (by decide) rfl ?_
        refine v_goto (tgt := 21) C dX8_laysOwn_65 (by decide) ?_
        exact v_lv (ih (b5 + nI 1) σ4) [1, 2, 3, 4, 0] rfl
      · intro j62 hj62
        refine v_icmp_ne (tgt := 62) C dX8_laysOwn_37 (by decide) ?_ ?_
        · skip
          exact v_lv (hj62 σ) [0, 1, 2, 3, 4] rfl
        · skip
          refine v_aload_n 0 C dX8_laysOwn_40 rfl ?_
          refine v_getc C dX8_laysOwn_41 lf_X8_20 ck_8 rfl ?_
          refine v_iload_n 1 C dX8_laysOwn_44 rfl ?_
          refine v_iload 4 C dX8_laysOwn_45 rfl ?_
          refine v_iadd C dX8_laysOwn_47 ?_
          refine v_iaload C dX8_laysOwn_48 ck_45 (by decide) rfl ?_
          refine v_aload_n 0 C dX8_laysOwn_49 rfl ?_
          refine v_geti C dX8_laysOwn_50 lf_X8_87 ck_8 (by decide) ?_
          refine v_icmp_ne (tgt := 62) C dX8_laysOwn_53 (by decide) ?_ ?_
          · skip
            exact v_lv (hj62 σ) [0, 1, 2, 3, 4] rfl
          · skip
            refine v_aload_n 0 C dX8_laysOwn_56 rfl ?_
            refine v_iconst C dX8_laysOwn_57 kc_iconst_3 ?_
            refine v_cV1i C dX8_laysOwn_58 lv_X8_106 ck_8 (kX8_errs (nI 3) _) (by decide) (Nat.le_of_ble_eq_true rfl) (fun r6 σ5 => ?_)
            exact v_zretg C M dX8_laysOwn_61
set_option maxRecDepth 20000 in
theorem kX8_laysOwn {X : Cx} (s1 : Nat) (p2 : Int32) (p3 : Int32) (p4 : Int32) (hs1 : s1 < 10) (σ : St) : Kon X 5 yX8_laysOwn cX8_laysOwn 6 (some .boolean) gI [.ref (adr X 8 0), .ref (adS X s1), .int p2, .int p3, .int p4] σ (fX8_laysOwn s1 p2 p3 p4 σ) := by
  refine konJ (own := RX8) (fun _ => gI) (fun a b => [.ref (a 8 0), .ref (b s1), .int p2, .int p3, .int p4]) (by decide +kernel) rfl (fun _ _ => Nat.le_of_ble_eq_true rfl) (fun Y C M => ?_)
  show V Y gI 0 [(0, .ref (adr Y 8 0)), (1, .ref (adS Y s1)), (2, .int p2), (3, .int p3), (4, .int p4)] [] σ (fX8_laysOwn s1 p2 p3 p4 σ)
  unfold fX8_laysOwn
  refine v_aload_n 0 C dX8_laysOwn_0 rfl ?_
  refine v_aload_n 1 C dX8_laysOwn_1 rfl ?_
  refine v_cV1i C dX8_laysOwn_2 lv_X8_113 ck_8 (kX8_isWord s1 hs1 _) (by decide) (Nat.le_of_ble_eq_true rfl) (fun r2 σ1 => ?_)
  refine v_if_ne (tgt := 14) C dX8_laysOwn_5 (by decide) ?_ ?_
  · skip
    refine v_aload_n 0 C dX8_laysOwn_14 rfl ?_
    refine v_cV0v C dX8_laysOwn_15 lv_X8_110 ck_8 (kX8_goesOn _) (by decide) (Nat.le_of_ble_eq_true rfl) (fun _ σ3 => ?_)
    refine v_iconst C dX8_laysOwn_18 kc_iconst_0 ?_
    refine v_istore (lv' := [(5, .int 0), (0, .ref (adr Y 8 0)), (1, .ref (adS Y s1)), (2, .int p2), (3, .int p3), (4, .int p4)]) C dX8_laysOwn_19 (by decide) rfl ?_
    refine v_lv (vLX8_laysOwn_21 _ _ _ C M _ (fun σ7 => ?_) FU _ _) [1, 3, 4, 5, 0] rfl
    refine v_aload_n 0 C dX8_laysOwn_68 rfl ?_
    refine v_iload_n 1 C dX8_laysOwn_69 rfl ?_
    refine v_aload_n 0 C dX8_laysOwn_70 rfl ?_
    refine v_getc C dX8_laysOwn_71 lf_X8_20 ck_8 rfl ?_
    refine v_iconst C dX8_laysOwn_74 kc_iconst_3 ?_
    refine v_iaload C dX8_laysOwn_75 ck_45 (by decide) rfl ?_
    refine v_iadd C dX8_laysOwn_76 ?_
    refine v_iload_n 2 C dX8_laysOwn_77 rfl ?_
    refine v_iload 3 C dX8_laysOwn_78 rfl ?_
    refine v_cV3i C dX8_laysOwn_80 lv_X8_117 ck_8 (kX8_lays (p2 + (σ7.1 45 0 (nI 3).toNatClampNeg)) p3 p4 _) (by decide) (Nat.le_of_ble_eq_true rfl) (fun r9 σ8 => ?_)
    exact v_zretg C M dX8_laysOwn_83
  · skip
    refine v_aload_n 0 C dX8_laysOwn_8 rfl ?_
    refine v_iconst C dX8_laysOwn_9 kc_iconst_1 ?_
    refine v_cV1i C dX8_laysOwn_10 lv_X8_106 ck_8 (kX8_errs (nI 1) _) (by decide) (Nat.le_of_ble_eq_true rfl) (fun r11 σ10 => ?_)
    exact v_zretg C M dX8_laysOwn_13
-- OpenLinesModel readBoard()Z, depth 6
def fX8_readBoard (σ : St) : Option (Int32 × St) :=
  gi (nI 3) 59 <| lt (σ.1 45 0 (nI 3).toNatClampNeg) fun (x1 : Int32) => (jn (fun (x3 : Int32) (σ2 : St) => bd (fX8_begins x3 σ2) fun (r5 : Int32) (σ4 : St) => (if r5 = 0 then some (0, σ4) else bd (fX8_isName σ4) fun (r7 : Int32) (σ6 : St) => (if r7 = 0 then bd (fX8_errs (nI 1) σ6) fun (r24 : Int32) (σ23 : St) => rz r24 σ23 else bd (fX8_boardHere σ6) fun (r9 : Int32) (σ8 : St) => (if r9 = (-1) then bd (fX8_spelt σ8) fun (r11 : Int64) (σ10 : St) => gi x1 6 <| lt (wL σ10 46 0 x1.toNatClampNeg r11) fun (σ12 : St) => bd (fX8_goesOn σ12) fun _ (σ13 : St) => bd (fX8_laysOwn 6 (nI 5) 0 (nI 9) σ13) fun (r15 : Int32) (σ14 : St) => (if r15 = 0 then some (0, σ14) else bd (fX8_laysOwn 7 (nI 11) (nI 1) (nI 31) σ14) fun (r17 : Int32) (σ16 : St) => (if r17 = 0 then some (0, σ16) else bd (fX8_after 8 ((nI 17) + x1) 0 (nI 7) σ16) fun (r19 : Int32) (σ18 : St) => (if r19 = 0 then some (0, σ18) else gi (nI 3) 59 <| gi (nI 3) 59 <| lt (wI σ18 45 0 (nI 3).toNatClampNeg ((σ18.1 45 0 (nI 3).toNatClampNeg) + (nI 1))) fun (σ20 : St) => some (nI 1, σ20)))) else bd (fX8_errs (nI 3) σ8) fun (r22 : Int32) (σ21 : St) => rz r22 σ21)))) fun j19 => if (nI 6) ≤ x1 then j19 0 σ else j19 (nI 1) σ)
set_option maxRecDepth 20000 in
theorem kX8_readBoard {X : Cx} (σ : St) : Kon X 6 yX8_readBoard cX8_readBoard 2 (some .boolean) gI [.ref (adr X 8 0)] σ (fX8_readBoard σ) := by
  refine konJ (own := RX8) (fun _ => gI) (fun a b => [.ref (a 8 0)]) (by decide +kernel) rfl (fun _ _ => Nat.le_of_ble_eq_true rfl) (fun Y C M => ?_)
  show V Y gI 0 [(0, .ref (adr Y 8 0))] [] σ (fX8_readBoard σ)
  unfold fX8_readBoard
  refine v_aload_n 0 C dX8_readBoard_0 rfl ?_
  refine v_getc C dX8_readBoard_1 lf_X8_20 ck_8 rfl ?_
  refine v_iconst C dX8_readBoard_4 kc_iconst_3 ?_
  refine v_iaload C dX8_readBoard_5 ck_45 (by decide) rfl ?_
  refine v_istore_nL (lv0 := [(0, .ref (adr Y 8 0))]) C dX8_readBoard_6 rfl (by decide) rfl (fun x1 => ?_)
  refine v_aload_n 1 C dX8_readBoard_7 rfl ?_
  refine v_iload_n 0 C dX8_readBoard_8 rfl ?_
  refine v_bipush C dX8_readBoard_9 kc_bipush_6 ?_
  refine v_jn (fun j19 => ∀ (x3 : Int32) (σ2 : St), V Y gI 19 [(0, .ref (adr Y 8 0)), (1, .int x1)] [.int x3, .ref (adr Y 8 0)] σ2 (j19 x3 σ2)) ?_ ?_
  · intro x3 σ2
    refine v_cV1i C dX8_readBoard_19 lv_X8_148 ck_8 (kX8_begins x3 _) (by decide) (Nat.le_of_ble_eq_true rfl) (fun r5 σ4 => ?_)
    refine v_if_ne (tgt := 27) C dX8_readBoard_22 (by decide) ?_ ?_
    · skip
      refine v_aload_n 0 C dX8_readBoard_27 rfl ?_
      refine v_cV0i C dX8_readBoard_28 lv_X8_152 ck_8 (kX8_isName _) (by decide) (Nat.le_of_ble_eq_true rfl) (fun r7 σ6 => ?_)
      refine v_if_ne (tgt := 40) C dX8_readBoard_31 (by decide) ?_ ?_
      · skip
        refine v_aload_n 0 C dX8_readBoard_40 rfl ?_
        refine v_cV0i C dX8_readBoard_41 lv_X8_156 ck_8 (kX8_boardHere _) (by decide) (Nat.le_of_ble_eq_true rfl) (fun r9 σ8 => ?_)
        refine v_iconst C dX8_readBoard_44 kc_iconst_m1 ?_
        refine v_icmp_eq (tgt := 54) C dX8_readBoard_45 (by decide) ?_ ?_
        · skip
          refine v_aload_n 0 C dX8_readBoard_54 rfl ?_
          refine v_getc C dX8_readBoard_55 lf_X8_23 ck_8 rfl ?_
          refine v_iload_n 1 C dX8_readBoard_58 rfl ?_
          refine v_aload_n 0 C dX8_readBoard_59 rfl ?_
          refine v_cV0j C dX8_readBoard_60 lv_X8_130 ck_8 (kX8_spelt _) (by decide) (Nat.le_of_ble_eq_true rfl) (fun r11 σ10 => ?_)
          refine v_lastoreL C dX8_readBoard_63 ck_46 (by decide) rfl (fun σ12 => ?_)
          refine v_aload_n 0 C dX8_readBoard_64 rfl ?_
          refine v_cV0v C dX8_readBoard_65 lv_X8_110 ck_8 (kX8_goesOn _) (by decide) (Nat.le_of_ble_eq_true rfl) (fun _ σ13 => ?_)
          refine v_aload_n 0 C dX8_readBoard_68 rfl ?_
          refine v_ldcS (i := 6) (tx := "slot") C dX8_readBoard_69 (by decide +kernel) ?_
          refine v_iconst C dX8_readBoard_71 kc_iconst_5 ?_
          refine v_iconst C dX8_readBoard_72 kc_iconst_0 ?_
          refine v_bipush C dX8_readBoard_73 kc_bipush_9 ?_
          refine v_cV4i C dX8_readBoard_75 lv_X8_161 ck_8 (kX8_laysOwn 6 (nI 5) 0 (nI 9) (by decide) _) (by decide) (Nat.le_of_ble_eq_true rfl) (fun r15 σ14 => ?_)
          refine v_if_eq (tgt := 111) C dX8_readBoard_78 (by decide) ?_ ?_
          · skip
            refine v_iconst C dX8_readBoard_111 kc_iconst_0 ?_
            exact v_zret C M (by decide) dX8_readBoard_112
          · skip
            refine v_aload_n 0 C dX8_readBoard_81 rfl ?_
            refine v_ldcS (i := 7) (tx := "code") C dX8_readBoard_82 (by decide +kernel) ?_
            refine v_bipush C dX8_readBoard_84 kc_bipush_11 ?_
            refine v_iconst C dX8_readBoard_86 kc_iconst_1 ?_
            refine v_bipush C dX8_readBoard_87 kc_bipush_31 ?_
            refine v_cV4i C dX8_readBoard_89 lv_X8_161 ck_8 (kX8_laysOwn 7 (nI 11) (nI 1) (nI 31) (by decide) _) (by decide) (Nat.le_of_ble_eq_true rfl) (fun r17 σ16 => ?_)
            refine v_if_eq (tgt := 111) C dX8_readBoard_92 (by decide) ?_ ?_
            · skip
              refine v_iconst C dX8_readBoard_111 kc_iconst_0 ?_
              exact v_zret C M (by decide) dX8_readBoard_112
            · skip
              refine v_aload_n 0 C dX8_readBoard_95 rfl ?_
              refine v_ldcS (i := 8) (tx := "rank") C dX8_readBoard_96 (by decide +kernel) ?_
              refine v_bipush C dX8_readBoard_98 kc_bipush_17 ?_
              refine v_iload_n 1 C dX8_readBoard_100 rfl ?_
              refine v_iadd C dX8_readBoard_101 ?_
              refine v_iconst C dX8_readBoard_102 kc_iconst_0 ?_
              refine v_bipush C dX8_readBoard_103 kc_bipush_7 ?_
              refine v_cV4i C dX8_readBoard_105 lv_X8_140 ck_8 (kX8_after 8 ((nI 17) + x1) 0 (nI 7) (by decide) _) (by decide) (Nat.le_of_ble_eq_true rfl) (fun r19 σ18 => ?_)
              refine v_if_ne (tgt := 113) C dX8_readBoard_108 (by decide) ?_ ?_
              · skip
                refine v_aload_n 0 C dX8_readBoard_113 rfl ?_
                refine v_getc C dX8_readBoard_114 lf_X8_20 ck_8 rfl ?_
                refine v_iconst C dX8_readBoard_117 kc_iconst_3 ?_
                refine v_dup2 C dX8_readBoard_118 rfl rfl ?_
                refine v_iaload C dX8_readBoard_119 ck_45 (by decide) rfl ?_
                refine v_iconst C dX8_readBoard_120 kc_iconst_1 ?_
                refine v_iadd C dX8_readBoard_121 ?_
                refine v_iastoreL C dX8_readBoard_122 ck_45 (by decide) rfl (fun σ20 => ?_)
                refine v_iconst C dX8_readBoard_123 kc_iconst_1 ?_
                exact v_zret C M (by decide) dX8_readBoard_124
              · skip
                refine v_iconst C dX8_readBoard_111 kc_iconst_0 ?_
                exact v_zret C M (by decide) dX8_readBoard_112
        · skip
          refine v_aload_n 0 C dX8_readBoard_48 rfl ?_
          refine v_iconst C dX8_readBoard_49 kc_iconst_3 ?_
          refine v_cV1i C dX8_readBoard_50 lv_X8_106 ck_8 (kX8_errs (nI 3) _) (by decide) (Nat.le_of_ble_eq_true rfl) (fun r22 σ21 => ?_)
          exact v_zretg C M dX8_readBoard_53
      · skip
        refine v_aload_n 0 C dX8_readBoard_34 rfl ?_
        refine v_iconst C dX8_readBoard_35 kc_iconst_1 ?_
        refine v_cV1i C dX8_readBoard_36 lv_X8_106 ck_8 (kX8_errs (nI 1) _) (by decide) (Nat.le_of_ble_eq_true rfl) (fun r24 σ23 => ?_)
        exact v_zretg C M dX8_readBoard_39
    · skip
      refine v_iconst C dX8_readBoard_25 kc_iconst_0 ?_
      exact v_zret C M (by decide) dX8_readBoard_26
  · intro j19 hj19
    refine v_icmp_ge (tgt := 18) C dX8_readBoard_11 (by decide) ?_ ?_
    · skip
      refine v_iconst C dX8_readBoard_18 kc_iconst_0 ?_
      exact v_lv (hj19 0 σ) [1, 0] rfl
    · skip
      refine v_iconst C dX8_readBoard_14 kc_iconst_1 ?_
      refine v_goto (tgt := 19) C dX8_readBoard_15 (by decide) ?_
      exact v_lv (hj19 (nI 1) σ) [1, 0] rfl
-- OpenLinesModel readAsk()Z, depth 6
def fX8_readAsk (σ : St) : Option (Int32 × St) :=
  gi (nI 4) 59 <| lt (σ.1 45 0 (nI 4).toNatClampNeg) fun (x1 : Int32) => (jn (fun (x3 : Int32) (σ2 : St) => bd (fX8_begins x3 σ2) fun (r5 : Int32) (σ4 : St) => (if r5 = 0 then some (0, σ4) else (jn (fun (x7 : Int32) (σ6 : St) => bd (fX8_lays ((nI 23) + x1) x7 (nI 999) σ6) fun (r9 : Int32) (σ8 : St) => (if r9 = 0 then some (0, σ8) else bd (fX8_isName σ8) fun (r11 : Int32) (σ10 : St) => (if r11 = 0 then bd (fX8_errs (nI 1) σ10) fun (r22 : Int32) (σ21 : St) => rz r22 σ21 else bd (fX8_boardHere σ10) fun (r13 : Int32) (σ12 : St) => gi ((nI 35) + x1) 59 <| lt (wI σ12 45 0 ((nI 35) + x1).toNatClampNeg r13) fun (σ14 : St) => gi ((nI 35) + x1) 59 <| (if (σ14.1 45 0 ((nI 35) + x1).toNatClampNeg) = (-1) then bd (fX8_errs (nI 2) σ14) fun (r20 : Int32) (σ19 : St) => rz r20 σ19 else bd (fX8_goesOn σ14) fun _ (σ15 : St) => bd (fX8_lays ((nI 47) + x1) (nI 1) (nI 99) σ15) fun (r17 : Int32) (σ16 : St) => (if r17 = 0 then some (0, σ16) else gi (nI 4) 59 <| gi (nI 4) 59 <| lt (wI σ16 45 0 (nI 4).toNatClampNeg ((σ16.1 45 0 (nI 4).toNatClampNeg) + (nI 1))) fun (σ18 : St) => some (nI 1, σ18)))))) fun j49 => if x1 = 0 then j49 (nI 1) σ4 else gi (((nI 23) + x1) - (nI 1)) 59 <| j49 (σ4.1 45 0 (((nI 23) + x1) - (nI 1)).toNatClampNeg) σ4))) fun j19 => if (nI 12) ≤ x1 then j19 0 σ else j19 (nI 1) σ)
set_option maxRecDepth 20000 in
theorem kX8_readAsk {X : Cx} (σ : St) : Kon X 6 yX8_readAsk cX8_readAsk 2 (some .boolean) gI [.ref (adr X 8 0)] σ (fX8_readAsk σ) := by
  refine konJ (own := RX8) (fun _ => gI) (fun a b => [.ref (a 8 0)]) (by decide +kernel) rfl (fun _ _ => Nat.le_of_ble_eq_true rfl) (fun Y C M => ?_)
  show V Y gI 0 [(0, .ref (adr Y 8 0))] [] σ (fX8_readAsk σ)
  unfold fX8_readAsk
  refine v_aload_n 0 C dX8_readAsk_0 rfl ?_
  refine v_getc C dX8_readAsk_1 lf_X8_20 ck_8 rfl ?_
  refine v_iconst C dX8_readAsk_4 kc_iconst_4 ?_
  refine v_iaload C dX8_readAsk_5 ck_45 (by decide) rfl ?_
  refine v_istore_nL (lv0 := [(0, .ref (adr Y 8 0))]) C dX8_readAsk_6 rfl (by decide) rfl (fun x1 => ?_)
  refine v_aload_n 1 C dX8_readAsk_7 rfl ?_
  refine v_iload_n 0 C dX8_readAsk_8 rfl ?_
  refine v_bipush C dX8_readAsk_9 kc_bipush_12 ?_
  refine v_jn (fun j19 => ∀ (x3 : Int32) (σ2 : St), V Y gI 19 [(0, .ref (adr Y 8 0)), (1, .int x1)] [.int x3, .ref (adr Y 8 0)] σ2 (j19 x3 σ2)) ?_ ?_
  · intro x3 σ2
    refine v_cV1i C dX8_readAsk_19 lv_X8_148 ck_8 (kX8_begins x3 _) (by decide) (Nat.le_of_ble_eq_true rfl) (fun r5 σ4 => ?_)
    refine v_if_eq (tgt := 58) C dX8_readAsk_22 (by decide) ?_ ?_
    · skip
      refine v_iconst C dX8_readAsk_58 kc_iconst_0 ?_
      exact v_zret C M (by decide) dX8_readAsk_59
    · skip
      refine v_aload_n 0 C dX8_readAsk_25 rfl ?_
      refine v_bipush C dX8_readAsk_26 kc_bipush_23 ?_
      refine v_iload_n 1 C dX8_readAsk_28 rfl ?_
      refine v_iadd C dX8_readAsk_29 ?_
      refine v_iload_n 1 C dX8_readAsk_30 rfl ?_
      refine v_jn (fun j49 => ∀ (x7 : Int32) (σ6 : St), V Y gI 49 [(0, .ref (adr Y 8 0)), (1, .int x1)] [.int x7, .int ((nI 23) + x1), .ref (adr Y 8 0)] σ6 (j49 x7 σ6)) ?_ ?_
      · intro x7 σ6
        refine v_sipush C dX8_readAsk_49 kc_sipush_999 ?_
        refine v_cV3i C dX8_readAsk_52 lv_X8_117 ck_8 (kX8_lays ((nI 23) + x1) x7 (nI 999) _) (by decide) (Nat.le_of_ble_eq_true rfl) (fun r9 σ8 => ?_)
        refine v_if_ne (tgt := 60) C dX8_readAsk_55 (by decide) ?_ ?_
        · skip
          refine v_aload_n 0 C dX8_readAsk_60 rfl ?_
          refine v_cV0i C dX8_readAsk_61 lv_X8_152 ck_8 (kX8_isName _) (by decide) (Nat.le_of_ble_eq_true rfl) (fun r11 σ10 => ?_)
          refine v_if_ne (tgt := 73) C dX8_readAsk_64 (by decide) ?_ ?_
          · skip
            refine v_aload_n 0 C dX8_readAsk_73 rfl ?_
            refine v_getc C dX8_readAsk_74 lf_X8_20 ck_8 rfl ?_
            refine v_bipush C dX8_readAsk_77 kc_bipush_35 ?_
            refine v_iload_n 1 C dX8_readAsk_79 rfl ?_
            refine v_iadd C dX8_readAsk_80 ?_
            refine v_aload_n 0 C dX8_readAsk_81 rfl ?_
            refine v_cV0i C dX8_readAsk_82 lv_X8_156 ck_8 (kX8_boardHere _) (by decide) (Nat.le_of_ble_eq_true rfl) (fun r13 σ12 => ?_)
            refine v_iastoreL C dX8_readAsk_85 ck_45 (by decide) rfl (fun σ14 => ?_)
            refine v_aload_n 0 C dX8_readAsk_86 rfl ?_
            refine v_getc C dX8_readAsk_87 lf_X8_20 ck_8 rfl ?_
            refine v_bipush C dX8_readAsk_90 kc_bipush_35 ?_
            refine v_iload_n 1 C dX8_readAsk_92 rfl ?_
            refine v_iadd C dX8_readAsk_93 ?_
            refine v_iaload C dX8_readAsk_94 ck_45 (by decide) rfl ?_
            refine v_iconst C dX8_readAsk_95 kc_iconst_m1 ?_
            refine v_icmp_ne (tgt := 105) C dX8_readAsk_96 (by decide) ?_ ?_
            · skip
              refine v_aload_n 0 C dX8_readAsk_105 rfl ?_
              refine v_cV0v C dX8_readAsk_106 lv_X8_110 ck_8 (kX8_goesOn _) (by decide) (Nat.le_of_ble_eq_true rfl) (fun _ σ15 => ?_)
              refine v_aload_n 0 C dX8_readAsk_109 rfl ?_
              refine v_bipush C dX8_readAsk_110 kc_bipush_47 ?_
              refine v_iload_n 1 C dX8_readAsk_112 rfl ?_
              refine v_iadd C dX8_readAsk_113 ?_
              refine v_iconst C dX8_readAsk_114 kc_iconst_1 ?_
              refine v_bipush C dX8_readAsk_115 kc_bipush_99 ?_
              refine v_cV3i C dX8_readAsk_117 lv_X8_117 ck_8 (kX8_lays ((nI 47) + x1) (nI 1) (nI 99) _) (by decide) (Nat.le_of_ble_eq_true rfl) (fun r17 σ16 => ?_)
              refine v_if_ne (tgt := 125) C dX8_readAsk_120 (by decide) ?_ ?_
              · skip
                refine v_aload_n 0 C dX8_readAsk_125 rfl ?_
                refine v_getc C dX8_readAsk_126 lf_X8_20 ck_8 rfl ?_
                refine v_iconst C dX8_readAsk_129 kc_iconst_4 ?_
                refine v_dup2 C dX8_readAsk_130 rfl rfl ?_
                refine v_iaload C dX8_readAsk_131 ck_45 (by decide) rfl ?_
                refine v_iconst C dX8_readAsk_132 kc_iconst_1 ?_
                refine v_iadd C dX8_readAsk_133 ?_
                refine v_iastoreL C dX8_readAsk_134 ck_45 (by decide) rfl (fun σ18 => ?_)
                refine v_iconst C dX8_readAsk_135 kc_iconst_1 ?_
                exact v_zret C M (by decide) dX8_readAsk_136
              · skip
                refine v_iconst C dX8_readAsk_123 kc_iconst_0 ?_
                exact v_zret C M (by decide) dX8_readAsk_124
            · skip
              refine v_aload_n 0 C dX8_readAsk_99 rfl ?_
              refine v_iconst C dX8_readAsk_100 kc_iconst_2 ?_
              refine v_cV1i C dX8_readAsk_101 lv_X8_106 ck_8 (kX8_errs (nI 2) _) (by decide) (Nat.le_of_ble_eq_true rfl) (fun r20 σ19 => ?_)
              exact v_zretg C M dX8_readAsk_104
          · skip
            refine v_aload_n 0 C dX8_readAsk_67 rfl ?_
            refine v_iconst C dX8_readAsk_68 kc_iconst_1 ?_
            refine v_cV1i C dX8_readAsk_69 lv_X8_106 ck_8 (kX8_errs (nI 1) _) (by decide) (Nat.le_of_ble_eq_true rfl) (fun r22 σ21 => ?_)
            exact v_zretg C M dX8_readAsk_72
        · skip
          refine v_iconst C dX8_readAsk_58 kc_iconst_0 ?_
          exact v_zret C M (by decide) dX8_readAsk_59
      · intro j49 hj49
        refine v_if_ne (tgt := 38) C dX8_readAsk_31 (by decide) ?_ ?_
        · skip
          refine v_aload_n 0 C dX8_readAsk_38 rfl ?_
          refine v_getc C dX8_readAsk_39 lf_X8_20 ck_8 rfl ?_
          refine v_bipush C dX8_readAsk_42 kc_bipush_23 ?_
          refine v_iload_n 1 C dX8_readAsk_44 rfl ?_
          refine v_iadd C dX8_readAsk_45 ?_
          refine v_iconst C dX8_readAsk_46 kc_iconst_1 ?_
          refine v_isub C dX8_readAsk_47 ?_
          refine v_iaload C dX8_readAsk_48 ck_45 (by decide) rfl ?_
          exact v_lv (hj49 (σ4.1 45 0 (((nI 23) + x1) - (nI 1)).toNatClampNeg) σ4) [0, 1] rfl
        · skip
          refine v_iconst C dX8_readAsk_34 kc_iconst_1 ?_
          refine v_goto (tgt := 49) C dX8_readAsk_35 (by decide) ?_
          exact v_lv (hj49 (nI 1) σ4) [0, 1] rfl
  · intro j19 hj19
    refine v_icmp_ge (tgt := 18) C dX8_readAsk_11 (by decide) ?_ ?_
    · skip
      refine v_iconst C dX8_readAsk_18 kc_iconst_0 ?_
      exact v_lv (hj19 0 σ) [1, 0] rfl
    · skip
      refine v_iconst C dX8_readAsk_14 kc_iconst_1 ?_
      refine v_goto (tgt := 19) C dX8_readAsk_15 (by decide) ?_
      exact v_lv (hj19 (nI 1) σ) [1, 0] rfl
-- OpenLinesModel readLine()Z, depth 7
def fX8_readLine (σ : St) : Option (Int32 × St) :=
  bd (fX8_isWord 0 σ) fun (r2 : Int32) (σ1 : St) => (if r2 = 0 then bd (fX8_isWord 4 σ1) fun (r4 : Int32) (σ3 : St) => (if r4 = 0 then bd (fX8_isWord 5 σ3) fun (r6 : Int32) (σ5 : St) => (if r6 = 0 then bd (fX8_errs (nI 1) σ5) fun (r8 : Int32) (σ7 : St) => rz r8 σ7 else bd (fX8_readAsk σ5) fun (r10 : Int32) (σ9 : St) => rz r10 σ9) else bd (fX8_readBoard σ3) fun (r12 : Int32) (σ11 : St) => rz r12 σ11) else bd (fX8_readBus σ1) fun (r14 : Int32) (σ13 : St) => rz r14 σ13)
set_option maxRecDepth 20000 in
theorem kX8_readLine {X : Cx} (σ : St) : Kon X 7 yX8_readLine cX8_readLine 1 (some .boolean) gI [.ref (adr X 8 0)] σ (fX8_readLine σ) := by
  refine konJ (own := RX8) (fun _ => gI) (fun a b => [.ref (a 8 0)]) (by decide +kernel) rfl (fun _ _ => Nat.le_of_ble_eq_true rfl) (fun Y C M => ?_)
  show V Y gI 0 [(0, .ref (adr Y 8 0))] [] σ (fX8_readLine σ)
  unfold fX8_readLine
  refine v_aload_n 0 C dX8_readLine_0 rfl ?_
  refine v_ldcS (i := 0) (tx := "bus") C dX8_readLine_1 (by decide +kernel) ?_
  refine v_cV1i C dX8_readLine_3 lv_X8_113 ck_8 (kX8_isWord 0 (by decide) _) (by decide) (Nat.le_of_ble_eq_true rfl) (fun r2 σ1 => ?_)
  refine v_if_eq (tgt := 14) C dX8_readLine_6 (by decide) ?_ ?_
  · skip
    refine v_aload_n 0 C dX8_readLine_14 rfl ?_
    refine v_ldcS (i := 4) (tx := "board") C dX8_readLine_15 (by decide +kernel) ?_
    refine v_cV1i C dX8_readLine_17 lv_X8_113 ck_8 (kX8_isWord 4 (by decide) _) (by decide) (Nat.le_of_ble_eq_true rfl) (fun r4 σ3 => ?_)
    refine v_if_eq (tgt := 28) C dX8_readLine_20 (by decide) ?_ ?_
    · skip
      refine v_aload_n 0 C dX8_readLine_28 rfl ?_
      refine v_ldcS (i := 5) (tx := "ask") C dX8_readLine_29 (by decide +kernel) ?_
      refine v_cV1i C dX8_readLine_31 lv_X8_113 ck_8 (kX8_isWord 5 (by decide) _) (by decide) (Nat.le_of_ble_eq_true rfl) (fun r6 σ5 => ?_)
      refine v_if_eq (tgt := 44) C dX8_readLine_34 (by decide) ?_ ?_
      · skip
        refine v_aload_n 0 C dX8_readLine_44 rfl ?_
        refine v_iconst C dX8_readLine_45 kc_iconst_1 ?_
        refine v_cV1i C dX8_readLine_46 lv_X8_106 ck_8 (kX8_errs (nI 1) _) (by decide) (Nat.le_of_ble_eq_true rfl) (fun r8 σ7 => ?_)
        exact v_zretg C M dX8_readLine_49
      · skip
        refine v_aload_n 0 C dX8_readLine_37 rfl ?_
        refine v_cV0i C dX8_readLine_38 lv_X8_174 ck_8 (kX8_readAsk _) (by decide) (Nat.le_of_ble_eq_true rfl) (fun r10 σ9 => ?_)
        refine v_goto (tgt := 49) C dX8_readLine_41 (by decide) ?_
        exact v_zretg C M dX8_readLine_49
    · skip
      refine v_aload_n 0 C dX8_readLine_23 rfl ?_
      refine v_cV0i C dX8_readLine_24 lv_X8_171 ck_8 (kX8_readBoard _) (by decide) (Nat.le_of_ble_eq_true rfl) (fun r12 σ11 => ?_)
      exact v_zretg C M dX8_readLine_27
  · skip
    refine v_aload_n 0 C dX8_readLine_9 rfl ?_
    refine v_cV0i C dX8_readLine_10 lv_X8_168 ck_8 (kX8_readBus _) (by decide) (Nat.le_of_ble_eq_true rfl) (fun r14 σ13 => ?_)
    exact v_zretg C M dX8_readLine_13
-- OpenLinesModel readAll(I)Z, depth 8
def LX8_readAll_42 (ke : St → Option (Int32 × St)) : Nat → St → Option (Int32 × St)
  | 0, _ => none
  | n + 1, σ => (if (σ.1 8 0 13) = (nI 59) then bd (fX8_goesOn σ) fun _ (σ9 : St) => bd (fX8_readLine σ9) fun (r11 : Int32) (σ10 : St) => (if r11 = 0 then some (0, σ10) else LX8_readAll_42 ke n σ10) else ke σ)
def fX8_readAll (p1 : Int32) (σ : St) : Option (Int32 × St) :=
  lt (wI σ 8 0 10 p1) fun (σ1 : St) => lt (wI σ1 8 0 12 0) fun (σ2 : St) => gd (0 = 0 ∨ 0 = 1) <| lt (wI σ2 8 0 17 0) fun (σ3 : St) => gi (nI 3) 59 <| lt (wI σ3 45 0 (nI 3).toNatClampNeg 0) fun (σ4 : St) => gi (nI 4) 59 <| lt (wI σ4 45 0 (nI 4).toNatClampNeg 0) fun (σ5 : St) => bd (fX8_goesOn σ5) fun _ (σ6 : St) => bd (fX8_readLine σ6) fun (r8 : Int32) (σ7 : St) => (if r8 = 0 then some (0, σ7) else (LX8_readAll_42 (fun (σ12 : St) => (if (σ12.1 8 0 13) = 0 then gi (nI 3) 59 <| (jn (fun (σ13 : St) => some (nI 1, σ13)) fun j95 => if 0 < (σ12.1 45 0 (nI 3).toNatClampNeg) then j95 σ12 else bd (fX8_errs (nI 6) σ12) fun (r15 : Int32) (σ14 : St) => (if r15 = 0 then some (0, σ14) else j95 σ14)) else bd (fX8_errs (nI 1) σ12) fun (r17 : Int32) (σ16 : St) => rz r17 σ16)) FU σ7))
set_option maxRecDepth 20000 in
theorem vLX8_readAll_42 {Y : Cx} (C : Ok Y RX8 cX8_readAll 2 8) (M : OkM Y (some .boolean)) (ke : St → Option (Int32 × St)) (hke : ∀ (σ : St), V Y gI 64 [(0, .ref (adr Y 8 0))] [] σ (ke σ)) : ∀ (n : Nat) (σ : St), V Y gI 42 [(0, .ref (adr Y 8 0))] [] σ (LX8_readAll_42 ke n σ) := by
  intro n
  induction n with
  | zero => intros; exact v_none
  | succ n ih =>
    intro σ
    rw [LX8_readAll_42]
    refine v_aload_n 0 C dX8_readAll_42 rfl ?_
    refine v_geti C dX8_readAll_43 lf_X8_80 ck_8 (by decide) ?_
    refine v_bipush C dX8_readAll_46 kc_bipush_59 ?_
    refine v_icmp_ne (tgt := 64) C dX8_readAll_48 (by decide) ?_ ?_
    · skip
      exact v_lv (hke σ) [0] rfl
    · skip
      refine v_aload_n 0 C dX8_readAll_51 rfl ?_
      refine v_cV0v C dX8_readAll_52 lv_X8_110 ck_8 (kX8_goesOn _) (by decide) (Nat.le_of_ble_eq_true rfl) (fun _ σ9 => ?_)
      refine v_aload_n 0 C dX8_readAll_55 rfl ?_
      refine v_cV0i C dX8_readAll_56 lv_X8_177 ck_8 (kX8_readLine _) (by decide) (Nat.le_of_ble_eq_true rfl) (fun r11 σ10 => ?_)
      refine v_if_ne (tgt := 42) C dX8_readAll_59 (by decide) ?_ ?_
      · skip
        exact v_lv (ih σ10) [0] rfl
      · skip
        refine v_iconst C dX8_readAll_62 kc_iconst_0 ?_
        exact v_zret C M (by decide) dX8_readAll_63
set_option maxRecDepth 20000 in
theorem kX8_readAll {X : Cx} (p1 : Int32) (σ : St) : Kon X 8 yX8_readAll cX8_readAll 2 (some .boolean) gI [.ref (adr X 8 0), .int p1] σ (fX8_readAll p1 σ) := by
  refine konJ (own := RX8) (fun _ => gI) (fun a b => [.ref (a 8 0), .int p1]) (by decide +kernel) rfl (fun _ _ => Nat.le_of_ble_eq_true rfl) (fun Y C M => ?_)
  show V Y gI 0 [(0, .ref (adr Y 8 0)), (1, .int p1)] [] σ (fX8_readAll p1 σ)
  unfold fX8_readAll
  refine v_aload_n 0 C dX8_readAll_0 rfl ?_
  refine v_iload_n 1 C dX8_readAll_1 rfl ?_
  refine v_putiL C dX8_readAll_2 lp_X8_67 ck_8 (by decide) (fun σ1 => ?_)
  refine v_aload_n 0 C dX8_readAll_5 rfl ?_
  refine v_iconst C dX8_readAll_6 kc_iconst_0 ?_
  refine v_putiL C dX8_readAll_7 lp_X8_70 ck_8 (by decide) (fun σ2 => ?_)
  refine v_aload_n 0 C dX8_readAll_10 rfl ?_
  refine v_iconst C dX8_readAll_11 kc_iconst_0 ?_
  refine v_putzL C dX8_readAll_12 lp_X8_134 ck_8 (by decide) (fun σ3 => ?_)
  refine v_aload_n 0 C dX8_readAll_15 rfl ?_
  refine v_getc C dX8_readAll_16 lf_X8_20 ck_8 rfl ?_
  refine v_iconst C dX8_readAll_19 kc_iconst_3 ?_
  refine v_iconst C dX8_readAll_20 kc_iconst_0 ?_
  refine v_iastoreL C dX8_readAll_21 ck_45 (by decide) rfl (fun σ4 => ?_)
  refine v_aload_n 0 C dX8_readAll_22 rfl ?_
  refine v_getc C dX8_readAll_23 lf_X8_20 ck_8 rfl ?_
  refine v_iconst C dX8_readAll_26 kc_iconst_4 ?_
  refine v_iconst C dX8_readAll_27 kc_iconst_0 ?_
  refine v_iastoreL C dX8_readAll_28 ck_45 (by decide) rfl (fun σ5 => ?_)
  refine v_aload_n 0 C dX8_readAll_29 rfl ?_
  refine v_cV0v C dX8_readAll_30 lv_X8_110 ck_8 (kX8_goesOn _) (by decide) (Nat.le_of_ble_eq_true rfl) (fun _ σ6 => ?_)
  refine v_aload_n 0 C dX8_readAll_33 rfl ?_
  refine v_cV0i C dX8_readAll_34 lv_X8_177 ck_8 (kX8_readLine _) (by decide) (Nat.le_of_ble_eq_true rfl) (fun r8 σ7 => ?_)
  refine v_if_ne (tgt := 42) C dX8_readAll_37 (by decide) ?_ ?_
  · skip
    refine v_lv (vLX8_readAll_42 C M _ (fun σ12 => ?_) FU _) [0] rfl
    refine v_aload_n 0 C dX8_readAll_64 rfl ?_
    refine v_geti C dX8_readAll_65 lf_X8_80 ck_8 (by decide) ?_
    refine v_if_eq (tgt := 77) C dX8_readAll_68 (by decide) ?_ ?_
    · skip
      refine v_aload_n 0 C dX8_readAll_77 rfl ?_
      refine v_getc C dX8_readAll_78 lf_X8_20 ck_8 rfl ?_
      refine v_iconst C dX8_readAll_81 kc_iconst_3 ?_
      refine v_iaload C dX8_readAll_82 ck_45 (by decide) rfl ?_
      refine v_jn (fun j95 => ∀ (σ13 : St), V Y gI 95 [] [] σ13 (j95 σ13)) ?_ ?_
      · intro σ13
        refine v_iconst C dX8_readAll_95 kc_iconst_1 ?_
        refine v_goto (tgt := 100) C dX8_readAll_96 (by decide) ?_
        exact v_zret C M (by decide) dX8_readAll_100
      · intro j95 hj95
        refine v_if_gt (tgt := 95) C dX8_readAll_83 (by decide) ?_ ?_
        · skip
          exact v_lv (hj95 σ12) [] rfl
        · skip
          refine v_aload_n 0 C dX8_readAll_86 rfl ?_
          refine v_bipush C dX8_readAll_87 kc_bipush_6 ?_
          refine v_cV1i C dX8_readAll_89 lv_X8_106 ck_8 (kX8_errs (nI 6) _) (by decide) (Nat.le_of_ble_eq_true rfl) (fun r15 σ14 => ?_)
          refine v_if_eq (tgt := 99) C dX8_readAll_92 (by decide) ?_ ?_
          · skip
            refine v_iconst C dX8_readAll_99 kc_iconst_0 ?_
            exact v_zret C M (by decide) dX8_readAll_100
          · skip
            exact v_lv (hj95 σ14) [] rfl
    · skip
      refine v_aload_n 0 C dX8_readAll_71 rfl ?_
      refine v_iconst C dX8_readAll_72 kc_iconst_1 ?_
      refine v_cV1i C dX8_readAll_73 lv_X8_106 ck_8 (kX8_errs (nI 1) _) (by decide) (Nat.le_of_ble_eq_true rfl) (fun r17 σ16 => ?_)
      exact v_zretg C M dX8_readAll_76
  · skip
    refine v_iconst C dX8_readAll_40 kc_iconst_0 ?_
    exact v_zret C M (by decide) dX8_readAll_41
-- OpenLinesModel bus(I)I, depth 9
def LX8_bus_68 (ke : St → Option (Int32 × St)) : Nat → Int32 → St → Option (Int32 × St)
  | 0, _, _ => none
  | n + 1, b2, σ => (if (nI 59) ≤ b2 then ke σ else gi b2 59 <| gi b2 59 <| lt (wI σ 44 0 b2.toNatClampNeg (σ.1 45 0 b2.toNatClampNeg)) fun (σ10 : St) => LX8_bus_68 ke n (b2 + nI 1) σ10)
def fX8_bus (p1 : Int32) (σ : St) : Option (Int32 × St) :=
  bd (fX8_isRefused (if (fX8_in p1 0 (σ.1 8 0 5)) = 0 then (nI 2) else 0) σ) fun (r5 : Int32) (σ4 : St) => (if r5 = 0 then lt (wI σ4 8 0 5 0) fun (σ6 : St) => lt (wI σ6 8 0 2 0) fun (σ7 : St) => bd (fX8_readAll p1 σ7) fun (r9 : Int32) (σ8 : St) => (if r9 = 0 then lt (wI σ8 8 0 2 (σ8.1 8 0 15)) fun (σ15 : St) => lt (wI σ15 8 0 3 (σ15.1 8 0 16)) fun (σ16 : St) => bd (fX8_no (nI 4) σ16) fun (r18 : Int32) (σ17 : St) => some (r18, σ17) else (LX8_bus_68 (fun (σ11 : St) => gd ((nI 1) = 0 ∨ (nI 1) = 1) <| lt (wI σ11 8 0 9 (nI 1)) fun (σ12 : St) => gd (0 = 0 ∨ 0 = 1) <| lt (wI σ12 8 0 21 0) fun (σ13 : St) => bd (fX8_beginsAnew σ13) fun _ (σ14 : St) => gi (nI 3) 59 <| some (σ14.1 44 0 (nI 3).toNatClampNeg, σ14)) FU 0 σ8)) else some ((-1), σ4))
set_option maxRecDepth 20000 in
theorem vLX8_bus_68 {Y : Cx} (C : Ok Y RX8 cX8_bus 3 9) (M : OkM Y (some .int)) (ke : St → Option (Int32 × St)) (hke : ∀ (σ : St), V Y gI 92 [(0, .ref (adr Y 8 0))] [] σ (ke σ)) : ∀ (n : Nat) (b2 : Int32) (σ : St), V Y gI 68 [(0, .ref (adr Y 8 0)), (2, .int b2)] [] σ (LX8_bus_68 ke n b2 σ) := by
  intro n
  induction n with
  | zero => intros; exact v_none
  | succ n ih =>
    intro b2 σ
    rw [LX8_bus_68]
    refine v_iload_n 1 C dX8_bus_68 rfl ?_
    refine v_bipush C dX8_bus_69 kc_bipush_59 ?_
    refine v_icmp_ge (tgt := 92) C dX8_bus_71 (by decide) ?_ ?_
    · skip
      exact v_lv (hke σ) [0] rfl
    · skip
      refine v_aload_n 0 C dX8_bus_74 rfl ?_
      refine v_getc C dX8_bus_75 lf_X8_17 ck_8 rfl ?_
      refine v_iload_n 1 C dX8_bus_78 rfl ?_
      refine v_aload_n 0 C dX8_bus_79 rfl ?_
      refine v_getc C dX8_bus_80 lf_X8_20 ck_8 rfl ?_
      refine v_iload_n 1 C dX8_bus_83 rfl ?_
      refine v_iaload C dX8_bus_84 ck_45 (by decide) rfl ?_
      refine v_iastoreL C dX8_bus_85 ck_44 (by decide) rfl (fun σ10 => ?_)
      refine v_iinc (lv' := [(2, .int (b2 + nI 1)), (0, .ref (adr Y 8 0))]) 1 C dX8_bus_86 rfl (congrArg (b2 + ·) kc_iconst_1) (by decide) rfl ?_
      refine v_goto (tgt := 68) C dX8_bus_89 (by decide) ?_
      exact v_lv (ih (b2 + nI 1) σ10) [1, 0] rfl
set_option maxRecDepth 20000 in
theorem kX8_bus {X : Cx} (p1 : Int32) (σ : St) : Kon X 9 yX8_bus cX8_bus 3 (some .int) gI [.ref (adr X 8 0), .int p1] σ (fX8_bus p1 σ) := by
  refine konJ (own := RX8) (fun _ => gI) (fun a b => [.ref (a 8 0), .int p1]) (by decide +kernel) rfl (fun _ _ => Nat.le_of_ble_eq_true rfl) (fun Y C M => ?_)
  show V Y gI 0 [(0, .ref (adr Y 8 0)), (1, .int p1)] [] σ (fX8_bus p1 σ)
  unfold fX8_bus
  refine v_aload_n 0 C dX8_bus_0 rfl ?_
  refine v_iload_n 1 C dX8_bus_1 rfl ?_
  refine v_iconst C dX8_bus_2 kc_iconst_0 ?_
  refine v_aload_n 0 C dX8_bus_3 rfl ?_
  refine v_geti C dX8_bus_4 lf_X8_60 ck_8 (by decide) ?_
  refine v_cS3p C dX8_bus_7 ls_X8_83 (kX8_in p1 0 (σ.1 8 0 5) _) (by decide) (Nat.le_of_ble_eq_true rfl) ?_
  refine v_cut (pcJ := 18) (lv := [(0, .ref (adr Y 8 0)), (1, .int p1)]) (st := .int (if (fX8_in p1 0 (σ.1 8 0 5)) = 0 then (nI 2) else 0) :: [.ref (adr Y 8 0)]) ?_ (fun hj1 => ?_)
  rotate_left
  · skip
    refine v_if_eq_b (tgt := 17) C dX8_bus_10 (by decide) (fun h2 => ?_) (fun h2 => ?_)
    · have hj3 := v_jpos h2 hj1
      refine v_iconst C dX8_bus_17 kc_iconst_2 ?_
      exact hj3
    · have hj3 := v_jneg h2 hj1
      refine v_iconst C dX8_bus_13 kc_iconst_0 ?_
      refine v_goto (tgt := 18) C dX8_bus_14 (by decide) ?_
      exact hj3
  refine v_cV1i C dX8_bus_18 lv_X8_180 ck_8 (kX8_isRefused (if (fX8_in p1 0 (σ.1 8 0 5)) = 0 then (nI 2) else 0) _) (by decide) (Nat.le_of_ble_eq_true rfl) (fun r5 σ4 => ?_)
  refine v_if_eq (tgt := 26) C dX8_bus_21 (by decide) ?_ ?_
  · skip
    refine v_aload_n 0 C dX8_bus_26 rfl ?_
    refine v_iconst C dX8_bus_27 kc_iconst_0 ?_
    refine v_putiL C dX8_bus_28 lp_X8_60 ck_8 (by decide) (fun σ6 => ?_)
    refine v_aload_n 0 C dX8_bus_31 rfl ?_
    refine v_iconst C dX8_bus_32 kc_iconst_0 ?_
    refine v_putiL C dX8_bus_33 lp_X8_183 ck_8 (by decide) (fun σ7 => ?_)
    refine v_aload_n 0 C dX8_bus_36 rfl ?_
    refine v_iload_n 1 C dX8_bus_37 rfl ?_
    refine v_cV1i C dX8_bus_38 lv_X8_186 ck_8 (kX8_readAll p1 _) (by decide) (Nat.le_of_ble_eq_true rfl) (fun r9 σ8 => ?_)
    refine v_if_ne (tgt := 66) C dX8_bus_41 (by decide) ?_ ?_
    · skip
      refine v_iconst C dX8_bus_66 kc_iconst_0 ?_
      refine v_istore_n (lv' := [(2, .int 0), (0, .ref (adr Y 8 0)), (1, .int p1)]) C dX8_bus_67 rfl (by decide) rfl ?_
      refine v_lv (vLX8_bus_68 C M _ (fun σ11 => ?_) FU _ _) [1, 0] rfl
      refine v_aload_n 0 C dX8_bus_92 rfl ?_
      refine v_iconst C dX8_bus_93 kc_iconst_1 ?_
      refine v_putzL C dX8_bus_94 lp_X8_192 ck_8 (by decide) (fun σ12 => ?_)
      refine v_aload_n 0 C dX8_bus_97 rfl ?_
      refine v_iconst C dX8_bus_98 kc_iconst_0 ?_
      refine v_putzL C dX8_bus_99 lp_X8_195 ck_8 (by decide) (fun σ13 => ?_)
      refine v_aload_n 0 C dX8_bus_102 rfl ?_
      refine v_cV0v C dX8_bus_103 lv_X8_198 ck_8 (kX8_beginsAnew _) (by decide) (Nat.le_of_ble_eq_true rfl) (fun _ σ14 => ?_)
      refine v_aload_n 0 C dX8_bus_106 rfl ?_
      refine v_getc C dX8_bus_107 lf_X8_17 ck_8 rfl ?_
      refine v_iconst C dX8_bus_110 kc_iconst_3 ?_
      refine v_iaload C dX8_bus_111 ck_44 (by decide) rfl ?_
      exact v_iret C M dX8_bus_112
    · skip
      refine v_aload_n 0 C dX8_bus_44 rfl ?_
      refine v_aload_n 0 C dX8_bus_45 rfl ?_
      refine v_geti C dX8_bus_46 lf_X8_100 ck_8 (by decide) ?_
      refine v_putiL C dX8_bus_49 lp_X8_183 ck_8 (by decide) (fun σ15 => ?_)
      refine v_aload_n 0 C dX8_bus_52 rfl ?_
      refine v_aload_n 0 C dX8_bus_53 rfl ?_
      refine v_geti C dX8_bus_54 lf_X8_103 ck_8 (by decide) ?_
      refine v_putiL C dX8_bus_57 lp_X8_9 ck_8 (by decide) (fun σ16 => ?_)
      refine v_aload_n 0 C dX8_bus_60 rfl ?_
      refine v_iconst C dX8_bus_61 kc_iconst_4 ?_
      refine v_cV1i C dX8_bus_62 lv_X8_189 ck_8 (kX8_no (nI 4) _) (by decide) (Nat.le_of_ble_eq_true rfl) (fun r18 σ17 => ?_)
      exact v_iret C M dX8_bus_65
  · skip
    refine v_iconst C dX8_bus_24 kc_iconst_m1 ?_
    exact v_iret C M dX8_bus_25
end
