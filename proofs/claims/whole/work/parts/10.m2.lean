noncomputable section
-- OpenLinesModel becomesMaster()V, depth 1
def fX8_becomesMaster (σ : St) : Option (Unit × St) :=
  gi (nI 3) 251 <| lt (σ.1 47 0 (nI 3).toNatClampNeg) fun (x1 : Int32) => gi 0 251 <| gi (fX8_at x1 (nI 1)) 251 <| lt ((σ.1 47 0 (0 : Int32).toNatClampNeg) - (σ.1 47 0 (fX8_at x1 (nI 1)).toNatClampNeg)) fun (x2 : Int32) => gi (nI 1) 251 <| lt (wI σ 47 0 (nI 1).toNatClampNeg x1) fun (σ3 : St) => gi 0 251 <| gi (fX8_at x1 0) 251 <| gi (nI 2) 251 <| lt (wI σ3 47 0 (nI 2).toNatClampNeg ((σ3.1 47 0 (0 : Int32).toNatClampNeg) + (σ3.1 47 0 (fX8_at x1 0).toNatClampNeg))) fun (σ4 : St) => gi (nI 3) 251 <| lt (wI σ4 47 0 (nI 3).toNatClampNeg (-2)) fun (σ5 : St) => gi (fX8_at x1 0) 251 <| lt (wI σ5 47 0 (fX8_at x1 0).toNatClampNeg 0) fun (σ6 : St) => gi (fX8_at x1 (nI 6)) 251 <| gi (fX8_at x1 (nI 6)) 251 <| lt (wI σ6 47 0 (fX8_at x1 (nI 6)).toNatClampNeg ((σ6.1 47 0 (fX8_at x1 (nI 6)).toNatClampNeg) + (nI 1))) fun (σ7 : St) => gi (fX8_at x1 (nI 10)) 251 <| (jn (fun (x9 : Int32) (σ8 : St) => gi (fX8_at x1 (nI 10)) 251 <| lt (wI σ8 47 0 (fX8_at x1 (nI 10)).toNatClampNeg x9) fun (σ10 : St) => some ((), σ10)) fun j129 => if x2 ≤ (σ7.1 47 0 (fX8_at x1 (nI 10)).toNatClampNeg) then gi (fX8_at x1 (nI 10)) 251 <| j129 (σ7.1 47 0 (fX8_at x1 (nI 10)).toNatClampNeg) σ7 else j129 x2 σ7)
set_option maxRecDepth 20000 in
theorem kX8_becomesMaster {X : Cx} (σ : St) : Kon X 1 yX8_becomesMaster cX8_becomesMaster 3 none gV [.ref (adr X 8 0)] σ (fX8_becomesMaster σ) := by
  refine konJ (own := RX8) (fun _ => gV) (fun a b => [.ref (a 8 0)]) (by decide +kernel) rfl (fun _ _ => Nat.le_of_ble_eq_true rfl) (fun Y C M => ?_)
  show V Y gV 0 [(0, .ref (adr Y 8 0))] [] σ (fX8_becomesMaster σ)
  unfold fX8_becomesMaster
  refine v_aload_n 0 C dX8_becomesMaster_0 rfl ?_
  refine v_getc C dX8_becomesMaster_1 lf_X8_27 ck_8 rfl ?_
  refine v_iconst C dX8_becomesMaster_4 kc_iconst_3 ?_
  refine v_iaload C dX8_becomesMaster_5 ck_47 (by decide) rfl ?_
  refine v_istore_nL (lv0 := [(0, .ref (adr Y 8 0))]) C dX8_becomesMaster_6 rfl (by decide) rfl (fun x1 => ?_)
  refine v_aload_n 1 C dX8_becomesMaster_7 rfl ?_
  refine v_getc C dX8_becomesMaster_8 lf_X8_27 ck_8 rfl ?_
  refine v_iconst C dX8_becomesMaster_11 kc_iconst_0 ?_
  refine v_iaload C dX8_becomesMaster_12 ck_47 (by decide) rfl ?_
  refine v_aload_n 1 C dX8_becomesMaster_13 rfl ?_
  refine v_getc C dX8_becomesMaster_14 lf_X8_27 ck_8 rfl ?_
  refine v_iload_n 0 C dX8_becomesMaster_17 rfl ?_
  refine v_iconst C dX8_becomesMaster_18 kc_iconst_1 ?_
  refine v_cS2p C dX8_becomesMaster_19 ls_X8_201 (kX8_at x1 (nI 1) _) (by decide) (Nat.le_of_ble_eq_true rfl) ?_
  refine v_iaload C dX8_becomesMaster_22 ck_47 (by decide) rfl ?_
  refine v_isub C dX8_becomesMaster_23 ?_
  refine v_istore_nL (lv0 := [(1, .int x1), (0, .ref (adr Y 8 0))]) C dX8_becomesMaster_24 rfl (by decide) rfl (fun x2 => ?_)
  refine v_aload_n 2 C dX8_becomesMaster_25 rfl ?_
  refine v_getc C dX8_becomesMaster_26 lf_X8_27 ck_8 rfl ?_
  refine v_iconst C dX8_becomesMaster_29 kc_iconst_1 ?_
  refine v_iload_n 1 C dX8_becomesMaster_30 rfl ?_
  refine v_iastoreL C dX8_becomesMaster_31 ck_47 (by decide) rfl (fun σ3 => ?_)
  refine v_aload_n 2 C dX8_becomesMaster_32 rfl ?_
  refine v_getc C dX8_becomesMaster_33 lf_X8_27 ck_8 rfl ?_
  refine v_iconst C dX8_becomesMaster_36 kc_iconst_2 ?_
  refine v_aload_n 2 C dX8_becomesMaster_37 rfl ?_
  refine v_getc C dX8_becomesMaster_38 lf_X8_27 ck_8 rfl ?_
  refine v_iconst C dX8_becomesMaster_41 kc_iconst_0 ?_
  refine v_iaload C dX8_becomesMaster_42 ck_47 (by decide) rfl ?_
  refine v_aload_n 2 C dX8_becomesMaster_43 rfl ?_
  refine v_getc C dX8_becomesMaster_44 lf_X8_27 ck_8 rfl ?_
  refine v_iload_n 1 C dX8_becomesMaster_47 rfl ?_
  refine v_iconst C dX8_becomesMaster_48 kc_iconst_0 ?_
  refine v_cS2p C dX8_becomesMaster_49 ls_X8_201 (kX8_at x1 0 _) (by decide) (Nat.le_of_ble_eq_true rfl) ?_
  refine v_iaload C dX8_becomesMaster_52 ck_47 (by decide) rfl ?_
  refine v_iadd C dX8_becomesMaster_53 ?_
  refine v_iastoreL C dX8_becomesMaster_54 ck_47 (by decide) rfl (fun σ4 => ?_)
  refine v_aload_n 2 C dX8_becomesMaster_55 rfl ?_
  refine v_getc C dX8_becomesMaster_56 lf_X8_27 ck_8 rfl ?_
  refine v_iconst C dX8_becomesMaster_59 kc_iconst_3 ?_
  refine v_bipush C dX8_becomesMaster_60 kc_bipush_m2 ?_
  refine v_iastoreL C dX8_becomesMaster_62 ck_47 (by decide) rfl (fun σ5 => ?_)
  refine v_aload_n 2 C dX8_becomesMaster_63 rfl ?_
  refine v_getc C dX8_becomesMaster_64 lf_X8_27 ck_8 rfl ?_
  refine v_iload_n 1 C dX8_becomesMaster_67 rfl ?_
  refine v_iconst C dX8_becomesMaster_68 kc_iconst_0 ?_
  refine v_cS2p C dX8_becomesMaster_69 ls_X8_201 (kX8_at x1 0 _) (by decide) (Nat.le_of_ble_eq_true rfl) ?_
  refine v_iconst C dX8_becomesMaster_72 kc_iconst_0 ?_
  refine v_iastoreL C dX8_becomesMaster_73 ck_47 (by decide) rfl (fun σ6 => ?_)
  refine v_aload_n 2 C dX8_becomesMaster_74 rfl ?_
  refine v_getc C dX8_becomesMaster_75 lf_X8_27 ck_8 rfl ?_
  refine v_iload_n 1 C dX8_becomesMaster_78 rfl ?_
  refine v_bipush C dX8_becomesMaster_79 kc_bipush_6 ?_
  refine v_cS2p C dX8_becomesMaster_81 ls_X8_201 (kX8_at x1 (nI 6) _) (by decide) (Nat.le_of_ble_eq_true rfl) ?_
  refine v_dup2 C dX8_becomesMaster_84 rfl rfl ?_
  refine v_iaload C dX8_becomesMaster_85 ck_47 (by decide) rfl ?_
  refine v_iconst C dX8_becomesMaster_86 kc_iconst_1 ?_
  refine v_iadd C dX8_becomesMaster_87 ?_
  refine v_iastoreL C dX8_becomesMaster_88 ck_47 (by decide) rfl (fun σ7 => ?_)
  refine v_aload_n 2 C dX8_becomesMaster_89 rfl ?_
  refine v_getc C dX8_becomesMaster_90 lf_X8_27 ck_8 rfl ?_
  refine v_iload_n 1 C dX8_becomesMaster_93 rfl ?_
  refine v_bipush C dX8_becomesMaster_94 kc_bipush_10 ?_
  refine v_cS2p C dX8_becomesMaster_96 ls_X8_201 (kX8_at x1 (nI 10) _) (by decide) (Nat.le_of_ble_eq_true rfl) ?_
  refine v_iload_n 0 C dX8_becomesMaster_99 rfl ?_
  refine v_aload_n 2 C dX8_becomesMaster_100 rfl ?_
  refine v_getc C dX8_becomesMaster_101 lf_X8_27 ck_8 rfl ?_
  refine v_iload_n 1 C dX8_becomesMaster_104 rfl ?_
  refine v_bipush C dX8_becomesMaster_105 kc_bipush_10 ?_
  refine v_cS2p C dX8_becomesMaster_107 ls_X8_201 (kX8_at x1 (nI 10) _) (by decide) (Nat.le_of_ble_eq_true rfl) ?_
  refine v_iaload C dX8_becomesMaster_110 ck_47 (by decide) rfl ?_
  refine v_jn (fun j129 => ∀ (x9 : Int32) (σ8 : St), V Y gV 129 [] [.int x9, .int (fX8_at x1 (nI 10)), .ref (adr Y 47 0)] σ8 (j129 x9 σ8)) ?_ ?_
  · intro x9 σ8
    refine v_iastoreL C dX8_becomesMaster_129 ck_47 (by decide) rfl (fun σ10 => ?_)
    exact v_vret C M dX8_becomesMaster_130
  · intro j129 hj129
    refine v_icmp_le (tgt := 118) C dX8_becomesMaster_111 (by decide) ?_ ?_
    · skip
      refine v_aload_n 2 C dX8_becomesMaster_118 rfl ?_
      refine v_getc C dX8_becomesMaster_119 lf_X8_27 ck_8 rfl ?_
      refine v_iload_n 1 C dX8_becomesMaster_122 rfl ?_
      refine v_bipush C dX8_becomesMaster_123 kc_bipush_10 ?_
      refine v_cS2p C dX8_becomesMaster_125 ls_X8_201 (kX8_at x1 (nI 10) _) (by decide) (Nat.le_of_ble_eq_true rfl) ?_
      refine v_iaload C dX8_becomesMaster_128 ck_47 (by decide) rfl ?_
      exact v_lv (hj129 (σ7.1 47 0 (fX8_at x1 (nI 10)).toNatClampNeg) σ7) [] rfl
    · skip
      refine v_iload_n 0 C dX8_becomesMaster_114 rfl ?_
      refine v_goto (tgt := 129) C dX8_becomesMaster_115 (by decide) ?_
      exact v_lv (hj129 x2 σ7) [] rfl
-- OpenLinesModel isCalledFor()Z, depth 3
def LX8_isCalledFor_28 (a1 : Int32) (ke : St → Option (Int32 × St)) : Nat → Int32 → St → Option (Int32 × St)
  | 0, _, _ => none
  | n + 1, b2, σ => gi (nI 3) 59 <| (if (σ.1 44 0 (nI 3).toNatClampNeg) ≤ b2 then ke σ else (jn (fun (σ3 : St) => LX8_isCalledFor_28 a1 ke n (b2 + nI 1) σ3) fun j66 => if (fX8_has a1 b2) = 0 then j66 σ else bd (fX8_rankOf b2 σ) fun (r5 : Int32) (σ4 : St) => gi (nI 3) 251 <| bd (fX8_rankOf (σ4.1 47 0 (nI 3).toNatClampNeg) σ4) fun (r7 : Int32) (σ6 : St) => (if r5 ≤ r7 then j66 σ6 else some (nI 1, σ6))))
def fX8_isCalledFor (σ : St) : Option (Int32 × St) :=
  bd (fX8_askingOnes σ) fun (r2 : Int32) (σ1 : St) => gi (nI 3) 251 <| (if (σ1.1 47 0 (nI 3).toNatClampNeg) = (-2) then rz (if r2 = 0 then 0 else (nI 1)) σ1 else (LX8_isCalledFor_28 r2 (fun (σ8 : St) => some (0, σ8)) FU 0 σ1))
set_option maxRecDepth 20000 in
theorem vLX8_isCalledFor_28 {Y : Cx} (a1 : Int32) (C : Ok Y RX8 cX8_isCalledFor 3 3) (M : OkM Y (some .boolean)) (ke : St → Option (Int32 × St)) (hke : ∀ (σ : St), V Y gI 72 [] [] σ (ke σ)) : ∀ (n : Nat) (b2 : Int32) (σ : St), V Y gI 28 [(0, .ref (adr Y 8 0)), (1, .int a1), (2, .int b2)] [] σ (LX8_isCalledFor_28 a1 ke n b2 σ) := by
  intro n
  induction n with
  | zero => intros; exact v_none
  | succ n ih =>
    intro b2 σ
    rw [LX8_isCalledFor_28]
    refine v_iload_n 2 C dX8_isCalledFor_28 rfl ?_
    refine v_aload_n 0 C dX8_isCalledFor_29 rfl ?_
    refine v_getc C dX8_isCalledFor_30 lf_X8_17 ck_8 rfl ?_
    refine v_iconst C dX8_isCalledFor_33 kc_iconst_3 ?_
    refine v_iaload C dX8_isCalledFor_34 ck_44 (by decide) rfl ?_
    refine v_icmp_ge (tgt := 72) C dX8_isCalledFor_35 (by decide) ?_ ?_
    · skip
      exact v_lv (hke σ) [] rfl
    · skip
      refine v_iload_n 1 C dX8_isCalledFor_38 rfl ?_
      refine v_iload_n 2 C dX8_isCalledFor_39 rfl ?_
      refine v_cS2p C dX8_isCalledFor_40 ls_X8_221 (kX8_has a1 b2 _) (by decide) (Nat.le_of_ble_eq_true rfl) ?_
      refine v_jn (fun j66 => ∀ (σ3 : St), V Y gI 66 [(0, .ref (adr Y 8 0)), (1, .int a1), (2, .int b2)] [] σ3 (j66 σ3)) ?_ ?_
      · intro σ3
        refine v_iinc (lv' := [(2, .int (b2 + nI 1)), (0, .ref (adr Y 8 0)), (1, .int a1)]) 2 C dX8_isCalledFor_66 rfl (congrArg (b2 + ·) kc_iconst_1) (by decide) rfl ?_
        refine v_goto (tgt := 28) C dX8_isCalledFor_69 (by decide) ?_
        exact v_lv (ih (b2 + nI 1) σ3) [1, 2, 0] rfl
      · intro j66 hj66
        refine v_if_eq (tgt := 66) C dX8_isCalledFor_43 (by decide) ?_ ?_
        · skip
          exact v_lv (hj66 σ) [0, 1, 2] rfl
        · skip
          refine v_aload_n 0 C dX8_isCalledFor_46 rfl ?_
          refine v_iload_n 2 C dX8_isCalledFor_47 rfl ?_
          refine v_cV1i C dX8_isCalledFor_48 lv_X8_212 ck_8 (kX8_rankOf b2 _) (by decide) (Nat.le_of_ble_eq_true rfl) (fun r5 σ4 => ?_)
          refine v_aload_n 0 C dX8_isCalledFor_51 rfl ?_
          refine v_aload_n 0 C dX8_isCalledFor_52 rfl ?_
          refine v_getc C dX8_isCalledFor_53 lf_X8_27 ck_8 rfl ?_
          refine v_iconst C dX8_isCalledFor_56 kc_iconst_3 ?_
          refine v_iaload C dX8_isCalledFor_57 ck_47 (by decide) rfl ?_
          refine v_cV1i C dX8_isCalledFor_58 lv_X8_212 ck_8 (kX8_rankOf (σ4.1 47 0 (nI 3).toNatClampNeg) _) (by decide) (Nat.le_of_ble_eq_true rfl) (fun r7 σ6 => ?_)
          refine v_icmp_le (tgt := 66) C dX8_isCalledFor_61 (by decide) ?_ ?_
          · skip
            exact v_lv (hj66 σ6) [0, 1, 2] rfl
          · skip
            refine v_iconst C dX8_isCalledFor_64 kc_iconst_1 ?_
            exact v_zret C M (by decide) dX8_isCalledFor_65
set_option maxRecDepth 20000 in
theorem kX8_isCalledFor {X : Cx} (σ : St) : Kon X 3 yX8_isCalledFor cX8_isCalledFor 3 (some .boolean) gI [.ref (adr X 8 0)] σ (fX8_isCalledFor σ) := by
  refine konJ (own := RX8) (fun _ => gI) (fun a b => [.ref (a 8 0)]) (by decide +kernel) rfl (fun _ _ => Nat.le_of_ble_eq_true rfl) (fun Y C M => ?_)
  show V Y gI 0 [(0, .ref (adr Y 8 0))] [] σ (fX8_isCalledFor σ)
  unfold fX8_isCalledFor
  refine v_aload_n 0 C dX8_isCalledFor_0 rfl ?_
  refine v_cV0i C dX8_isCalledFor_1 lv_X8_300 ck_8 (kX8_askingOnes _) (by decide) (Nat.le_of_ble_eq_true rfl) (fun r2 σ1 => ?_)
  refine v_istore_n (lv' := [(1, .int r2), (0, .ref (adr Y 8 0))]) C dX8_isCalledFor_4 rfl (by decide) rfl ?_
  refine v_aload_n 1 C dX8_isCalledFor_5 rfl ?_
  refine v_getc C dX8_isCalledFor_6 lf_X8_27 ck_8 rfl ?_
  refine v_iconst C dX8_isCalledFor_9 kc_iconst_3 ?_
  refine v_iaload C dX8_isCalledFor_10 ck_47 (by decide) rfl ?_
  refine v_bipush C dX8_isCalledFor_11 kc_bipush_m2 ?_
  refine v_icmp_ne (tgt := 26) C dX8_isCalledFor_13 (by decide) ?_ ?_
  · skip
    refine v_iconst C dX8_isCalledFor_26 kc_iconst_0 ?_
    refine v_istore_n (lv' := [(2, .int 0), (1, .int r2), (0, .ref (adr Y 8 0))]) C dX8_isCalledFor_27 rfl (by decide) rfl ?_
    refine v_lv (vLX8_isCalledFor_28 _ C M _ (fun σ8 => ?_) FU _ _) [2, 1, 0] rfl
    refine v_iconst C dX8_isCalledFor_72 kc_iconst_0 ?_
    exact v_zret C M (by decide) dX8_isCalledFor_73
  · skip
    refine v_iload_n 0 C dX8_isCalledFor_16 rfl ?_
    refine v_cut (pcJ := 25) (lv := [(1, .int r2), (0, .ref (adr Y 8 0))]) (st := .int (if r2 = 0 then 0 else (nI 1)) :: []) ?_ (fun hj9 => ?_)
    rotate_left
    · skip
      refine v_if_eq_b (tgt := 24) C dX8_isCalledFor_17 (by decide) (fun h10 => ?_) (fun h10 => ?_)
      · have hj11 := v_jpos h10 hj9
        refine v_iconst C dX8_isCalledFor_24 kc_iconst_0 ?_
        exact hj11
      · have hj11 := v_jneg h10 hj9
        refine v_iconst C dX8_isCalledFor_20 kc_iconst_1 ?_
        refine v_goto (tgt := 25) C dX8_isCalledFor_21 (by decide) ?_
        exact hj11
    exact v_zretg C M dX8_isCalledFor_25
-- OpenLinesModel tick()V, depth 6
def LX8_tick_10 (ke : St → Option (Unit × St)) : Nat → St → Option (Unit × St)
  | 0, _ => none
  | n + 1, σ => gi (nI 11) 251 <| gi (nI 4) 59 <| (if (σ.1 44 0 (nI 4).toNatClampNeg) ≤ (σ.1 47 0 (nI 11).toNatClampNeg) then ke σ else gi (nI 11) 251 <| gi ((nI 23) + (σ.1 47 0 (nI 11).toNatClampNeg)) 59 <| gi 0 251 <| (if (σ.1 44 0 ((nI 23) + (σ.1 47 0 (nI 11).toNatClampNeg)).toNatClampNeg) = (σ.1 47 0 (0 : Int32).toNatClampNeg) then gi (nI 11) 251 <| lt (σ.1 47 0 (nI 11).toNatClampNeg) fun (x2 : Int32) => gi (nI 11) 251 <| gi (nI 11) 251 <| lt (wI σ 47 0 (nI 11).toNatClampNeg ((σ.1 47 0 (nI 11).toNatClampNeg) + (nI 1))) fun (σ3 : St) => gi ((nI 35) + x2) 59 <| gi ((nI 47) + x2) 59 <| bd (fX8_asks (σ3.1 44 0 ((nI 35) + x2).toNatClampNeg) (σ3.1 44 0 ((nI 47) + x2).toNatClampNeg) σ3) fun (r5 : Int32) (σ4 : St) => LX8_tick_10 ke n σ4 else ke σ))
def fX8_tick (σ : St) : Option (Unit × St) :=
  gi 0 251 <| gi 0 251 <| lt (wI σ 47 0 (0 : Int32).toNatClampNeg ((σ.1 47 0 (0 : Int32).toNatClampNeg) + (nI 1))) fun (σ1 : St) => (LX8_tick_10 (fun (σ6 : St) => gi (nI 1) 251 <| (jn (fun (σ7 : St) => gi (nI 4) 251 <| gi 0 251 <| (jn (fun (σ8 : St) => gi (nI 1) 251 <| (jn (fun (σ9 : St) => gi (nI 4) 251 <| (jn (fun (σ10 : St) => gi (nI 1) 251 <| (jn (fun (σ11 : St) => gi 0 251 <| gi (nI 1) 251 <| gi ((nI 187) + ((σ11.1 47 0 (0 : Int32).toNatClampNeg) - (σ11.1 47 0 (0 : Int32).toNatClampNeg) / (nI 64) * (nI 64))) 251 <| lt (wI σ11 47 0 ((nI 187) + ((σ11.1 47 0 (0 : Int32).toNatClampNeg) - (σ11.1 47 0 (0 : Int32).toNatClampNeg) / (nI 64) * (nI 64))).toNatClampNeg (σ11.1 47 0 (nI 1).toNatClampNeg)) fun (σ12 : St) => some ((), σ12)) fun j246 => if (σ10.1 47 0 (nI 1).toNatClampNeg) = (-2) then j246 σ10 else gi (nI 1) 251 <| gi (fX8_at (σ10.1 47 0 (nI 1).toNatClampNeg) (nI 7)) 251 <| gi (fX8_at (σ10.1 47 0 (nI 1).toNatClampNeg) (nI 7)) 251 <| lt (wI σ10 47 0 (fX8_at (σ10.1 47 0 (nI 1).toNatClampNeg) (nI 7)).toNatClampNeg ((σ10.1 47 0 (fX8_at (σ10.1 47 0 (nI 1).toNatClampNeg) (nI 7)).toNatClampNeg) + (nI 1))) fun (σ13 : St) => j246 σ13)) fun j215 => if (σ9.1 47 0 (nI 4).toNatClampNeg) = (-2) then bd (fX8_isCalledFor σ9) fun (r15 : Int32) (σ14 : St) => (if r15 = 0 then j215 σ14 else bd (fX8_beginsArbitration σ14) fun _ (σ16 : St) => j215 σ16) else j215 σ9)) fun j193 => if (σ8.1 47 0 (nI 1).toNatClampNeg) = (-2) then gi (nI 3) 251 <| (if (σ8.1 47 0 (nI 3).toNatClampNeg) = (-2) then j193 σ8 else gi (nI 4) 251 <| (if (σ8.1 47 0 (nI 4).toNatClampNeg) = (-2) then bd (fX8_becomesMaster σ8) fun _ (σ17 : St) => j193 σ17 else j193 σ8)) else j193 σ8)) fun j156 => if (σ7.1 47 0 (nI 4).toNatClampNeg) = (σ7.1 47 0 (0 : Int32).toNatClampNeg) then bd (fX8_endsArbitration σ7) fun _ (σ18 : St) => j156 σ18 else j156 σ7)) fun j137 => if (σ6.1 47 0 (nI 1).toNatClampNeg) = (-2) then j137 σ6 else gi (nI 2) 251 <| gi 0 251 <| (if (σ6.1 47 0 (nI 2).toNatClampNeg) = (σ6.1 47 0 (0 : Int32).toNatClampNeg) then gi (nI 1) 251 <| lt (wI σ6 47 0 (nI 1).toNatClampNeg (-2)) fun (σ19 : St) => gi (nI 2) 251 <| lt (wI σ19 47 0 (nI 2).toNatClampNeg (-2)) fun (σ20 : St) => j137 σ20 else j137 σ6))) FU σ1)
set_option maxRecDepth 20000 in
theorem vLX8_tick_10 {Y : Cx} (C : Ok Y RX8 cX8_tick 3 6) (M : OkM Y none) (ke : St → Option (Unit × St)) (hke : ∀ (σ : St), V Y gV 95 [(0, .ref (adr Y 8 0))] [] σ (ke σ)) : ∀ (n : Nat) (σ : St), V Y gV 10 [(0, .ref (adr Y 8 0))] [] σ (LX8_tick_10 ke n σ) := by
  intro n
  induction n with
  | zero => intros; exact v_none
  | succ n ih =>
    intro σ
    rw [LX8_tick_10]
    refine v_aload_n 0 C dX8_tick_10 rfl ?_
    refine v_getc C dX8_tick_11 lf_X8_27 ck_8 rfl ?_
    refine v_bipush C dX8_tick_14 kc_bipush_11 ?_
    refine v_iaload C dX8_tick_16 ck_47 (by decide) rfl ?_
    refine v_aload_n 0 C dX8_tick_17 rfl ?_
    refine v_getc C dX8_tick_18 lf_X8_17 ck_8 rfl ?_
    refine v_iconst C dX8_tick_21 kc_iconst_4 ?_
    refine v_iaload C dX8_tick_22 ck_44 (by decide) rfl ?_
    refine v_icmp_ge (tgt := 95) C dX8_tick_23 (by decide) ?_ ?_
    · skip
      exact v_lv (hke σ) [0] rfl
    · skip
      refine v_aload_n 0 C dX8_tick_26 rfl ?_
      refine v_getc C dX8_tick_27 lf_X8_17 ck_8 rfl ?_
      refine v_bipush C dX8_tick_30 kc_bipush_23 ?_
      refine v_aload_n 0 C dX8_tick_32 rfl ?_
      refine v_getc C dX8_tick_33 lf_X8_27 ck_8 rfl ?_
      refine v_bipush C dX8_tick_36 kc_bipush_11 ?_
      refine v_iaload C dX8_tick_38 ck_47 (by decide) rfl ?_
      refine v_iadd C dX8_tick_39 ?_
      refine v_iaload C dX8_tick_40 ck_44 (by decide) rfl ?_
      refine v_aload_n 0 C dX8_tick_41 rfl ?_
      refine v_getc C dX8_tick_42 lf_X8_27 ck_8 rfl ?_
      refine v_iconst C dX8_tick_45 kc_iconst_0 ?_
      refine v_iaload C dX8_tick_46 ck_47 (by decide) rfl ?_
      refine v_icmp_ne (tgt := 95) C dX8_tick_47 (by decide) ?_ ?_
      · skip
        exact v_lv (hke σ) [0] rfl
      · skip
        refine v_aload_n 0 C dX8_tick_50 rfl ?_
        refine v_getc C dX8_tick_51 lf_X8_27 ck_8 rfl ?_
        refine v_bipush C dX8_tick_54 kc_bipush_11 ?_
        refine v_iaload C dX8_tick_56 ck_47 (by decide) rfl ?_
        refine v_istore_nL (lv0 := [(0, .ref (adr Y 8 0))]) C dX8_tick_57 rfl (by decide) rfl (fun x2 => ?_)
        refine v_aload_n 1 C dX8_tick_58 rfl ?_
        refine v_getc C dX8_tick_59 lf_X8_27 ck_8 rfl ?_
        refine v_bipush C dX8_tick_62 kc_bipush_11 ?_
        refine v_dup2 C dX8_tick_64 rfl rfl ?_
        refine v_iaload C dX8_tick_65 ck_47 (by decide) rfl ?_
        refine v_iconst C dX8_tick_66 kc_iconst_1 ?_
        refine v_iadd C dX8_tick_67 ?_
        refine v_iastoreL C dX8_tick_68 ck_47 (by decide) rfl (fun σ3 => ?_)
        refine v_aload_n 1 C dX8_tick_69 rfl ?_
        refine v_aload_n 1 C dX8_tick_70 rfl ?_
        refine v_getc C dX8_tick_71 lf_X8_17 ck_8 rfl ?_
        refine v_bipush C dX8_tick_74 kc_bipush_35 ?_
        refine v_iload_n 0 C dX8_tick_76 rfl ?_
        refine v_iadd C dX8_tick_77 ?_
        refine v_iaload C dX8_tick_78 ck_44 (by decide) rfl ?_
        refine v_aload_n 1 C dX8_tick_79 rfl ?_
        refine v_getc C dX8_tick_80 lf_X8_17 ck_8 rfl ?_
        refine v_bipush C dX8_tick_83 kc_bipush_47 ?_
        refine v_iload_n 0 C dX8_tick_85 rfl ?_
        refine v_iadd C dX8_tick_86 ?_
        refine v_iaload C dX8_tick_87 ck_44 (by decide) rfl ?_
        refine v_cV2i C dX8_tick_88 lv_X8_309 ck_8 (kX8_asks (σ3.1 44 0 ((nI 35) + x2).toNatClampNeg) (σ3.1 44 0 ((nI 47) + x2).toNatClampNeg) _) (by decide) (Nat.le_of_ble_eq_true rfl) (fun r5 σ4 => ?_)
        refine v_istore_n (lv' := [(2, .int r5), (1, .int x2), (0, .ref (adr Y 8 0))]) C dX8_tick_91 rfl (by decide) rfl ?_
        refine v_goto (tgt := 10) C dX8_tick_92 (by decide) ?_
        exact v_lv (ih σ4) [2] rfl
set_option maxRecDepth 20000 in
theorem kX8_tick {X : Cx} (σ : St) : Kon X 6 yX8_tick cX8_tick 3 none gV [.ref (adr X 8 0)] σ (fX8_tick σ) := by
  refine konJ (own := RX8) (fun _ => gV) (fun a b => [.ref (a 8 0)]) (by decide +kernel) rfl (fun _ _ => Nat.le_of_ble_eq_true rfl) (fun Y C M => ?_)
  show V Y gV 0 [(0, .ref (adr Y 8 0))] [] σ (fX8_tick σ)
  unfold fX8_tick
  refine v_aload_n 0 C dX8_tick_0 rfl ?_
  refine v_getc C dX8_tick_1 lf_X8_27 ck_8 rfl ?_
  refine v_iconst C dX8_tick_4 kc_iconst_0 ?_
  refine v_dup2 C dX8_tick_5 rfl rfl ?_
  refine v_iaload C dX8_tick_6 ck_47 (by decide) rfl ?_
  refine v_iconst C dX8_tick_7 kc_iconst_1 ?_
  refine v_iadd C dX8_tick_8 ?_
  refine v_iastoreL C dX8_tick_9 ck_47 (by decide) rfl (fun σ1 => ?_)
  refine v_lv (vLX8_tick_10 C M _ (fun σ6 => ?_) FU _) [0] rfl
  refine v_aload_n 0 C dX8_tick_95 rfl ?_
  refine v_getc C dX8_tick_96 lf_X8_27 ck_8 rfl ?_
  refine v_iconst C dX8_tick_99 kc_iconst_1 ?_
  refine v_iaload C dX8_tick_100 ck_47 (by decide) rfl ?_
  refine v_bipush C dX8_tick_101 kc_bipush_m2 ?_
  refine v_jn (fun j137 => ∀ (σ7 : St), V Y gV 137 [(0, .ref (adr Y 8 0))] [] σ7 (j137 σ7)) ?_ ?_
  · intro σ7
    refine v_aload_n 0 C dX8_tick_137 rfl ?_
    refine v_getc C dX8_tick_138 lf_X8_27 ck_8 rfl ?_
    refine v_iconst C dX8_tick_141 kc_iconst_4 ?_
    refine v_iaload C dX8_tick_142 ck_47 (by decide) rfl ?_
    refine v_aload_n 0 C dX8_tick_143 rfl ?_
    refine v_getc C dX8_tick_144 lf_X8_27 ck_8 rfl ?_
    refine v_iconst C dX8_tick_147 kc_iconst_0 ?_
    refine v_iaload C dX8_tick_148 ck_47 (by decide) rfl ?_
    refine v_jn (fun j156 => ∀ (σ8 : St), V Y gV 156 [(0, .ref (adr Y 8 0))] [] σ8 (j156 σ8)) ?_ ?_
    · intro σ8
      refine v_aload_n 0 C dX8_tick_156 rfl ?_
      refine v_getc C dX8_tick_157 lf_X8_27 ck_8 rfl ?_
      refine v_iconst C dX8_tick_160 kc_iconst_1 ?_
      refine v_iaload C dX8_tick_161 ck_47 (by decide) rfl ?_
      refine v_bipush C dX8_tick_162 kc_bipush_m2 ?_
      refine v_jn (fun j193 => ∀ (σ9 : St), V Y gV 193 [(0, .ref (adr Y 8 0))] [] σ9 (j193 σ9)) ?_ ?_
      · intro σ9
        refine v_aload_n 0 C dX8_tick_193 rfl ?_
        refine v_getc C dX8_tick_194 lf_X8_27 ck_8 rfl ?_
        refine v_iconst C dX8_tick_197 kc_iconst_4 ?_
        refine v_iaload C dX8_tick_198 ck_47 (by decide) rfl ?_
        refine v_bipush C dX8_tick_199 kc_bipush_m2 ?_
        refine v_jn (fun j215 => ∀ (σ10 : St), V Y gV 215 [(0, .ref (adr Y 8 0))] [] σ10 (j215 σ10)) ?_ ?_
        · intro σ10
          refine v_aload_n 0 C dX8_tick_215 rfl ?_
          refine v_getc C dX8_tick_216 lf_X8_27 ck_8 rfl ?_
          refine v_iconst C dX8_tick_219 kc_iconst_1 ?_
          refine v_iaload C dX8_tick_220 ck_47 (by decide) rfl ?_
          refine v_bipush C dX8_tick_221 kc_bipush_m2 ?_
          refine v_jn (fun j246 => ∀ (σ11 : St), V Y gV 246 [(0, .ref (adr Y 8 0))] [] σ11 (j246 σ11)) ?_ ?_
          · intro σ11
            refine v_aload_n 0 C dX8_tick_246 rfl ?_
            refine v_getc C dX8_tick_247 lf_X8_27 ck_8 rfl ?_
            refine v_sipush C dX8_tick_250 kc_sipush_187 ?_
            refine v_aload_n 0 C dX8_tick_253 rfl ?_
            refine v_getc C dX8_tick_254 lf_X8_27 ck_8 rfl ?_
            refine v_iconst C dX8_tick_257 kc_iconst_0 ?_
            refine v_iaload C dX8_tick_258 ck_47 (by decide) rfl ?_
            refine v_bipush C dX8_tick_259 kc_bipush_64 ?_
            refine v_irem C dX8_tick_261 (by decide) ?_
            refine v_iadd C dX8_tick_262 ?_
            refine v_aload_n 0 C dX8_tick_263 rfl ?_
            refine v_getc C dX8_tick_264 lf_X8_27 ck_8 rfl ?_
            refine v_iconst C dX8_tick_267 kc_iconst_1 ?_
            refine v_iaload C dX8_tick_268 ck_47 (by decide) rfl ?_
            refine v_iastoreL C dX8_tick_269 ck_47 (by decide) rfl (fun σ12 => ?_)
            exact v_vret C M dX8_tick_270
          · intro j246 hj246
            refine v_icmp_eq (tgt := 246) C dX8_tick_223 (by decide) ?_ ?_
            · skip
              exact v_lv (hj246 σ10) [0] rfl
            · skip
              refine v_aload_n 0 C dX8_tick_226 rfl ?_
              refine v_getc C dX8_tick_227 lf_X8_27 ck_8 rfl ?_
              refine v_aload_n 0 C dX8_tick_230 rfl ?_
              refine v_getc C dX8_tick_231 lf_X8_27 ck_8 rfl ?_
              refine v_iconst C dX8_tick_234 kc_iconst_1 ?_
              refine v_iaload C dX8_tick_235 ck_47 (by decide) rfl ?_
              refine v_bipush C dX8_tick_236 kc_bipush_7 ?_
              refine v_cS2p C dX8_tick_238 ls_X8_201 (kX8_at (σ10.1 47 0 (nI 1).toNatClampNeg) (nI 7) _) (by decide) (Nat.le_of_ble_eq_true rfl) ?_
              refine v_dup2 C dX8_tick_241 rfl rfl ?_
              refine v_iaload C dX8_tick_242 ck_47 (by decide) rfl ?_
              refine v_iconst C dX8_tick_243 kc_iconst_1 ?_
              refine v_iadd C dX8_tick_244 ?_
              refine v_iastoreL C dX8_tick_245 ck_47 (by decide) rfl (fun σ13 => ?_)
              exact v_lv (hj246 σ13) [0] rfl
        · intro j215 hj215
          refine v_icmp_ne (tgt := 215) C dX8_tick_201 (by decide) ?_ ?_
          · skip
            exact v_lv (hj215 σ9) [0] rfl
          · skip
            refine v_aload_n 0 C dX8_tick_204 rfl ?_
            refine v_cV0i C dX8_tick_205 lv_X8_318 ck_8 (kX8_isCalledFor _) (by decide) (Nat.le_of_ble_eq_true rfl) (fun r15 σ14 => ?_)
            refine v_if_eq (tgt := 215) C dX8_tick_208 (by decide) ?_ ?_
            · skip
              exact v_lv (hj215 σ14) [0] rfl
            · skip
              refine v_aload_n 0 C dX8_tick_211 rfl ?_
              refine v_cV0v C dX8_tick_212 lv_X8_321 ck_8 (kX8_beginsArbitration _) (by decide) (Nat.le_of_ble_eq_true rfl) (fun _ σ16 => ?_)
              exact v_lv (hj215 σ16) [0] rfl
      · intro j193 hj193
        refine v_icmp_ne (tgt := 193) C dX8_tick_164 (by decide) ?_ ?_
        · skip
          exact v_lv (hj193 σ8) [0] rfl
        · skip
          refine v_aload_n 0 C dX8_tick_167 rfl ?_
          refine v_getc C dX8_tick_168 lf_X8_27 ck_8 rfl ?_
          refine v_iconst C dX8_tick_171 kc_iconst_3 ?_
          refine v_iaload C dX8_tick_172 ck_47 (by decide) rfl ?_
          refine v_bipush C dX8_tick_173 kc_bipush_m2 ?_
          refine v_icmp_eq (tgt := 193) C dX8_tick_175 (by decide) ?_ ?_
          · skip
            exact v_lv (hj193 σ8) [0] rfl
          · skip
            refine v_aload_n 0 C dX8_tick_178 rfl ?_
            refine v_getc C dX8_tick_179 lf_X8_27 ck_8 rfl ?_
            refine v_iconst C dX8_tick_182 kc_iconst_4 ?_
            refine v_iaload C dX8_tick_183 ck_47 (by decide) rfl ?_
            refine v_bipush C dX8_tick_184 kc_bipush_m2 ?_
            refine v_icmp_ne (tgt := 193) C dX8_tick_186 (by decide) ?_ ?_
            · skip
              exact v_lv (hj193 σ8) [0] rfl
            · skip
              refine v_aload_n 0 C dX8_tick_189 rfl ?_
              refine v_cV0v C dX8_tick_190 lv_X8_315 ck_8 (kX8_becomesMaster _) (by decide) (Nat.le_of_ble_eq_true rfl) (fun _ σ17 => ?_)
              exact v_lv (hj193 σ17) [0] rfl
    · intro j156 hj156
      refine v_icmp_ne (tgt := 156) C dX8_tick_149 (by decide) ?_ ?_
      · skip
        exact v_lv (hj156 σ7) [0] rfl
      · skip
        refine v_aload_n 0 C dX8_tick_152 rfl ?_
        refine v_cV0v C dX8_tick_153 lv_X8_312 ck_8 (kX8_endsArbitration _) (by decide) (Nat.le_of_ble_eq_true rfl) (fun _ σ18 => ?_)
        exact v_lv (hj156 σ18) [0] rfl
  · intro j137 hj137
    refine v_icmp_eq (tgt := 137) C dX8_tick_103 (by decide) ?_ ?_
    · skip
      exact v_lv (hj137 σ6) [0] rfl
    · skip
      refine v_aload_n 0 C dX8_tick_106 rfl ?_
      refine v_getc C dX8_tick_107 lf_X8_27 ck_8 rfl ?_
      refine v_iconst C dX8_tick_110 kc_iconst_2 ?_
      refine v_iaload C dX8_tick_111 ck_47 (by decide) rfl ?_
      refine v_aload_n 0 C dX8_tick_112 rfl ?_
      refine v_getc C dX8_tick_113 lf_X8_27 ck_8 rfl ?_
      refine v_iconst C dX8_tick_116 kc_iconst_0 ?_
      refine v_iaload C dX8_tick_117 ck_47 (by decide) rfl ?_
      refine v_icmp_ne (tgt := 137) C dX8_tick_118 (by decide) ?_ ?_
      · skip
        exact v_lv (hj137 σ6) [0] rfl
      · skip
        refine v_aload_n 0 C dX8_tick_121 rfl ?_
        refine v_getc C dX8_tick_122 lf_X8_27 ck_8 rfl ?_
        refine v_iconst C dX8_tick_125 kc_iconst_1 ?_
        refine v_bipush C dX8_tick_126 kc_bipush_m2 ?_
        refine v_iastoreL C dX8_tick_128 ck_47 (by decide) rfl (fun σ19 => ?_)
        refine v_aload_n 0 C dX8_tick_129 rfl ?_
        refine v_getc C dX8_tick_130 lf_X8_27 ck_8 rfl ?_
        refine v_iconst C dX8_tick_133 kc_iconst_2 ?_
        refine v_bipush C dX8_tick_134 kc_bipush_m2 ?_
        refine v_iastoreL C dX8_tick_136 ck_47 (by decide) rfl (fun σ20 => ?_)
        exact v_lv (hj137 σ20) [0] rfl
-- OpenLinesModel told(I)I, depth 2
def fX8_told (p1 : Int32) (σ : St) : Option (Int32 × St) :=
  (if p1 = 0 then gi (nI 1) 251 <| some (σ.1 47 0 (nI 1).toNatClampNeg, σ) else if p1 = nI 1 then gi (nI 2) 251 <| some (σ.1 47 0 (nI 2).toNatClampNeg, σ) else if p1 = nI 2 then gi (nI 3) 251 <| some (σ.1 47 0 (nI 3).toNatClampNeg, σ) else if p1 = nI 3 then gi (nI 4) 251 <| some (σ.1 47 0 (nI 4).toNatClampNeg, σ) else if p1 = nI 4 then gi (nI 5) 251 <| some (σ.1 47 0 (nI 5).toNatClampNeg, σ) else if p1 = nI 5 then bd (fX8_askingOnes σ) fun (r8 : Int32) (σ7 : St) => some (r8, σ7) else gi (((nI 6) + p1) - (nI 6)) 251 <| some (σ.1 47 0 (((nI 6) + p1) - (nI 6)).toNatClampNeg, σ))
set_option maxRecDepth 20000 in
theorem kX8_told {X : Cx} (p1 : Int32) (σ : St) : Kon X 2 yX8_told cX8_told 2 (some .int) gI [.ref (adr X 8 0), .int p1] σ (fX8_told p1 σ) := by
  refine konJ (own := RX8) (fun _ => gI) (fun a b => [.ref (a 8 0), .int p1]) (by decide +kernel) rfl (fun _ _ => Nat.le_of_ble_eq_true rfl) (fun Y C M => ?_)
  show V Y gI 0 [(0, .ref (adr Y 8 0)), (1, .int p1)] [] σ (fX8_told p1 σ)
  unfold fX8_told
  refine v_iload_n 1 C dX8_told_0 rfl ?_
  refine v_swK (k := 0) (tgt := 40) C dX8_told_1 (by decide) rfl (by decide) ?_ (fun h1 => ?_)
  · skip
    refine v_aload_n 0 C dX8_told_40 rfl ?_
    refine v_getc C dX8_told_41 lf_X8_27 ck_8 rfl ?_
    refine v_iconst C dX8_told_44 kc_iconst_1 ?_
    refine v_iaload C dX8_told_45 ck_47 (by decide) rfl ?_
    exact v_iret C M dX8_told_46
  refine v_swK (k := nI 1) (tgt := 47) C dX8_told_1 (by decide) rfl (by decide) ?_ (fun h2 => ?_)
  · skip
    refine v_aload_n 0 C dX8_told_47 rfl ?_
    refine v_getc C dX8_told_48 lf_X8_27 ck_8 rfl ?_
    refine v_iconst C dX8_told_51 kc_iconst_2 ?_
    refine v_iaload C dX8_told_52 ck_47 (by decide) rfl ?_
    exact v_iret C M dX8_told_53
  refine v_swK (k := nI 2) (tgt := 54) C dX8_told_1 (by decide) rfl (by decide) ?_ (fun h3 => ?_)
  · skip
    refine v_aload_n 0 C dX8_told_54 rfl ?_
    refine v_getc C dX8_told_55 lf_X8_27 ck_8 rfl ?_
    refine v_iconst C dX8_told_58 kc_iconst_3 ?_
    refine v_iaload C dX8_told_59 ck_47 (by decide) rfl ?_
    exact v_iret C M dX8_told_60
  refine v_swK (k := nI 3) (tgt := 61) C dX8_told_1 (by decide) rfl (by decide) ?_ (fun h4 => ?_)
  · skip
    refine v_aload_n 0 C dX8_told_61 rfl ?_
    refine v_getc C dX8_told_62 lf_X8_27 ck_8 rfl ?_
    refine v_iconst C dX8_told_65 kc_iconst_4 ?_
    refine v_iaload C dX8_told_66 ck_47 (by decide) rfl ?_
    exact v_iret C M dX8_told_67
  refine v_swK (k := nI 4) (tgt := 68) C dX8_told_1 (by decide) rfl (by decide) ?_ (fun h5 => ?_)
  · skip
    refine v_aload_n 0 C dX8_told_68 rfl ?_
    refine v_getc C dX8_told_69 lf_X8_27 ck_8 rfl ?_
    refine v_iconst C dX8_told_72 kc_iconst_5 ?_
    refine v_iaload C dX8_told_73 ck_47 (by decide) rfl ?_
    exact v_iret C M dX8_told_74
  refine v_swK (k := nI 5) (tgt := 75) C dX8_told_1 (by decide) rfl (by decide) ?_ (fun h6 => ?_)
  · skip
    refine v_aload_n 0 C dX8_told_75 rfl ?_
    refine v_cV0i C dX8_told_76 lv_X8_300 ck_8 (kX8_askingOnes _) (by decide) (Nat.le_of_ble_eq_true rfl) (fun r8 σ7 => ?_)
    exact v_iret C M dX8_told_79
  refine v_swOut (tgt := 80) C dX8_told_1 (by have qh1 := lv_neT (a := 0) h1 (by decide); have qh2 := lv_neT (a := 1) h2 (by decide); have qh3 := lv_neT (a := 2) h3 (by decide); have qh4 := lv_neT (a := 3) h4 (by decide); have qh5 := lv_neT (a := 4) h5 (by decide); have qh6 := lv_neT (a := 5) h6 (by decide); omega) (by decide) ?_
  refine v_aload_n 0 C dX8_told_80 rfl ?_
  refine v_getc C dX8_told_81 lf_X8_27 ck_8 rfl ?_
  refine v_bipush C dX8_told_84 kc_bipush_6 ?_
  refine v_iload_n 1 C dX8_told_86 rfl ?_
  refine v_iadd C dX8_told_87 ?_
  refine v_bipush C dX8_told_88 kc_bipush_6 ?_
  refine v_isub C dX8_told_90 ?_
  refine v_iaload C dX8_told_91 ck_47 (by decide) rfl ?_
  exact v_iret C M dX8_told_92
-- OpenLinesModel now(I)I, depth 3
def fX8_now (p1 : Int32) (σ : St) : Option (Int32 × St) :=
  bd (fX8_isRefused (fX8_unless (if (σ.1 8 0 9) = 0 then 0 else (if (fX8_in p1 0 (nI 10)) = 0 then 0 else (nI 1)))) σ) fun (r7 : Int32) (σ6 : St) => (if r7 = 0 then bd (fX8_told p1 σ6) fun (r9 : Int32) (σ8 : St) => some (r9, σ8) else some ((-1), σ6))
set_option maxRecDepth 20000 in
theorem kX8_now {X : Cx} (p1 : Int32) (σ : St) : Kon X 3 yX8_now cX8_now 2 (some .int) gI [.ref (adr X 8 0), .int p1] σ (fX8_now p1 σ) := by
  refine konJ (own := RX8) (fun _ => gI) (fun a b => [.ref (a 8 0), .int p1]) (by decide +kernel) rfl (fun _ _ => Nat.le_of_ble_eq_true rfl) (fun Y C M => ?_)
  show V Y gI 0 [(0, .ref (adr Y 8 0)), (1, .int p1)] [] σ (fX8_now p1 σ)
  unfold fX8_now
  refine v_aload_n 0 C dX8_now_0 rfl ?_
  refine v_aload_n 0 C dX8_now_1 rfl ?_
  refine v_geti C dX8_now_2 lf_X8_192 ck_8 (by decide) ?_
  refine v_cut (pcJ := 23) (lv := [(0, .ref (adr Y 8 0)), (1, .int p1)]) (st := .int (if (σ.1 8 0 9) = 0 then 0 else (if (fX8_in p1 0 (nI 10)) = 0 then 0 else (nI 1))) :: [.ref (adr Y 8 0)]) ?_ (fun hj1 => ?_)
  rotate_left
  · skip
    refine v_if_eq_b (tgt := 22) C dX8_now_5 (by decide) (fun h2 => ?_) (fun h2 => ?_)
    · have hj3 := v_jpos h2 hj1
      refine v_iconst C dX8_now_22 kc_iconst_0 ?_
      exact hj3
    · have hj3 := v_jneg h2 hj1
      refine v_iload_n 1 C dX8_now_8 rfl ?_
      refine v_iconst C dX8_now_9 kc_iconst_0 ?_
      refine v_bipush C dX8_now_10 kc_bipush_10 ?_
      refine v_cS3p C dX8_now_12 ls_X8_83 (kX8_in p1 0 (nI 10) _) (by decide) (Nat.le_of_ble_eq_true rfl) ?_
      refine v_if_eq_b (tgt := 22) C dX8_now_15 (by decide) (fun h4 => ?_) (fun h4 => ?_)
      · have hj5 := v_jpos h4 hj3
        refine v_iconst C dX8_now_22 kc_iconst_0 ?_
        exact hj5
      · have hj5 := v_jneg h4 hj3
        refine v_iconst C dX8_now_18 kc_iconst_1 ?_
        refine v_goto (tgt := 23) C dX8_now_19 (by decide) ?_
        exact hj5
  refine v_cS1p C dX8_now_23 ls_X8_324 (kX8_unless (if (σ.1 8 0 9) = 0 then 0 else (if (fX8_in p1 0 (nI 10)) = 0 then 0 else (nI 1))) _) (by decide) (Nat.le_of_ble_eq_true rfl) ?_
  refine v_cV1i C dX8_now_26 lv_X8_180 ck_8 (kX8_isRefused (fX8_unless (if (σ.1 8 0 9) = 0 then 0 else (if (fX8_in p1 0 (nI 10)) = 0 then 0 else (nI 1)))) _) (by decide) (Nat.le_of_ble_eq_true rfl) (fun r7 σ6 => ?_)
  refine v_if_eq (tgt := 36) C dX8_now_29 (by decide) ?_ ?_
  · skip
    refine v_aload_n 0 C dX8_now_36 rfl ?_
    refine v_iload_n 1 C dX8_now_37 rfl ?_
    refine v_cV1i C dX8_now_38 lv_X8_328 ck_8 (kX8_told p1 _) (by decide) (Nat.le_of_ble_eq_true rfl) (fun r9 σ8 => ?_)
    exact v_iret C M dX8_now_41
  · skip
    refine v_iconst C dX8_now_32 kc_iconst_m1 ?_
    refine v_goto (tgt := 41) C dX8_now_33 (by decide) ?_
    exact v_iret C M dX8_now_41
-- OpenLinesModel ledger(II)I, depth 2
def fX8_ledger (p1 : Int32) (p2 : Int32) (σ : St) : Option (Int32 × St) :=
  bd (fX8_isBoard p1 σ) fun (r2 : Int32) (σ1 : St) => bd (fX8_isRefused (fX8_unless (if r2 = 0 then 0 else (if (fX8_in p2 0 (nI 5)) = 0 then 0 else (nI 1)))) σ1) fun (r9 : Int32) (σ8 : St) => (if r9 = 0 then gi (fX8_at p1 ((nI 6) + p2)) 251 <| some (σ8.1 47 0 (fX8_at p1 ((nI 6) + p2)).toNatClampNeg, σ8) else some ((-1), σ8))
set_option maxRecDepth 20000 in
theorem kX8_ledger {X : Cx} (p1 : Int32) (p2 : Int32) (σ : St) : Kon X 2 yX8_ledger cX8_ledger 3 (some .int) gI [.ref (adr X 8 0), .int p1, .int p2] σ (fX8_ledger p1 p2 σ) := by
  refine konJ (own := RX8) (fun _ => gI) (fun a b => [.ref (a 8 0), .int p1, .int p2]) (by decide +kernel) rfl (fun _ _ => Nat.le_of_ble_eq_true rfl) (fun Y C M => ?_)
  show V Y gI 0 [(0, .ref (adr Y 8 0)), (1, .int p1), (2, .int p2)] [] σ (fX8_ledger p1 p2 σ)
  unfold fX8_ledger
  refine v_aload_n 0 C dX8_ledger_0 rfl ?_
  refine v_aload_n 0 C dX8_ledger_1 rfl ?_
  refine v_iload_n 1 C dX8_ledger_2 rfl ?_
  refine v_cV1i C dX8_ledger_3 lv_X8_268 ck_8 (kX8_isBoard p1 _) (by decide) (Nat.le_of_ble_eq_true rfl) (fun r2 σ1 => ?_)
  refine v_cut (pcJ := 23) (lv := [(0, .ref (adr Y 8 0)), (1, .int p1), (2, .int p2)]) (st := .int (if r2 = 0 then 0 else (if (fX8_in p2 0 (nI 5)) = 0 then 0 else (nI 1))) :: [.ref (adr Y 8 0)]) ?_ (fun hj3 => ?_)
  rotate_left
  · skip
    refine v_if_eq_b (tgt := 22) C dX8_ledger_6 (by decide) (fun h4 => ?_) (fun h4 => ?_)
    · have hj5 := v_jpos h4 hj3
      refine v_iconst C dX8_ledger_22 kc_iconst_0 ?_
      exact hj5
    · have hj5 := v_jneg h4 hj3
      refine v_iload_n 2 C dX8_ledger_9 rfl ?_
      refine v_iconst C dX8_ledger_10 kc_iconst_0 ?_
      refine v_iconst C dX8_ledger_11 kc_iconst_5 ?_
      refine v_cS3p C dX8_ledger_12 ls_X8_83 (kX8_in p2 0 (nI 5) _) (by decide) (Nat.le_of_ble_eq_true rfl) ?_
      refine v_if_eq_b (tgt := 22) C dX8_ledger_15 (by decide) (fun h6 => ?_) (fun h6 => ?_)
      · have hj7 := v_jpos h6 hj5
        refine v_iconst C dX8_ledger_22 kc_iconst_0 ?_
        exact hj7
      · have hj7 := v_jneg h6 hj5
        refine v_iconst C dX8_ledger_18 kc_iconst_1 ?_
        refine v_goto (tgt := 23) C dX8_ledger_19 (by decide) ?_
        exact hj7
  refine v_cS1p C dX8_ledger_23 ls_X8_324 (kX8_unless (if r2 = 0 then 0 else (if (fX8_in p2 0 (nI 5)) = 0 then 0 else (nI 1))) _) (by decide) (Nat.le_of_ble_eq_true rfl) ?_
  refine v_cV1i C dX8_ledger_26 lv_X8_180 ck_8 (kX8_isRefused (fX8_unless (if r2 = 0 then 0 else (if (fX8_in p2 0 (nI 5)) = 0 then 0 else (nI 1)))) _) (by decide) (Nat.le_of_ble_eq_true rfl) (fun r9 σ8 => ?_)
  refine v_if_eq (tgt := 36) C dX8_ledger_29 (by decide) ?_ ?_
  · skip
    refine v_aload_n 0 C dX8_ledger_36 rfl ?_
    refine v_getc C dX8_ledger_37 lf_X8_27 ck_8 rfl ?_
    refine v_iload_n 1 C dX8_ledger_40 rfl ?_
    refine v_bipush C dX8_ledger_41 kc_bipush_6 ?_
    refine v_iload_n 2 C dX8_ledger_43 rfl ?_
    refine v_iadd C dX8_ledger_44 ?_
    refine v_cS2p C dX8_ledger_45 ls_X8_201 (kX8_at p1 ((nI 6) + p2) _) (by decide) (Nat.le_of_ble_eq_true rfl) ?_
    refine v_iaload C dX8_ledger_48 ck_47 (by decide) rfl ?_
    exact v_iret C M dX8_ledger_49
  · skip
    refine v_iconst C dX8_ledger_32 kc_iconst_m1 ?_
    refine v_goto (tgt := 49) C dX8_ledger_33 (by decide) ?_
    exact v_iret C M dX8_ledger_49
-- OpenLinesModel past(I)I, depth 1
def fX8_past (p1 : Int32) (σ : St) : Option (Int32 × St) :=
  bd (fX8_isRefused (if (σ.1 8 0 9) = 0 then (nI 1) else (if (fX8_in p1 0 (nI 63)) = 0 then (nI 2) else 0)) σ) fun (r7 : Int32) (σ6 : St) => (if r7 = 0 then gi 0 251 <| (if (σ6.1 47 0 (0 : Int32).toNatClampNeg) ≤ p1 then some ((-2), σ6) else gi 0 251 <| gi ((nI 187) + (((σ6.1 47 0 (0 : Int32).toNatClampNeg) - p1) - ((σ6.1 47 0 (0 : Int32).toNatClampNeg) - p1) / (nI 64) * (nI 64))) 251 <| some (σ6.1 47 0 ((nI 187) + (((σ6.1 47 0 (0 : Int32).toNatClampNeg) - p1) - ((σ6.1 47 0 (0 : Int32).toNatClampNeg) - p1) / (nI 64) * (nI 64))).toNatClampNeg, σ6)) else some ((-1), σ6))
set_option maxRecDepth 20000 in
theorem kX8_past {X : Cx} (p1 : Int32) (σ : St) : Kon X 1 yX8_past cX8_past 2 (some .int) gI [.ref (adr X 8 0), .int p1] σ (fX8_past p1 σ) := by
  refine konJ (own := RX8) (fun _ => gI) (fun a b => [.ref (a 8 0), .int p1]) (by decide +kernel) rfl (fun _ _ => Nat.le_of_ble_eq_true rfl) (fun Y C M => ?_)
  show V Y gI 0 [(0, .ref (adr Y 8 0)), (1, .int p1)] [] σ (fX8_past p1 σ)
  unfold fX8_past
  refine v_aload_n 0 C dX8_past_0 rfl ?_
  refine v_aload_n 0 C dX8_past_1 rfl ?_
  refine v_geti C dX8_past_2 lf_X8_192 ck_8 (by decide) ?_
  refine v_cut (pcJ := 27) (lv := [(0, .ref (adr Y 8 0)), (1, .int p1)]) (st := .int (if (σ.1 8 0 9) = 0 then (nI 1) else (if (fX8_in p1 0 (nI 63)) = 0 then (nI 2) else 0)) :: [.ref (adr Y 8 0)]) ?_ (fun hj1 => ?_)
  rotate_left
  · skip
    refine v_if_ne_b (tgt := 12) C dX8_past_5 (by decide) (fun h2 => ?_) (fun h2 => ?_)
    · have hj3 := v_jneg h2 hj1
      refine v_iload_n 1 C dX8_past_12 rfl ?_
      refine v_iconst C dX8_past_13 kc_iconst_0 ?_
      refine v_bipush C dX8_past_14 kc_bipush_63 ?_
      refine v_cS3p C dX8_past_16 ls_X8_83 (kX8_in p1 0 (nI 63) _) (by decide) (Nat.le_of_ble_eq_true rfl) ?_
      refine v_if_eq_b (tgt := 26) C dX8_past_19 (by decide) (fun h4 => ?_) (fun h4 => ?_)
      · have hj5 := v_jpos h4 hj3
        refine v_iconst C dX8_past_26 kc_iconst_2 ?_
        exact hj5
      · have hj5 := v_jneg h4 hj3
        refine v_iconst C dX8_past_22 kc_iconst_0 ?_
        refine v_goto (tgt := 27) C dX8_past_23 (by decide) ?_
        exact hj5
    · have hj3 := v_jpos h2 hj1
      refine v_iconst C dX8_past_8 kc_iconst_1 ?_
      refine v_goto (tgt := 27) C dX8_past_9 (by decide) ?_
      exact hj3
  refine v_cV1i C dX8_past_27 lv_X8_180 ck_8 (kX8_isRefused (if (σ.1 8 0 9) = 0 then (nI 1) else (if (fX8_in p1 0 (nI 63)) = 0 then (nI 2) else 0)) _) (by decide) (Nat.le_of_ble_eq_true rfl) (fun r7 σ6 => ?_)
  refine v_if_eq (tgt := 35) C dX8_past_30 (by decide) ?_ ?_
  · skip
    refine v_iload_n 1 C dX8_past_35 rfl ?_
    refine v_aload_n 0 C dX8_past_36 rfl ?_
    refine v_getc C dX8_past_37 lf_X8_27 ck_8 rfl ?_
    refine v_iconst C dX8_past_40 kc_iconst_0 ?_
    refine v_iaload C dX8_past_41 ck_47 (by decide) rfl ?_
    refine v_icmp_ge (tgt := 68) C dX8_past_42 (by decide) ?_ ?_
    · skip
      refine v_bipush C dX8_past_68 kc_bipush_m2 ?_
      exact v_iret C M dX8_past_70
    · skip
      refine v_aload_n 0 C dX8_past_45 rfl ?_
      refine v_getc C dX8_past_46 lf_X8_27 ck_8 rfl ?_
      refine v_sipush C dX8_past_49 kc_sipush_187 ?_
      refine v_aload_n 0 C dX8_past_52 rfl ?_
      refine v_getc C dX8_past_53 lf_X8_27 ck_8 rfl ?_
      refine v_iconst C dX8_past_56 kc_iconst_0 ?_
      refine v_iaload C dX8_past_57 ck_47 (by decide) rfl ?_
      refine v_iload_n 1 C dX8_past_58 rfl ?_
      refine v_isub C dX8_past_59 ?_
      refine v_bipush C dX8_past_60 kc_bipush_64 ?_
      refine v_irem C dX8_past_62 (by decide) ?_
      refine v_iadd C dX8_past_63 ?_
      refine v_iaload C dX8_past_64 ck_47 (by decide) rfl ?_
      refine v_goto (tgt := 70) C dX8_past_65 (by decide) ?_
      exact v_iret C M dX8_past_70
  · skip
    refine v_iconst C dX8_past_33 kc_iconst_m1 ?_
    exact v_iret C M dX8_past_34
-- OpenLinesModel idle()I, depth 1
def LX8_idle_20 (ke : Int32 → St → Option (Int32 × St)) : Nat → Int32 → Int32 → St → Option (Int32 × St)
  | 0, _, _, _ => none
  | n + 1, b1, b2, σ => (if (nI 64) ≤ b2 then ke b1 σ else gi 0 251 <| (if (σ.1 47 0 (0 : Int32).toNatClampNeg) ≤ b2 then ke b1 σ else gi 0 251 <| gi ((nI 187) + (((σ.1 47 0 (0 : Int32).toNatClampNeg) - b2) - ((σ.1 47 0 (0 : Int32).toNatClampNeg) - b2) / (nI 64) * (nI 64))) 251 <| lt (b1 + (if (σ.1 47 0 ((nI 187) + (((σ.1 47 0 (0 : Int32).toNatClampNeg) - b2) - ((σ.1 47 0 (0 : Int32).toNatClampNeg) - b2) / (nI 64) * (nI 64))).toNatClampNeg) = (-2) then (nI 1) else 0)) fun (x6 : Int32) => LX8_idle_20 ke n x6 (b2 + nI 1) σ))
def fX8_idle (σ : St) : Option (Int32 × St) :=
  bd (fX8_isRefused (fX8_unless (σ.1 8 0 9)) σ) fun (r2 : Int32) (σ1 : St) => (if r2 = 0 then (LX8_idle_20 (fun (x7 : Int32) (σ8 : St) => some (x7, σ8)) FU 0 0 σ1) else some ((-1), σ1))
set_option maxRecDepth 20000 in
theorem vLX8_idle_20 {Y : Cx} (C : Ok Y RX8 cX8_idle 3 1) (M : OkM Y (some .int)) (ke : Int32 → St → Option (Int32 × St)) (hke : ∀ (b1 : Int32) (σ : St), V Y gI 75 [(1, .int b1)] [] σ (ke b1 σ)) : ∀ (n : Nat) (b1 : Int32) (b2 : Int32) (σ : St), V Y gI 20 [(0, .ref (adr Y 8 0)), (1, .int b1), (2, .int b2)] [] σ (LX8_idle_20 ke n b1 b2 σ) := by
  intro n
  induction n with
  | zero => intros; exact v_none
  | succ n ih =>
    intro b1 b2 σ
    rw [LX8_idle_20]
    refine v_iload_n 2 C dX8_idle_20 rfl ?_
    refine v_bipush C dX8_idle_21 kc_bipush_64 ?_
    refine v_icmp_ge (tgt := 75) C dX8_idle_23 (by decide) ?_ ?_
    · skip
      exact v_lv (hke b1 σ) [1] rfl
    · skip
      refine v_iload_n 2 C dX8_idle_26 rfl ?_
      refine v_aload_n 0 C dX8_idle_27 rfl ?_
      refine v_getc C dX8_idle_28 lf_X8_27 ck_8 rfl ?_
      refine v_iconst C dX8_idle_31 kc_iconst_0 ?_
      refine v_iaload C dX8_idle_32 ck_47 (by decide) rfl ?_
      refine v_icmp_ge (tgt := 75) C dX8_idle_33 (by decide) ?_ ?_
      · skip
        exact v_lv (hke b1 σ) [1] rfl
      · skip
        refine v_iload_n 1 C dX8_idle_36 rfl ?_
        refine v_aload_n 0 C dX8_idle_37 rfl ?_
        refine v_getc C dX8_idle_38 lf_X8_27 ck_8 rfl ?_
        refine v_sipush C dX8_idle_41 kc_sipush_187 ?_
        refine v_aload_n 0 C dX8_idle_44 rfl ?_
        refine v_getc C dX8_idle_45 lf_X8_27 ck_8 rfl ?_
        refine v_iconst C dX8_idle_48 kc_iconst_0 ?_
        refine v_iaload C dX8_idle_49 ck_47 (by decide) rfl ?_
        refine v_iload_n 2 C dX8_idle_50 rfl ?_
        refine v_isub C dX8_idle_51 ?_
        refine v_bipush C dX8_idle_52 kc_bipush_64 ?_
        refine v_irem C dX8_idle_54 (by decide) ?_
        refine v_iadd C dX8_idle_55 ?_
        refine v_iaload C dX8_idle_56 ck_47 (by decide) rfl ?_
        refine v_bipush C dX8_idle_57 kc_bipush_m2 ?_
        refine v_cut (pcJ := 67) (lv := [(0, .ref (adr Y 8 0)), (1, .int b1), (2, .int b2)]) (st := .int (if (σ.1 47 0 ((nI 187) + (((σ.1 47 0 (0 : Int32).toNatClampNeg) - b2) - ((σ.1 47 0 (0 : Int32).toNatClampNeg) - b2) / (nI 64) * (nI 64))).toNatClampNeg) = (-2) then (nI 1) else 0) :: [.int b1]) ?_ (fun hj3 => ?_)
        rotate_left
        · skip
          refine v_icmp_ne_b (tgt := 66) C dX8_idle_59 (by decide) (fun h4 => ?_) (fun h4 => ?_)
          · have hj5 := v_jneg h4 hj3
            refine v_iconst C dX8_idle_66 kc_iconst_0 ?_
            exact hj5
          · have hj5 := v_jpos h4 hj3
            refine v_iconst C dX8_idle_62 kc_iconst_1 ?_
            refine v_goto (tgt := 67) C dX8_idle_63 (by decide) ?_
            exact hj5
        refine v_iadd C dX8_idle_67 ?_
        refine v_istore_nL (lv0 := [(0, .ref (adr Y 8 0)), (2, .int b2)]) C dX8_idle_68 rfl (by decide) rfl (fun x6 => ?_)
        refine v_iinc (lv' := [(2, .int (b2 + nI 1)), (1, .int x6), (0, .ref (adr Y 8 0))]) 2 C dX8_idle_69 rfl (congrArg (b2 + ·) kc_iconst_1) (by decide) rfl ?_
        refine v_goto (tgt := 20) C dX8_idle_72 (by decide) ?_
        exact v_lv (ih x6 (b2 + nI 1) σ) [2, 1, 0] rfl
set_option maxRecDepth 20000 in
theorem kX8_idle {X : Cx} (σ : St) : Kon X 1 yX8_idle cX8_idle 3 (some .int) gI [.ref (adr X 8 0)] σ (fX8_idle σ) := by
  refine konJ (own := RX8) (fun _ => gI) (fun a b => [.ref (a 8 0)]) (by decide +kernel) rfl (fun _ _ => Nat.le_of_ble_eq_true rfl) (fun Y C M => ?_)
  show V Y gI 0 [(0, .ref (adr Y 8 0))] [] σ (fX8_idle σ)
  unfold fX8_idle
  refine v_aload_n 0 C dX8_idle_0 rfl ?_
  refine v_aload_n 0 C dX8_idle_1 rfl ?_
  refine v_geti C dX8_idle_2 lf_X8_192 ck_8 (by decide) ?_
  refine v_cS1p C dX8_idle_5 ls_X8_324 (kX8_unless (σ.1 8 0 9) _) (by decide) (Nat.le_of_ble_eq_true rfl) ?_
  refine v_cV1i C dX8_idle_8 lv_X8_180 ck_8 (kX8_isRefused (fX8_unless (σ.1 8 0 9)) _) (by decide) (Nat.le_of_ble_eq_true rfl) (fun r2 σ1 => ?_)
  refine v_if_eq (tgt := 16) C dX8_idle_11 (by decide) ?_ ?_
  · skip
    refine v_iconst C dX8_idle_16 kc_iconst_0 ?_
    refine v_istore_n (lv' := [(1, .int 0), (0, .ref (adr Y 8 0))]) C dX8_idle_17 rfl (by decide) rfl ?_
    refine v_iconst C dX8_idle_18 kc_iconst_0 ?_
    refine v_istore_n (lv' := [(2, .int 0), (1, .int 0), (0, .ref (adr Y 8 0))]) C dX8_idle_19 rfl (by decide) rfl ?_
    refine v_lv (vLX8_idle_20 C M _ (fun x7 σ8 => ?_) FU _ _ _) [2, 1, 0] rfl
    refine v_iload_n 0 C dX8_idle_75 rfl ?_
    exact v_iret C M dX8_idle_76
  · skip
    refine v_iconst C dX8_idle_14 kc_iconst_m1 ?_
    exact v_iret C M dX8_idle_15
-- OpenLinesModel log(II)I, depth 1
def fX8_log (p1 : Int32) (p2 : Int32) (σ : St) : Option (Int32 × St) :=
  (jn (fun (x2 : Int32) (σ1 : St) => bd (fX8_isRefused (fX8_unless x2) σ1) fun (r4 : Int32) (σ3 : St) => (if r4 = 0 then gi (((nI 91) + ((nI 6) * p1)) + p2) 251 <| some (σ3.1 47 0 (((nI 91) + ((nI 6) * p1)) + p2).toNatClampNeg, σ3) else some ((-1), σ3))) fun j39 => jn (fun (σ5 : St) => j39 0 σ5) fun j38 => if (σ.1 8 0 9) = 0 then j38 σ else gi (nI 90) 251 <| (if (fX8_in p1 0 ((σ.1 47 0 (nI 90).toNatClampNeg) - (nI 1))) = 0 then j38 σ else (if (fX8_in p2 0 (nI 5)) = 0 then j38 σ else j39 (nI 1) σ)))
set_option maxRecDepth 20000 in
theorem kX8_log {X : Cx} (p1 : Int32) (p2 : Int32) (σ : St) : Kon X 1 yX8_log cX8_log 3 (some .int) gI [.ref (adr X 8 0), .int p1, .int p2] σ (fX8_log p1 p2 σ) := by
  refine konJ (own := RX8) (fun _ => gI) (fun a b => [.ref (a 8 0), .int p1, .int p2]) (by decide +kernel) rfl (fun _ _ => Nat.le_of_ble_eq_true rfl) (fun Y C M => ?_)
  show V Y gI 0 [(0, .ref (adr Y 8 0)), (1, .int p1), (2, .int p2)] [] σ (fX8_log p1 p2 σ)
  unfold fX8_log
  refine v_aload_n 0 C dX8_log_0 rfl ?_
  refine v_aload_n 0 C dX8_log_1 rfl ?_
  refine v_geti C dX8_log_2 lf_X8_192 ck_8 (by decide) ?_
  refine v_jn (fun j39 => ∀ (x2 : Int32) (σ1 : St), V Y gI 39 [(0, .ref (adr Y 8 0)), (1, .int p1), (2, .int p2)] [.int x2, .ref (adr Y 8 0)] σ1 (j39 x2 σ1)) ?_ ?_
  · intro x2 σ1
    refine v_cS1p C dX8_log_39 ls_X8_324 (kX8_unless x2 _) (by decide) (Nat.le_of_ble_eq_true rfl) ?_
    refine v_cV1i C dX8_log_42 lv_X8_180 ck_8 (kX8_isRefused (fX8_unless x2) _) (by decide) (Nat.le_of_ble_eq_true rfl) (fun r4 σ3 => ?_)
    refine v_if_eq (tgt := 52) C dX8_log_45 (by decide) ?_ ?_
    · skip
      refine v_aload_n 0 C dX8_log_52 rfl ?_
      refine v_getc C dX8_log_53 lf_X8_27 ck_8 rfl ?_
      refine v_bipush C dX8_log_56 kc_bipush_91 ?_
      refine v_bipush C dX8_log_58 kc_bipush_6 ?_
      refine v_iload_n 1 C dX8_log_60 rfl ?_
      refine v_imul C dX8_log_61 ?_
      refine v_iadd C dX8_log_62 ?_
      refine v_iload_n 2 C dX8_log_63 rfl ?_
      refine v_iadd C dX8_log_64 ?_
      refine v_iaload C dX8_log_65 ck_47 (by decide) rfl ?_
      exact v_iret C M dX8_log_66
    · skip
      refine v_iconst C dX8_log_48 kc_iconst_m1 ?_
      refine v_goto (tgt := 66) C dX8_log_49 (by decide) ?_
      exact v_iret C M dX8_log_66
  · intro j39 hj39
    refine v_jn (fun j38 => ∀ (σ5 : St), V Y gI 38 [(0, .ref (adr Y 8 0)), (1, .int p1), (2, .int p2)] [.ref (adr Y 8 0)] σ5 (j38 σ5)) ?_ ?_
    · intro σ5
      refine v_iconst C dX8_log_38 kc_iconst_0 ?_
      exact v_lv (hj39 0 σ5) [0, 1, 2] rfl
    · intro j38 hj38
      refine v_if_eq (tgt := 38) C dX8_log_5 (by decide) ?_ ?_
      · skip
        exact v_lv (hj38 σ) [0, 1, 2] rfl
      · skip
        refine v_iload_n 1 C dX8_log_8 rfl ?_
        refine v_iconst C dX8_log_9 kc_iconst_0 ?_
        refine v_aload_n 0 C dX8_log_10 rfl ?_
        refine v_getc C dX8_log_11 lf_X8_27 ck_8 rfl ?_
        refine v_bipush C dX8_log_14 kc_bipush_90 ?_
        refine v_iaload C dX8_log_16 ck_47 (by decide) rfl ?_
        refine v_iconst C dX8_log_17 kc_iconst_1 ?_
        refine v_isub C dX8_log_18 ?_
        refine v_cS3p C dX8_log_19 ls_X8_83 (kX8_in p1 0 ((σ.1 47 0 (nI 90).toNatClampNeg) - (nI 1)) _) (by decide) (Nat.le_of_ble_eq_true rfl) ?_
        refine v_if_eq (tgt := 38) C dX8_log_22 (by decide) ?_ ?_
        · skip
          exact v_lv (hj38 σ) [0, 1, 2] rfl
        · skip
          refine v_iload_n 2 C dX8_log_25 rfl ?_
          refine v_iconst C dX8_log_26 kc_iconst_0 ?_
          refine v_iconst C dX8_log_27 kc_iconst_5 ?_
          refine v_cS3p C dX8_log_28 ls_X8_83 (kX8_in p2 0 (nI 5) _) (by decide) (Nat.le_of_ble_eq_true rfl) ?_
          refine v_if_eq (tgt := 38) C dX8_log_31 (by decide) ?_ ?_
          · skip
            exact v_lv (hj38 σ) [0, 1, 2] rfl
          · skip
            refine v_iconst C dX8_log_34 kc_iconst_1 ?_
            refine v_goto (tgt := 39) C dX8_log_35 (by decide) ?_
            exact v_lv (hj39 (nI 1) σ) [0, 1, 2] rfl
-- OpenLinesModel waiting(I)I, depth 2
def LX8_waiting_21 (a1 : Int32) (ke : Int32 → St → Option (Int32 × St)) : Nat → Int32 → Int32 → St → Option (Int32 × St)
  | 0, _, _, _ => none
  | n + 1, b2, b3, σ => gi (nI 3) 59 <| (if (σ.1 44 0 (nI 3).toNatClampNeg) ≤ b3 then ke b2 σ else (jn (fun (x6 : Int32) (σ5 : St) => lt (b2 ||| x6) fun (x7 : Int32) => LX8_waiting_21 a1 ke n x7 (b3 + nI 1) σ5) fun j53 => jn (fun (σ8 : St) => j53 0 σ8) fun j52 => if b3 = a1 then j52 σ else bd (fX8_doesWait b3 a1 σ) fun (r10 : Int32) (σ9 : St) => (if r10 = 0 then j52 σ9 else j53 ((nI 1) <<< (b3 &&& 31)) σ9)))
def fX8_waiting (p1 : Int32) (σ : St) : Option (Int32 × St) :=
  bd (fX8_isBoard p1 σ) fun (r2 : Int32) (σ1 : St) => bd (fX8_isRefused (fX8_unless r2) σ1) fun (r4 : Int32) (σ3 : St) => (if r4 = 0 then (LX8_waiting_21 p1 (fun (x11 : Int32) (σ12 : St) => some (x11, σ12)) FU 0 0 σ3) else some ((-1), σ3))
set_option maxRecDepth 20000 in
theorem vLX8_waiting_21 {Y : Cx} (a1 : Int32) (C : Ok Y RX8 cX8_waiting 4 2) (M : OkM Y (some .int)) (ke : Int32 → St → Option (Int32 × St)) (hke : ∀ (b2 : Int32) (σ : St), V Y gI 61 [(2, .int b2)] [] σ (ke b2 σ)) : ∀ (n : Nat) (b2 : Int32) (b3 : Int32) (σ : St), V Y gI 21 [(0, .ref (adr Y 8 0)), (1, .int a1), (2, .int b2), (3, .int b3)] [] σ (LX8_waiting_21 a1 ke n b2 b3 σ) := by
  intro n
  induction n with
  | zero => intros; exact v_none
  | succ n ih =>
    intro b2 b3 σ
    rw [LX8_waiting_21]
    refine v_iload_n 3 C dX8_waiting_21 rfl ?_
    refine v_aload_n 0 C dX8_waiting_22 rfl ?_
    refine v_getc C dX8_waiting_23 lf_X8_17 ck_8 rfl ?_
    refine v_iconst C dX8_waiting_26 kc_iconst_3 ?_
    refine v_iaload C dX8_waiting_27 ck_44 (by decide) rfl ?_
    refine v_icmp_ge (tgt := 61) C dX8_waiting_28 (by decide) ?_ ?_
    · skip
      exact v_lv (hke b2 σ) [2] rfl
    · skip
      refine v_iload_n 2 C dX8_waiting_31 rfl ?_
      refine v_iload_n 3 C dX8_waiting_32 rfl ?_
      refine v_iload_n 1 C dX8_waiting_33 rfl ?_
      refine v_jn (fun j53 => ∀ (x6 : Int32) (σ5 : St), V Y gI 53 [(0, .ref (adr Y 8 0)), (1, .int a1), (3, .int b3)] [.int x6, .int b2] σ5 (j53 x6 σ5)) ?_ ?_
      · intro x6 σ5
        refine v_ior C dX8_waiting_53 ?_
        refine v_istore_nL (lv0 := [(0, .ref (adr Y 8 0)), (1, .int a1), (3, .int b3)]) C dX8_waiting_54 rfl (by decide) rfl (fun x7 => ?_)
        refine v_iinc (lv' := [(3, .int (b3 + nI 1)), (2, .int x7), (0, .ref (adr Y 8 0)), (1, .int a1)]) 3 C dX8_waiting_55 rfl (congrArg (b3 + ·) kc_iconst_1) (by decide) rfl ?_
        refine v_goto (tgt := 21) C dX8_waiting_58 (by decide) ?_
        exact v_lv (ih x7 (b3 + nI 1) σ5) [2, 3, 1, 0] rfl
      · intro j53 hj53
        refine v_jn (fun j52 => ∀ (σ8 : St), V Y gI 52 [(0, .ref (adr Y 8 0)), (1, .int a1), (3, .int b3)] [.int b2] σ8 (j52 σ8)) ?_ ?_
        · intro σ8
          refine v_iconst C dX8_waiting_52 kc_iconst_0 ?_
          exact v_lv (hj53 0 σ8) [0, 1, 2] rfl
        · intro j52 hj52
          refine v_icmp_eq (tgt := 52) C dX8_waiting_34 (by decide) ?_ ?_
          · skip
            exact v_lv (hj52 σ) [0, 1, 3] rfl
          · skip
            refine v_aload_n 0 C dX8_waiting_37 rfl ?_
            refine v_iload_n 3 C dX8_waiting_38 rfl ?_
            refine v_iload_n 1 C dX8_waiting_39 rfl ?_
            refine v_cV2i C dX8_waiting_40 lv_X8_205 ck_8 (kX8_doesWait b3 a1 _) (by decide) (Nat.le_of_ble_eq_true rfl) (fun r10 σ9 => ?_)
            refine v_if_eq (tgt := 52) C dX8_waiting_43 (by decide) ?_ ?_
            · skip
              exact v_lv (hj52 σ9) [0, 1, 3] rfl
            · skip
              refine v_iconst C dX8_waiting_46 kc_iconst_1 ?_
              refine v_iload_n 3 C dX8_waiting_47 rfl ?_
              refine v_ishl C dX8_waiting_48 ?_
              refine v_goto (tgt := 53) C dX8_waiting_49 (by decide) ?_
              exact v_lv (hj53 ((nI 1) <<< (b3 &&& 31)) σ9) [0, 1, 3] rfl
set_option maxRecDepth 20000 in
theorem kX8_waiting {X : Cx} (p1 : Int32) (σ : St) : Kon X 2 yX8_waiting cX8_waiting 4 (some .int) gI [.ref (adr X 8 0), .int p1] σ (fX8_waiting p1 σ) := by
  refine konJ (own := RX8) (fun _ => gI) (fun a b => [.ref (a 8 0), .int p1]) (by decide +kernel) rfl (fun _ _ => Nat.le_of_ble_eq_true rfl) (fun Y C M => ?_)
  show V Y gI 0 [(0, .ref (adr Y 8 0)), (1, .int p1)] [] σ (fX8_waiting p1 σ)
  unfold fX8_waiting
  refine v_aload_n 0 C dX8_waiting_0 rfl ?_
  refine v_aload_n 0 C dX8_waiting_1 rfl ?_
  refine v_iload_n 1 C dX8_waiting_2 rfl ?_
  refine v_cV1i C dX8_waiting_3 lv_X8_268 ck_8 (kX8_isBoard p1 _) (by decide) (Nat.le_of_ble_eq_true rfl) (fun r2 σ1 => ?_)
  refine v_cS1p C dX8_waiting_6 ls_X8_324 (kX8_unless r2 _) (by decide) (Nat.le_of_ble_eq_true rfl) ?_
  refine v_cV1i C dX8_waiting_9 lv_X8_180 ck_8 (kX8_isRefused (fX8_unless r2) _) (by decide) (Nat.le_of_ble_eq_true rfl) (fun r4 σ3 => ?_)
  refine v_if_eq (tgt := 17) C dX8_waiting_12 (by decide) ?_ ?_
  · skip
    refine v_iconst C dX8_waiting_17 kc_iconst_0 ?_
    refine v_istore_n (lv' := [(2, .int 0), (0, .ref (adr Y 8 0)), (1, .int p1)]) C dX8_waiting_18 rfl (by decide) rfl ?_
    refine v_iconst C dX8_waiting_19 kc_iconst_0 ?_
    refine v_istore_n (lv' := [(3, .int 0), (2, .int 0), (0, .ref (adr Y 8 0)), (1, .int p1)]) C dX8_waiting_20 rfl (by decide) rfl ?_
    refine v_lv (vLX8_waiting_21 _ C M _ (fun x11 σ12 => ?_) FU _ _ _) [2, 3, 1, 0] rfl
    refine v_iload_n 0 C dX8_waiting_61 rfl ?_
    exact v_iret C M dX8_waiting_62
  · skip
    refine v_iconst C dX8_waiting_15 kc_iconst_m1 ?_
    exact v_iret C M dX8_waiting_16
-- OpenLinesModel longest()I, depth 1
def LX8_longest_21 (ke : Int32 → St → Option (Int32 × St)) : Nat → Int32 → Int32 → St → Option (Int32 × St)
  | 0, _, _, _ => none
  | n + 1, b1, b2, σ => gi (nI 3) 59 <| (if (σ.1 44 0 (nI 3).toNatClampNeg) ≤ b2 then ke b1 σ else gi (fX8_at b2 0) 251 <| (jn (fun (x4 : Int32) (σ3 : St) => LX8_longest_21 ke n x4 (b2 + nI 1) σ3) fun j112 => if (σ.1 47 0 (fX8_at b2 0).toNatClampNeg) = 0 then j112 b1 σ else (jn (fun (x6 : Int32) (σ5 : St) => (jn (fun (x8 : Int32) (σ7 : St) => j112 x8 σ7) fun j111 => jn (fun (σ9 : St) => j111 b2 σ9) fun j106 => if 0 < x6 then j106 σ5 else (jn (fun (σ10 : St) => j111 b1 σ10) fun j110 => if x6 = 0 then gi ((nI 5) + b2) 59 <| gi ((nI 5) + b1) 59 <| (if (σ5.1 44 0 ((nI 5) + b1).toNatClampNeg) ≤ (σ5.1 44 0 ((nI 5) + b2).toNatClampNeg) then j110 σ5 else j106 σ5) else j110 σ5))) fun j78 => if b1 = (-2) then j78 (nI 1) σ else gi (fX8_at b1 (nI 1)) 251 <| gi (fX8_at b2 (nI 1)) 251 <| j78 ((σ.1 47 0 (fX8_at b1 (nI 1)).toNatClampNeg) - (σ.1 47 0 (fX8_at b2 (nI 1)).toNatClampNeg)) σ)))
def fX8_longest (σ : St) : Option (Int32 × St) :=
  bd (fX8_isRefused (fX8_unless (σ.1 8 0 9)) σ) fun (r2 : Int32) (σ1 : St) => (if r2 = 0 then (LX8_longest_21 (fun (x11 : Int32) (σ12 : St) => some (x11, σ12)) FU (-2) 0 σ1) else some ((-1), σ1))
set_option maxRecDepth 20000 in
theorem vLX8_longest_21 {Y : Cx} (C : Ok Y RX8 cX8_longest 4 1) (M : OkM Y (some .int)) (ke : Int32 → St → Option (Int32 × St)) (hke : ∀ (b1 : Int32) (σ : St), V Y gI 118 [(1, .int b1)] [] σ (ke b1 σ)) : ∀ (n : Nat) (b1 : Int32) (b2 : Int32) (σ : St), V Y gI 21 [(0, .ref (adr Y 8 0)), (1, .int b1), (2, .int b2)] [] σ (LX8_longest_21 ke n b1 b2 σ) := by
  intro n
  induction n with
  | zero => intros; exact v_none
  | succ n ih =>
    intro b1 b2 σ
    rw [LX8_longest_21]
    refine v_iload_n 2 C dX8_longest_21 rfl ?_
    refine v_aload_n 0 C dX8_longest_22 rfl ?_
    refine v_getc C dX8_longest_23 lf_X8_17 ck_8 rfl ?_
    refine v_iconst C dX8_longest_26 kc_iconst_3 ?_
    refine v_iaload C dX8_longest_27 ck_44 (by decide) rfl ?_
    refine v_icmp_ge (tgt := 118) C dX8_longest_28 (by decide) ?_ ?_
    · skip
      exact v_lv (hke b1 σ) [1] rfl
    · skip
      refine v_aload_n 0 C dX8_longest_31 rfl ?_
      refine v_getc C dX8_longest_32 lf_X8_27 ck_8 rfl ?_
      refine v_iload_n 2 C dX8_longest_35 rfl ?_
      refine v_iconst C dX8_longest_36 kc_iconst_0 ?_
      refine v_cS2p C dX8_longest_37 ls_X8_201 (kX8_at b2 0 _) (by decide) (Nat.le_of_ble_eq_true rfl) ?_
      refine v_iaload C dX8_longest_40 ck_47 (by decide) rfl ?_
      refine v_jn (fun j112 => ∀ (x4 : Int32) (σ3 : St), V Y gI 112 [(0, .ref (adr Y 8 0)), (1, .int x4), (2, .int b2)] [] σ3 (j112 x4 σ3)) ?_ ?_
      · intro x4 σ3
        refine v_iinc (lv' := [(2, .int (b2 + nI 1)), (0, .ref (adr Y 8 0)), (1, .int x4)]) 2 C dX8_longest_112 rfl (congrArg (b2 + ·) kc_iconst_1) (by decide) rfl ?_
        refine v_goto (tgt := 21) C dX8_longest_115 (by decide) ?_
        exact v_lv (ih x4 (b2 + nI 1) σ3) [1, 2, 0] rfl
      · intro j112 hj112
        refine v_if_ne (tgt := 47) C dX8_longest_41 (by decide) ?_ ?_
        · skip
          refine v_iload_n 1 C dX8_longest_47 rfl ?_
          refine v_bipush C dX8_longest_48 kc_bipush_m2 ?_
          refine v_jn (fun j78 => ∀ (x6 : Int32) (σ5 : St), V Y gI 78 [(0, .ref (adr Y 8 0)), (1, .int b1), (2, .int b2)] [.int x6] σ5 (j78 x6 σ5)) ?_ ?_
          · intro x6 σ5
            refine v_istore_n (lv' := [(3, .int x6), (0, .ref (adr Y 8 0)), (1, .int b1), (2, .int b2)]) C dX8_longest_78 rfl (by decide) rfl ?_
            refine v_iload_n 0 C dX8_longest_79 rfl ?_
            refine v_jn (fun j111 => ∀ (x8 : Int32) (σ7 : St), V Y gI 111 [(0, .ref (adr Y 8 0)), (2, .int b2)] [.int x8] σ7 (j111 x8 σ7)) ?_ ?_
            · intro x8 σ7
              refine v_istore_n (lv' := [(1, .int x8), (0, .ref (adr Y 8 0)), (2, .int b2)]) C dX8_longest_111 rfl (by decide) rfl ?_
              exact v_lv (hj112 x8 σ7) [1, 0, 2] rfl
            · intro j111 hj111
              refine v_jn (fun j106 => ∀ (σ9 : St), V Y gI 106 [(0, .ref (adr Y 8 0)), (2, .int b2)] [] σ9 (j106 σ9)) ?_ ?_
              · intro σ9
                refine v_iload_n 1 C dX8_longest_106 rfl ?_
                refine v_goto (tgt := 111) C dX8_longest_107 (by decide) ?_
                exact v_lv (hj111 b2 σ9) [0, 1] rfl
              · intro j106 hj106
                refine v_if_gt (tgt := 106) C dX8_longest_80 (by decide) ?_ ?_
                · skip
                  exact v_lv (hj106 σ5) [1, 3] rfl
                · skip
                  refine v_iload_n 0 C dX8_longest_83 rfl ?_
                  refine v_jn (fun j110 => ∀ (σ10 : St), V Y gI 110 [(0, .ref (adr Y 8 0)), (1, .int b1), (2, .int b2)] [] σ10 (j110 σ10)) ?_ ?_
                  · intro σ10
                    refine v_iload_n 1 C dX8_longest_110 rfl ?_
                    exact v_lv (hj111 b1 σ10) [0, 2] rfl
                  · intro j110 hj110
                    refine v_if_ne (tgt := 110) C dX8_longest_84 (by decide) ?_ ?_
                    · skip
                      exact v_lv (hj110 σ5) [1, 2, 3] rfl
                    · skip
                      refine v_aload_n 1 C dX8_longest_87 rfl ?_
                      refine v_getc C dX8_longest_88 lf_X8_17 ck_8 rfl ?_
                      refine v_iconst C dX8_longest_91 kc_iconst_5 ?_
                      refine v_iload_n 3 C dX8_longest_92 rfl ?_
                      refine v_iadd C dX8_longest_93 ?_
                      refine v_iaload C dX8_longest_94 ck_44 (by decide) rfl ?_
                      refine v_aload_n 1 C dX8_longest_95 rfl ?_
                      refine v_getc C dX8_longest_96 lf_X8_17 ck_8 rfl ?_
                      refine v_iconst C dX8_longest_99 kc_iconst_5 ?_
                      refine v_iload_n 2 C dX8_longest_100 rfl ?_
                      refine v_iadd C dX8_longest_101 ?_
                      refine v_iaload C dX8_longest_102 ck_44 (by decide) rfl ?_
                      refine v_icmp_ge (tgt := 110) C dX8_longest_103 (by decide) ?_ ?_
                      · skip
                        exact v_lv (hj110 σ5) [1, 2, 3] rfl
                      · skip
                        exact v_lv (hj106 σ5) [1, 3] rfl
          · intro j78 hj78
            refine v_icmp_ne (tgt := 57) C dX8_longest_50 (by decide) ?_ ?_
            · skip
              refine v_aload_n 0 C dX8_longest_57 rfl ?_
              refine v_getc C dX8_longest_58 lf_X8_27 ck_8 rfl ?_
              refine v_iload_n 1 C dX8_longest_61 rfl ?_
              refine v_iconst C dX8_longest_62 kc_iconst_1 ?_
              refine v_cS2p C dX8_longest_63 ls_X8_201 (kX8_at b1 (nI 1) _) (by decide) (Nat.le_of_ble_eq_true rfl) ?_
              refine v_iaload C dX8_longest_66 ck_47 (by decide) rfl ?_
              refine v_aload_n 0 C dX8_longest_67 rfl ?_
              refine v_getc C dX8_longest_68 lf_X8_27 ck_8 rfl ?_
              refine v_iload_n 2 C dX8_longest_71 rfl ?_
              refine v_iconst C dX8_longest_72 kc_iconst_1 ?_
              refine v_cS2p C dX8_longest_73 ls_X8_201 (kX8_at b2 (nI 1) _) (by decide) (Nat.le_of_ble_eq_true rfl) ?_
              refine v_iaload C dX8_longest_76 ck_47 (by decide) rfl ?_
              refine v_isub C dX8_longest_77 ?_
              exact v_lv (hj78 ((σ.1 47 0 (fX8_at b1 (nI 1)).toNatClampNeg) - (σ.1 47 0 (fX8_at b2 (nI 1)).toNatClampNeg)) σ) [0, 1, 2] rfl
            · skip
              refine v_iconst C dX8_longest_53 kc_iconst_1 ?_
              refine v_goto (tgt := 78) C dX8_longest_54 (by decide) ?_
              exact v_lv (hj78 (nI 1) σ) [0, 1, 2] rfl
        · skip
          refine v_goto (tgt := 112) C dX8_longest_44 (by decide) ?_
          exact v_lv (hj112 b1 σ) [0, 1, 2] rfl
set_option maxRecDepth 20000 in
theorem kX8_longest {X : Cx} (σ : St) : Kon X 1 yX8_longest cX8_longest 4 (some .int) gI [.ref (adr X 8 0)] σ (fX8_longest σ) := by
  refine konJ (own := RX8) (fun _ => gI) (fun a b => [.ref (a 8 0)]) (by decide +kernel) rfl (fun _ _ => Nat.le_of_ble_eq_true rfl) (fun Y C M => ?_)
  show V Y gI 0 [(0, .ref (adr Y 8 0))] [] σ (fX8_longest σ)
  unfold fX8_longest
  refine v_aload_n 0 C dX8_longest_0 rfl ?_
  refine v_aload_n 0 C dX8_longest_1 rfl ?_
  refine v_geti C dX8_longest_2 lf_X8_192 ck_8 (by decide) ?_
  refine v_cS1p C dX8_longest_5 ls_X8_324 (kX8_unless (σ.1 8 0 9) _) (by decide) (Nat.le_of_ble_eq_true rfl) ?_
  refine v_cV1i C dX8_longest_8 lv_X8_180 ck_8 (kX8_isRefused (fX8_unless (σ.1 8 0 9)) _) (by decide) (Nat.le_of_ble_eq_true rfl) (fun r2 σ1 => ?_)
  refine v_if_eq (tgt := 16) C dX8_longest_11 (by decide) ?_ ?_
  · skip
    refine v_bipush C dX8_longest_16 kc_bipush_m2 ?_
    refine v_istore_n (lv' := [(1, .int (-2)), (0, .ref (adr Y 8 0))]) C dX8_longest_18 rfl (by decide) rfl ?_
    refine v_iconst C dX8_longest_19 kc_iconst_0 ?_
    refine v_istore_n (lv' := [(2, .int 0), (1, .int (-2)), (0, .ref (adr Y 8 0))]) C dX8_longest_20 rfl (by decide) rfl ?_
    refine v_lv (vLX8_longest_21 C M _ (fun x11 σ12 => ?_) FU _ _ _) [2, 1, 0] rfl
    refine v_iload_n 0 C dX8_longest_118 rfl ?_
    exact v_iret C M dX8_longest_119
  · skip
    refine v_iconst C dX8_longest_14 kc_iconst_m1 ?_
    exact v_iret C M dX8_longest_15
-- OpenLinesModel laysAside()V, depth 0
def LX8_laysAside_2 (ke : St → Option (Unit × St)) : Nat → Int32 → St → Option (Unit × St)
  | 0, _, _ => none
  | n + 1, b1, σ => (if (nI 251) ≤ b1 then ke σ else gi b1 251 <| gi b1 251 <| lt (wI σ 48 0 b1.toNatClampNeg (σ.1 47 0 b1.toNatClampNeg)) fun (σ1 : St) => LX8_laysAside_2 ke n (b1 + nI 1) σ1)
def fX8_laysAside (σ : St) : Option (Unit × St) :=
  (LX8_laysAside_2 (fun (σ2 : St) => some ((), σ2)) FU 0 σ)
set_option maxRecDepth 20000 in
theorem vLX8_laysAside_2 {Y : Cx} (C : Ok Y RX8 cX8_laysAside 2 0) (M : OkM Y none) (ke : St → Option (Unit × St)) (hke : ∀ (σ : St), V Y gV 27 [] [] σ (ke σ)) : ∀ (n : Nat) (b1 : Int32) (σ : St), V Y gV 2 [(0, .ref (adr Y 8 0)), (1, .int b1)] [] σ (LX8_laysAside_2 ke n b1 σ) := by
  intro n
  induction n with
  | zero => intros; exact v_none
  | succ n ih =>
    intro b1 σ
    rw [LX8_laysAside_2]
    refine v_iload_n 1 C dX8_laysAside_2 rfl ?_
    refine v_sipush C dX8_laysAside_3 kc_sipush_251 ?_
    refine v_icmp_ge (tgt := 27) C dX8_laysAside_6 (by decide) ?_ ?_
    · skip
      exact v_lv (hke σ) [] rfl
    · skip
      refine v_aload_n 0 C dX8_laysAside_9 rfl ?_
      refine v_getc C dX8_laysAside_10 lf_X8_30 ck_8 rfl ?_
      refine v_iload_n 1 C dX8_laysAside_13 rfl ?_
      refine v_aload_n 0 C dX8_laysAside_14 rfl ?_
      refine v_getc C dX8_laysAside_15 lf_X8_27 ck_8 rfl ?_
      refine v_iload_n 1 C dX8_laysAside_18 rfl ?_
      refine v_iaload C dX8_laysAside_19 ck_47 (by decide) rfl ?_
      refine v_iastoreL C dX8_laysAside_20 ck_48 (by decide) rfl (fun σ1 => ?_)
      refine v_iinc (lv' := [(1, .int (b1 + nI 1)), (0, .ref (adr Y 8 0))]) 1 C dX8_laysAside_21 rfl (congrArg (b1 + ·) kc_iconst_1) (by decide) rfl ?_
      refine v_goto (tgt := 2) C dX8_laysAside_24 (by decide) ?_
      exact v_lv (ih (b1 + nI 1) σ1) [1, 0] rfl
set_option maxRecDepth 20000 in
theorem kX8_laysAside {X : Cx} (σ : St) : Kon X 0 yX8_laysAside cX8_laysAside 2 none gV [.ref (adr X 8 0)] σ (fX8_laysAside σ) := by
  refine konJ (own := RX8) (fun _ => gV) (fun a b => [.ref (a 8 0)]) (by decide +kernel) rfl (fun _ _ => Nat.le_of_ble_eq_true rfl) (fun Y C M => ?_)
  show V Y gV 0 [(0, .ref (adr Y 8 0))] [] σ (fX8_laysAside σ)
  unfold fX8_laysAside
  refine v_iconst C dX8_laysAside_0 kc_iconst_0 ?_
  refine v_istore_n (lv' := [(1, .int 0), (0, .ref (adr Y 8 0))]) C dX8_laysAside_1 rfl (by decide) rfl ?_
  refine v_lv (vLX8_laysAside_2 C M _ (fun σ2 => ?_) FU _ _) [1, 0] rfl
  exact v_vret C M dX8_laysAside_27
-- OpenLinesModel takesBack()V, depth 0
def LX8_takesBack_2 (ke : St → Option (Unit × St)) : Nat → Int32 → St → Option (Unit × St)
  | 0, _, _ => none
  | n + 1, b1, σ => (if (nI 251) ≤ b1 then ke σ else gi b1 251 <| gi b1 251 <| lt (wI σ 47 0 b1.toNatClampNeg (σ.1 48 0 b1.toNatClampNeg)) fun (σ1 : St) => LX8_takesBack_2 ke n (b1 + nI 1) σ1)
def fX8_takesBack (σ : St) : Option (Unit × St) :=
  (LX8_takesBack_2 (fun (σ2 : St) => some ((), σ2)) FU 0 σ)
set_option maxRecDepth 20000 in
theorem vLX8_takesBack_2 {Y : Cx} (C : Ok Y RX8 cX8_takesBack 2 0) (M : OkM Y none) (ke : St → Option (Unit × St)) (hke : ∀ (σ : St), V Y gV 27 [] [] σ (ke σ)) : ∀ (n : Nat) (b1 : Int32) (σ : St), V Y gV 2 [(0, .ref (adr Y 8 0)), (1, .int b1)] [] σ (LX8_takesBack_2 ke n b1 σ) := by
  intro n
  induction n with
  | zero => intros; exact v_none
  | succ n ih =>
    intro b1 σ
    rw [LX8_takesBack_2]
    refine v_iload_n 1 C dX8_takesBack_2 rfl ?_
    refine v_sipush C dX8_takesBack_3 kc_sipush_251 ?_
    refine v_icmp_ge (tgt := 27) C dX8_takesBack_6 (by decide) ?_ ?_
    · skip
      exact v_lv (hke σ) [] rfl
    · skip
      refine v_aload_n 0 C dX8_takesBack_9 rfl ?_
      refine v_getc C dX8_takesBack_10 lf_X8_27 ck_8 rfl ?_
      refine v_iload_n 1 C dX8_takesBack_13 rfl ?_
      refine v_aload_n 0 C dX8_takesBack_14 rfl ?_
      refine v_getc C dX8_takesBack_15 lf_X8_30 ck_8 rfl ?_
      refine v_iload_n 1 C dX8_takesBack_18 rfl ?_
      refine v_iaload C dX8_takesBack_19 ck_48 (by decide) rfl ?_
      refine v_iastoreL C dX8_takesBack_20 ck_47 (by decide) rfl (fun σ1 => ?_)
      refine v_iinc (lv' := [(1, .int (b1 + nI 1)), (0, .ref (adr Y 8 0))]) 1 C dX8_takesBack_21 rfl (congrArg (b1 + ·) kc_iconst_1) (by decide) rfl ?_
      refine v_goto (tgt := 2) C dX8_takesBack_24 (by decide) ?_
      exact v_lv (ih (b1 + nI 1) σ1) [1, 0] rfl
set_option maxRecDepth 20000 in
theorem kX8_takesBack {X : Cx} (σ : St) : Kon X 0 yX8_takesBack cX8_takesBack 2 none gV [.ref (adr X 8 0)] σ (fX8_takesBack σ) := by
  refine konJ (own := RX8) (fun _ => gV) (fun a b => [.ref (a 8 0)]) (by decide +kernel) rfl (fun _ _ => Nat.le_of_ble_eq_true rfl) (fun Y C M => ?_)
  show V Y gV 0 [(0, .ref (adr Y 8 0))] [] σ (fX8_takesBack σ)
  unfold fX8_takesBack
  refine v_iconst C dX8_takesBack_0 kc_iconst_0 ?_
  refine v_istore_n (lv' := [(1, .int 0), (0, .ref (adr Y 8 0))]) C dX8_takesBack_1 rfl (by decide) rfl ?_
  refine v_lv (vLX8_takesBack_2 C M _ (fun σ2 => ?_) FU _ _) [1, 0] rfl
  exact v_vret C M dX8_takesBack_27
-- OpenLinesModel will(II)I, depth 7
def LX8_will_52 (a1 : Int32) (a2 : Int32) (ke : St → Option (Int32 × St)) : Nat → Int32 → St → Option (Int32 × St)
  | 0, _, _ => none
  | n + 1, b3, σ => (if a1 ≤ b3 then ke σ else bd (fX8_tick σ) fun _ (σ11 : St) => LX8_will_52 a1 a2 ke n (b3 + nI 1) σ11)
def fX8_will (p1 : Int32) (p2 : Int32) (σ : St) : Option (Int32 × St) :=
  bd (fX8_isRefused (if (σ.1 8 0 9) = 0 then (nI 1) else (if (fX8_in p2 0 (nI 10)) = 0 then (nI 1) else (if (fX8_in p1 (nI 1) (nI 999)) = 0 then (nI 2) else 0))) σ) fun (r9 : Int32) (σ8 : St) => (if r9 = 0 then bd (fX8_laysAside σ8) fun _ (σ10 : St) => (LX8_will_52 p1 p2 (fun (σ12 : St) => bd (fX8_told p2 σ12) fun (r14 : Int32) (σ13 : St) => bd (fX8_takesBack σ13) fun _ (σ15 : St) => some (r14, σ15)) FU 0 σ10) else some ((-1), σ8))
set_option maxRecDepth 20000 in
theorem vLX8_will_52 {Y : Cx} (a1 : Int32) (a2 : Int32) (C : Ok Y RX8 cX8_will 4 7) (M : OkM Y (some .int)) (ke : St → Option (Int32 × St)) (hke : ∀ (σ : St), V Y gI 67 [(0, .ref (adr Y 8 0)), (2, .int a2)] [] σ (ke σ)) : ∀ (n : Nat) (b3 : Int32) (σ : St), V Y gI 52 [(0, .ref (adr Y 8 0)), (1, .int a1), (2, .int a2), (3, .int b3)] [] σ (LX8_will_52 a1 a2 ke n b3 σ) := by
  intro n
  induction n with
  | zero => intros; exact v_none
  | succ n ih =>
    intro b3 σ
    rw [LX8_will_52]
    refine v_iload_n 3 C dX8_will_52 rfl ?_
    refine v_iload_n 1 C dX8_will_53 rfl ?_
    refine v_icmp_ge (tgt := 67) C dX8_will_54 (by decide) ?_ ?_
    · skip
      exact v_lv (hke σ) [0, 2] rfl
    · skip
      refine v_aload_n 0 C dX8_will_57 rfl ?_
      refine v_cV0v C dX8_will_58 lv_X8_334 ck_8 (kX8_tick _) (by decide) (Nat.le_of_ble_eq_true rfl) (fun _ σ11 => ?_)
      refine v_iinc (lv' := [(3, .int (b3 + nI 1)), (0, .ref (adr Y 8 0)), (1, .int a1), (2, .int a2)]) 3 C dX8_will_61 rfl (congrArg (b3 + ·) kc_iconst_1) (by decide) rfl ?_
      refine v_goto (tgt := 52) C dX8_will_64 (by decide) ?_
      exact v_lv (ih (b3 + nI 1) σ11) [1, 2, 3, 0] rfl
set_option maxRecDepth 20000 in
theorem kX8_will {X : Cx} (p1 : Int32) (p2 : Int32) (σ : St) : Kon X 7 yX8_will cX8_will 4 (some .int) gI [.ref (adr X 8 0), .int p1, .int p2] σ (fX8_will p1 p2 σ) := by
  refine konJ (own := RX8) (fun _ => gI) (fun a b => [.ref (a 8 0), .int p1, .int p2]) (by decide +kernel) rfl (fun _ _ => Nat.le_of_ble_eq_true rfl) (fun Y C M => ?_)
  show V Y gI 0 [(0, .ref (adr Y 8 0)), (1, .int p1), (2, .int p2)] [] σ (fX8_will p1 p2 σ)
  unfold fX8_will
  refine v_aload_n 0 C dX8_will_0 rfl ?_
  refine v_aload_n 0 C dX8_will_1 rfl ?_
  refine v_geti C dX8_will_2 lf_X8_192 ck_8 (by decide) ?_
  refine v_cut (pcJ := 38) (lv := [(0, .ref (adr Y 8 0)), (1, .int p1), (2, .int p2)]) (st := .int (if (σ.1 8 0 9) = 0 then (nI 1) else (if (fX8_in p2 0 (nI 10)) = 0 then (nI 1) else (if (fX8_in p1 (nI 1) (nI 999)) = 0 then (nI 2) else 0))) :: [.ref (adr Y 8 0)]) ?_ (fun hj1 => ?_)
  rotate_left
  · skip
    refine v_if_eq_b (tgt := 18) C dX8_will_5 (by decide) (fun h2 => ?_) (fun h2 => ?_)
    · have hj3 := v_jpos h2 hj1
      refine v_iconst C dX8_will_18 kc_iconst_1 ?_
      refine v_goto (tgt := 38) C dX8_will_19 (by decide) ?_
      exact hj3
    · have hj3 := v_jneg h2 hj1
      refine v_iload_n 2 C dX8_will_8 rfl ?_
      refine v_iconst C dX8_will_9 kc_iconst_0 ?_
      refine v_bipush C dX8_will_10 kc_bipush_10 ?_
      refine v_cS3p C dX8_will_12 ls_X8_83 (kX8_in p2 0 (nI 10) _) (by decide) (Nat.le_of_ble_eq_true rfl) ?_
      refine v_if_ne_b (tgt := 22) C dX8_will_15 (by decide) (fun h4 => ?_) (fun h4 => ?_)
      · have hj5 := v_jneg h4 hj3
        refine v_iload_n 1 C dX8_will_22 rfl ?_
        refine v_iconst C dX8_will_23 kc_iconst_1 ?_
        refine v_sipush C dX8_will_24 kc_sipush_999 ?_
        refine v_cS3p C dX8_will_27 ls_X8_83 (kX8_in p1 (nI 1) (nI 999) _) (by decide) (Nat.le_of_ble_eq_true rfl) ?_
        refine v_if_eq_b (tgt := 37) C dX8_will_30 (by decide) (fun h6 => ?_) (fun h6 => ?_)
        · have hj7 := v_jpos h6 hj5
          refine v_iconst C dX8_will_37 kc_iconst_2 ?_
          exact hj7
        · have hj7 := v_jneg h6 hj5
          refine v_iconst C dX8_will_33 kc_iconst_0 ?_
          refine v_goto (tgt := 38) C dX8_will_34 (by decide) ?_
          exact hj7
      · have hj5 := v_jpos h4 hj3
        refine v_iconst C dX8_will_18 kc_iconst_1 ?_
        refine v_goto (tgt := 38) C dX8_will_19 (by decide) ?_
        exact hj5
  refine v_cV1i C dX8_will_38 lv_X8_180 ck_8 (kX8_isRefused (if (σ.1 8 0 9) = 0 then (nI 1) else (if (fX8_in p2 0 (nI 10)) = 0 then (nI 1) else (if (fX8_in p1 (nI 1) (nI 999)) = 0 then (nI 2) else 0))) _) (by decide) (Nat.le_of_ble_eq_true rfl) (fun r9 σ8 => ?_)
  refine v_if_eq (tgt := 46) C dX8_will_41 (by decide) ?_ ?_
  · skip
    refine v_aload_n 0 C dX8_will_46 rfl ?_
    refine v_cV0v C dX8_will_47 lv_X8_331 ck_8 (kX8_laysAside _) (by decide) (Nat.le_of_ble_eq_true rfl) (fun _ σ10 => ?_)
    refine v_iconst C dX8_will_50 kc_iconst_0 ?_
    refine v_istore_n (lv' := [(3, .int 0), (0, .ref (adr Y 8 0)), (1, .int p1), (2, .int p2)]) C dX8_will_51 rfl (by decide) rfl ?_
    refine v_lv (vLX8_will_52 _ _ C M _ (fun σ12 => ?_) FU _ _) [1, 2, 3, 0] rfl
    refine v_aload_n 0 C dX8_will_67 rfl ?_
    refine v_iload_n 1 C dX8_will_68 rfl ?_
    refine v_cV1i C dX8_will_69 lv_X8_328 ck_8 (kX8_told p2 _) (by decide) (Nat.le_of_ble_eq_true rfl) (fun r14 σ13 => ?_)
    refine v_istore_n (lv' := [(3, .int r14), (0, .ref (adr Y 8 0)), (2, .int p2)]) C dX8_will_72 rfl (by decide) rfl ?_
    refine v_aload_n 1 C dX8_will_73 rfl ?_
    refine v_cV0v C dX8_will_74 lv_X8_337 ck_8 (kX8_takesBack _) (by decide) (Nat.le_of_ble_eq_true rfl) (fun _ σ15 => ?_)
    refine v_iload_n 0 C dX8_will_77 rfl ?_
    exact v_iret C M dX8_will_78
  · skip
    refine v_iconst C dX8_will_44 kc_iconst_m1 ?_
    exact v_iret C M dX8_will_45
-- OpenLinesModel till(I)I, depth 7
def LX8_till_35 (a1 : Int32) (a2 : Int32) (ke : Int32 → St → Option (Int32 × St)) : Nat → Int32 → St → Option (Int32 × St)
  | 0, _, _ => none
  | n + 1, b3, σ => (if (nI 2000) ≤ b3 then ke b3 σ else gi (fX8_at a1 (nI 6)) 251 <| (if (σ.1 47 0 (fX8_at a1 (nI 6)).toNatClampNeg) = a2 then bd (fX8_tick σ) fun _ (σ7 : St) => LX8_till_35 a1 a2 ke n (b3 + nI 1) σ7 else ke b3 σ))
def fX8_till (p1 : Int32) (σ : St) : Option (Int32 × St) :=
  bd (fX8_isBoard p1 σ) fun (r2 : Int32) (σ1 : St) => bd (fX8_isRefused (fX8_unless r2) σ1) fun (r4 : Int32) (σ3 : St) => (if r4 = 0 then bd (fX8_laysAside σ3) fun _ (σ5 : St) => gi (fX8_at p1 (nI 6)) 251 <| lt (σ5.1 47 0 (fX8_at p1 (nI 6)).toNatClampNeg) fun (x6 : Int32) => (LX8_till_35 p1 x6 (fun (x8 : Int32) (σ9 : St) => gi (fX8_at p1 (nI 6)) 251 <| lt (if (σ9.1 47 0 (fX8_at p1 (nI 6)).toNatClampNeg) ≤ x6 then 0 else (nI 1)) fun (x13 : Int32) => bd (fX8_takesBack σ9) fun _ (σ14 : St) => some (if x13 = 0 then (-2) else x8, σ14)) FU 0 σ5) else some ((-1), σ3))
set_option maxRecDepth 20000 in
theorem vLX8_till_35 {Y : Cx} (a1 : Int32) (a2 : Int32) (C : Ok Y RX8 cX8_till 5 7) (M : OkM Y (some .int)) (ke : Int32 → St → Option (Int32 × St)) (hke : ∀ (b3 : Int32) (σ : St), V Y gI 67 [(0, .ref (adr Y 8 0)), (1, .int a1), (2, .int a2), (3, .int b3)] [] σ (ke b3 σ)) : ∀ (n : Nat) (b3 : Int32) (σ : St), V Y gI 35 [(0, .ref (adr Y 8 0)), (1, .int a1), (2, .int a2), (3, .int b3)] [] σ (LX8_till_35 a1 a2 ke n b3 σ) := by
  intro n
  induction n with
  | zero => intros; exact v_none
  | succ n ih =>
    intro b3 σ
    rw [LX8_till_35]
    refine v_iload_n 3 C dX8_till_35 rfl ?_
    refine v_sipush C dX8_till_36 kc_sipush_2000 ?_
    refine v_icmp_ge (tgt := 67) C dX8_till_39 (by decide) ?_ ?_
    · skip
      exact v_lv (hke b3 σ) [0, 1, 2, 3] rfl
    · skip
      refine v_aload_n 0 C dX8_till_42 rfl ?_
      refine v_getc C dX8_till_43 lf_X8_27 ck_8 rfl ?_
      refine v_iload_n 1 C dX8_till_46 rfl ?_
      refine v_bipush C dX8_till_47 kc_bipush_6 ?_
      refine v_cS2p C dX8_till_49 ls_X8_201 (kX8_at a1 (nI 6) _) (by decide) (Nat.le_of_ble_eq_true rfl) ?_
      refine v_iaload C dX8_till_52 ck_47 (by decide) rfl ?_
      refine v_iload_n 2 C dX8_till_53 rfl ?_
      refine v_icmp_ne (tgt := 67) C dX8_till_54 (by decide) ?_ ?_
      · skip
        exact v_lv (hke b3 σ) [0, 1, 2, 3] rfl
      · skip
        refine v_aload_n 0 C dX8_till_57 rfl ?_
        refine v_cV0v C dX8_till_58 lv_X8_334 ck_8 (kX8_tick _) (by decide) (Nat.le_of_ble_eq_true rfl) (fun _ σ7 => ?_)
        refine v_iinc (lv' := [(3, .int (b3 + nI 1)), (0, .ref (adr Y 8 0)), (1, .int a1), (2, .int a2)]) 3 C dX8_till_61 rfl (congrArg (b3 + ·) kc_iconst_1) (by decide) rfl ?_
        refine v_goto (tgt := 35) C dX8_till_64 (by decide) ?_
        exact v_lv (ih (b3 + nI 1) σ7) [1, 2, 3, 0] rfl
set_option maxRecDepth 20000 in
theorem kX8_till {X : Cx} (p1 : Int32) (σ : St) : Kon X 7 yX8_till cX8_till 5 (some .int) gI [.ref (adr X 8 0), .int p1] σ (fX8_till p1 σ) := by
  refine konJ (own := RX8) (fun _ => gI) (fun a b => [.ref (a 8 0), .int p1]) (by decide +kernel) rfl (fun _ _ => Nat.le_of_ble_eq_true rfl) (fun Y C M => ?_)
  show V Y gI 0 [(0, .ref (adr Y 8 0)), (1, .int p1)] [] σ (fX8_till p1 σ)
  unfold fX8_till
  refine v_aload_n 0 C dX8_till_0 rfl ?_
  refine v_aload_n 0 C dX8_till_1 rfl ?_
  refine v_iload_n 1 C dX8_till_2 rfl ?_
  refine v_cV1i C dX8_till_3 lv_X8_268 ck_8 (kX8_isBoard p1 _) (by decide) (Nat.le_of_ble_eq_true rfl) (fun r2 σ1 => ?_)
  refine v_cS1p C dX8_till_6 ls_X8_324 (kX8_unless r2 _) (by decide) (Nat.le_of_ble_eq_true rfl) ?_
  refine v_cV1i C dX8_till_9 lv_X8_180 ck_8 (kX8_isRefused (fX8_unless r2) _) (by decide) (Nat.le_of_ble_eq_true rfl) (fun r4 σ3 => ?_)
  refine v_if_eq (tgt := 17) C dX8_till_12 (by decide) ?_ ?_
  · skip
    refine v_aload_n 0 C dX8_till_17 rfl ?_
    refine v_cV0v C dX8_till_18 lv_X8_331 ck_8 (kX8_laysAside _) (by decide) (Nat.le_of_ble_eq_true rfl) (fun _ σ5 => ?_)
    refine v_aload_n 0 C dX8_till_21 rfl ?_
    refine v_getc C dX8_till_22 lf_X8_27 ck_8 rfl ?_
    refine v_iload_n 1 C dX8_till_25 rfl ?_
    refine v_bipush C dX8_till_26 kc_bipush_6 ?_
    refine v_cS2p C dX8_till_28 ls_X8_201 (kX8_at p1 (nI 6) _) (by decide) (Nat.le_of_ble_eq_true rfl) ?_
    refine v_iaload C dX8_till_31 ck_47 (by decide) rfl ?_
    refine v_istore_nL (lv0 := [(0, .ref (adr Y 8 0)), (1, .int p1)]) C dX8_till_32 rfl (by decide) rfl (fun x6 => ?_)
    refine v_iconst C dX8_till_33 kc_iconst_0 ?_
    refine v_istore_n (lv' := [(3, .int 0), (2, .int x6), (0, .ref (adr Y 8 0)), (1, .int p1)]) C dX8_till_34 rfl (by decide) rfl ?_
    refine v_lv (vLX8_till_35 _ _ C M _ (fun x8 σ9 => ?_) FU _ _) [2, 3, 1, 0] rfl
    refine v_aload_n 0 C dX8_till_67 rfl ?_
    refine v_getc C dX8_till_68 lf_X8_27 ck_8 rfl ?_
    refine v_iload_n 1 C dX8_till_71 rfl ?_
    refine v_bipush C dX8_till_72 kc_bipush_6 ?_
    refine v_cS2p C dX8_till_74 ls_X8_201 (kX8_at p1 (nI 6) _) (by decide) (Nat.le_of_ble_eq_true rfl) ?_
    refine v_iaload C dX8_till_77 ck_47 (by decide) rfl ?_
    refine v_iload_n 2 C dX8_till_78 rfl ?_
    refine v_cut (pcJ := 87) (lv := [(0, .ref (adr Y 8 0)), (1, .int p1), (2, .int x6), (3, .int x8)]) (st := .int (if (σ9.1 47 0 (fX8_at p1 (nI 6)).toNatClampNeg) ≤ x6 then 0 else (nI 1)) :: []) ?_ (fun hj10 => ?_)
    rotate_left
    · skip
      refine v_icmp_le_b (tgt := 86) C dX8_till_79 (by decide) (fun h11 => ?_) (fun h11 => ?_)
      · have hj12 := v_jpos h11 hj10
        refine v_iconst C dX8_till_86 kc_iconst_0 ?_
        exact hj12
      · have hj12 := v_jneg h11 hj10
        refine v_iconst C dX8_till_82 kc_iconst_1 ?_
        refine v_goto (tgt := 87) C dX8_till_83 (by decide) ?_
        exact hj12
    refine v_istoreL (lv0 := [(0, .ref (adr Y 8 0)), (1, .int p1), (2, .int x6), (3, .int x8)]) C dX8_till_87 (by decide) rfl (fun x13 => ?_)
    refine v_aload_n 1 C dX8_till_89 rfl ?_
    refine v_cV0v C dX8_till_90 lv_X8_337 ck_8 (kX8_takesBack _) (by decide) (Nat.le_of_ble_eq_true rfl) (fun _ σ14 => ?_)
    refine v_iload 0 C dX8_till_93 rfl ?_
    refine v_cut (pcJ := 104) (lv := [(4, .int x13), (0, .ref (adr Y 8 0)), (1, .int p1), (2, .int x6), (3, .int x8)]) (st := .int (if x13 = 0 then (-2) else x8) :: []) ?_ (fun hj15 => ?_)
    rotate_left
    · skip
      refine v_if_eq_b (tgt := 102) C dX8_till_95 (by decide) (fun h16 => ?_) (fun h16 => ?_)
      · have hj17 := v_jpos h16 hj15
        refine v_bipush C dX8_till_102 kc_bipush_m2 ?_
        exact hj17
      · have hj17 := v_jneg h16 hj15
        refine v_iload_n 4 C dX8_till_98 rfl ?_
        refine v_goto (tgt := 104) C dX8_till_99 (by decide) ?_
        exact hj17
    exact v_iret C M dX8_till_104
  · skip
    refine v_iconst C dX8_till_15 kc_iconst_m1 ?_
    exact v_iret C M dX8_till_16
-- OpenLinesModel about(I)I, depth 1
def fX8_about (p1 : Int32) (σ : St) : Option (Int32 × St) :=
  bd (fX8_isRefused (fX8_unless (if (σ.1 8 0 9) = 0 then 0 else (if (fX8_in p1 0 (nI 5)) = 0 then 0 else (nI 1)))) σ) fun (r7 : Int32) (σ6 : St) => (if r7 = 0 then (if p1 = (nI 5) then gi 0 251 <| some (σ6.1 47 0 (0 : Int32).toNatClampNeg, σ6) else gi p1 59 <| some (σ6.1 44 0 p1.toNatClampNeg, σ6)) else some ((-1), σ6))
set_option maxRecDepth 20000 in
theorem kX8_about {X : Cx} (p1 : Int32) (σ : St) : Kon X 1 yX8_about cX8_about 2 (some .int) gI [.ref (adr X 8 0), .int p1] σ (fX8_about p1 σ) := by
  refine konJ (own := RX8) (fun _ => gI) (fun a b => [.ref (a 8 0), .int p1]) (by decide +kernel) rfl (fun _ _ => Nat.le_of_ble_eq_true rfl) (fun Y C M => ?_)
  show V Y gI 0 [(0, .ref (adr Y 8 0)), (1, .int p1)] [] σ (fX8_about p1 σ)
  unfold fX8_about
  refine v_aload_n 0 C dX8_about_0 rfl ?_
  refine v_aload_n 0 C dX8_about_1 rfl ?_
  refine v_geti C dX8_about_2 lf_X8_192 ck_8 (by decide) ?_
  refine v_cut (pcJ := 22) (lv := [(0, .ref (adr Y 8 0)), (1, .int p1)]) (st := .int (if (σ.1 8 0 9) = 0 then 0 else (if (fX8_in p1 0 (nI 5)) = 0 then 0 else (nI 1))) :: [.ref (adr Y 8 0)]) ?_ (fun hj1 => ?_)
  rotate_left
  · skip
    refine v_if_eq_b (tgt := 21) C dX8_about_5 (by decide) (fun h2 => ?_) (fun h2 => ?_)
    · have hj3 := v_jpos h2 hj1
      refine v_iconst C dX8_about_21 kc_iconst_0 ?_
      exact hj3
    · have hj3 := v_jneg h2 hj1
      refine v_iload_n 1 C dX8_about_8 rfl ?_
      refine v_iconst C dX8_about_9 kc_iconst_0 ?_
      refine v_iconst C dX8_about_10 kc_iconst_5 ?_
      refine v_cS3p C dX8_about_11 ls_X8_83 (kX8_in p1 0 (nI 5) _) (by decide) (Nat.le_of_ble_eq_true rfl) ?_
      refine v_if_eq_b (tgt := 21) C dX8_about_14 (by decide) (fun h4 => ?_) (fun h4 => ?_)
      · have hj5 := v_jpos h4 hj3
        refine v_iconst C dX8_about_21 kc_iconst_0 ?_
        exact hj5
      · have hj5 := v_jneg h4 hj3
        refine v_iconst C dX8_about_17 kc_iconst_1 ?_
        refine v_goto (tgt := 22) C dX8_about_18 (by decide) ?_
        exact hj5
  refine v_cS1p C dX8_about_22 ls_X8_324 (kX8_unless (if (σ.1 8 0 9) = 0 then 0 else (if (fX8_in p1 0 (nI 5)) = 0 then 0 else (nI 1))) _) (by decide) (Nat.le_of_ble_eq_true rfl) ?_
  refine v_cV1i C dX8_about_25 lv_X8_180 ck_8 (kX8_isRefused (fX8_unless (if (σ.1 8 0 9) = 0 then 0 else (if (fX8_in p1 0 (nI 5)) = 0 then 0 else (nI 1)))) _) (by decide) (Nat.le_of_ble_eq_true rfl) (fun r7 σ6 => ?_)
  refine v_if_eq (tgt := 33) C dX8_about_28 (by decide) ?_ ?_
  · skip
    refine v_iload_n 1 C dX8_about_33 rfl ?_
    refine v_iconst C dX8_about_34 kc_iconst_5 ?_
    refine v_icmp_ne (tgt := 47) C dX8_about_35 (by decide) ?_ ?_
    · skip
      refine v_aload_n 0 C dX8_about_47 rfl ?_
      refine v_getc C dX8_about_48 lf_X8_17 ck_8 rfl ?_
      refine v_iload_n 1 C dX8_about_51 rfl ?_
      refine v_iaload C dX8_about_52 ck_44 (by decide) rfl ?_
      exact v_iret C M dX8_about_53
    · skip
      refine v_aload_n 0 C dX8_about_38 rfl ?_
      refine v_getc C dX8_about_39 lf_X8_27 ck_8 rfl ?_
      refine v_iconst C dX8_about_42 kc_iconst_0 ?_
      refine v_iaload C dX8_about_43 ck_47 (by decide) rfl ?_
      refine v_goto (tgt := 53) C dX8_about_44 (by decide) ?_
      exact v_iret C M dX8_about_53
  · skip
    refine v_iconst C dX8_about_31 kc_iconst_m1 ?_
    exact v_iret C M dX8_about_32
-- OpenLinesModel board(II)I, depth 3
def fX8_board (p1 : Int32) (p2 : Int32) (σ : St) : Option (Int32 × St) :=
  bd (fX8_isBoard p1 σ) fun (r2 : Int32) (σ1 : St) => (jn (fun (x4 : Int32) (σ3 : St) => bd (fX8_isRefused (fX8_unless x4) σ3) fun (r6 : Int32) (σ5 : St) => (if r6 = 0 then (if p2 = 0 then gi ((nI 5) + p1) 59 <| some (σ5.1 44 0 ((nI 5) + p1).toNatClampNeg, σ5) else if p2 = nI 1 then gi ((nI 11) + p1) 59 <| some (σ5.1 44 0 ((nI 11) + p1).toNatClampNeg, σ5) else if p2 = nI 2 then gi ((nI 17) + p1) 59 <| some (σ5.1 44 0 ((nI 17) + p1).toNatClampNeg, σ5) else if p2 = nI 3 then bd (fX8_rankOf p1 σ5) fun (r12 : Int32) (σ11 : St) => some (r12, σ11) else if p2 = nI 4 then gi (fX8_at p1 (nI 2)) 251 <| some (σ5.1 47 0 (fX8_at p1 (nI 2)).toNatClampNeg, σ5) else if p2 = nI 5 then gi (fX8_at p1 0) 251 <| some (σ5.1 47 0 (fX8_at p1 0).toNatClampNeg, σ5) else gi (fX8_at p1 (nI 3)) 251 <| some (σ5.1 47 0 (fX8_at p1 (nI 3)).toNatClampNeg, σ5)) else some ((-1), σ5))) fun j24 => jn (fun (σ15 : St) => j24 0 σ15) fun j23 => if r2 = 0 then j23 σ1 else (if (fX8_in p2 0 (nI 6)) = 0 then j23 σ1 else j24 (nI 1) σ1))
set_option maxRecDepth 20000 in
theorem kX8_board {X : Cx} (p1 : Int32) (p2 : Int32) (σ : St) : Kon X 3 yX8_board cX8_board 3 (some .int) gI [.ref (adr X 8 0), .int p1, .int p2] σ (fX8_board p1 p2 σ) := by
  refine konJ (own := RX8) (fun _ => gI) (fun a b => [.ref (a 8 0), .int p1, .int p2]) (by decide +kernel) rfl (fun _ _ => Nat.le_of_ble_eq_true rfl) (fun Y C M => ?_)
  show V Y gI 0 [(0, .ref (adr Y 8 0)), (1, .int p1), (2, .int p2)] [] σ (fX8_board p1 p2 σ)
  unfold fX8_board
  refine v_aload_n 0 C dX8_board_0 rfl ?_
  refine v_aload_n 0 C dX8_board_1 rfl ?_
  refine v_iload_n 1 C dX8_board_2 rfl ?_
  refine v_cV1i C dX8_board_3 lv_X8_268 ck_8 (kX8_isBoard p1 _) (by decide) (Nat.le_of_ble_eq_true rfl) (fun r2 σ1 => ?_)
  refine v_jn (fun j24 => ∀ (x4 : Int32) (σ3 : St), V Y gI 24 [(0, .ref (adr Y 8 0)), (1, .int p1), (2, .int p2)] [.int x4, .ref (adr Y 8 0)] σ3 (j24 x4 σ3)) ?_ ?_
  · intro x4 σ3
    refine v_cS1p C dX8_board_24 ls_X8_324 (kX8_unless x4 _) (by decide) (Nat.le_of_ble_eq_true rfl) ?_
    refine v_cV1i C dX8_board_27 lv_X8_180 ck_8 (kX8_isRefused (fX8_unless x4) _) (by decide) (Nat.le_of_ble_eq_true rfl) (fun r6 σ5 => ?_)
    refine v_if_eq (tgt := 35) C dX8_board_30 (by decide) ?_ ?_
    · skip
      refine v_iload_n 2 C dX8_board_35 rfl ?_
      refine v_swK (k := 0) (tgt := 76) C dX8_board_36 (by decide) rfl (by decide) ?_ (fun h7 => ?_)
      · skip
        refine v_aload_n 0 C dX8_board_76 rfl ?_
        refine v_getc C dX8_board_77 lf_X8_17 ck_8 rfl ?_
        refine v_iconst C dX8_board_80 kc_iconst_5 ?_
        refine v_iload_n 1 C dX8_board_81 rfl ?_
        refine v_iadd C dX8_board_82 ?_
        refine v_iaload C dX8_board_83 ck_44 (by decide) rfl ?_
        exact v_iret C M dX8_board_84
      refine v_swK (k := nI 1) (tgt := 85) C dX8_board_36 (by decide) rfl (by decide) ?_ (fun h8 => ?_)
      · skip
        refine v_aload_n 0 C dX8_board_85 rfl ?_
        refine v_getc C dX8_board_86 lf_X8_17 ck_8 rfl ?_
        refine v_bipush C dX8_board_89 kc_bipush_11 ?_
        refine v_iload_n 1 C dX8_board_91 rfl ?_
        refine v_iadd C dX8_board_92 ?_
        refine v_iaload C dX8_board_93 ck_44 (by decide) rfl ?_
        exact v_iret C M dX8_board_94
      refine v_swK (k := nI 2) (tgt := 95) C dX8_board_36 (by decide) rfl (by decide) ?_ (fun h9 => ?_)
      · skip
        refine v_aload_n 0 C dX8_board_95 rfl ?_
        refine v_getc C dX8_board_96 lf_X8_17 ck_8 rfl ?_
        refine v_bipush C dX8_board_99 kc_bipush_17 ?_
        refine v_iload_n 1 C dX8_board_101 rfl ?_
        refine v_iadd C dX8_board_102 ?_
        refine v_iaload C dX8_board_103 ck_44 (by decide) rfl ?_
        exact v_iret C M dX8_board_104
      refine v_swK (k := nI 3) (tgt := 105) C dX8_board_36 (by decide) rfl (by decide) ?_ (fun h10 => ?_)
      · skip
        refine v_aload_n 0 C dX8_board_105 rfl ?_
        refine v_iload_n 1 C dX8_board_106 rfl ?_
        refine v_cV1i C dX8_board_107 lv_X8_212 ck_8 (kX8_rankOf p1 _) (by decide) (Nat.le_of_ble_eq_true rfl) (fun r12 σ11 => ?_)
        exact v_iret C M dX8_board_110
      refine v_swK (k := nI 4) (tgt := 111) C dX8_board_36 (by decide) rfl (by decide) ?_ (fun h13 => ?_)
      · skip
        refine v_aload_n 0 C dX8_board_111 rfl ?_
        refine v_getc C dX8_board_112 lf_X8_27 ck_8 rfl ?_
        refine v_iload_n 1 C dX8_board_115 rfl ?_
        refine v_iconst C dX8_board_116 kc_iconst_2 ?_
        refine v_cS2p C dX8_board_117 ls_X8_201 (kX8_at p1 (nI 2) _) (by decide) (Nat.le_of_ble_eq_true rfl) ?_
        refine v_iaload C dX8_board_120 ck_47 (by decide) rfl ?_
        exact v_iret C M dX8_board_121
      refine v_swK (k := nI 5) (tgt := 122) C dX8_board_36 (by decide) rfl (by decide) ?_ (fun h14 => ?_)
      · skip
        refine v_aload_n 0 C dX8_board_122 rfl ?_
        refine v_getc C dX8_board_123 lf_X8_27 ck_8 rfl ?_
        refine v_iload_n 1 C dX8_board_126 rfl ?_
        refine v_iconst C dX8_board_127 kc_iconst_0 ?_
        refine v_cS2p C dX8_board_128 ls_X8_201 (kX8_at p1 0 _) (by decide) (Nat.le_of_ble_eq_true rfl) ?_
        refine v_iaload C dX8_board_131 ck_47 (by decide) rfl ?_
        exact v_iret C M dX8_board_132
      refine v_swOut (tgt := 133) C dX8_board_36 (by have qh7 := lv_neT (a := 0) h7 (by decide); have qh8 := lv_neT (a := 1) h8 (by decide); have qh9 := lv_neT (a := 2) h9 (by decide); have qh10 := lv_neT (a := 3) h10 (by decide); have qh13 := lv_neT (a := 4) h13 (by decide); have qh14 := lv_neT (a := 5) h14 (by decide); omega) (by decide) ?_
      refine v_aload_n 0 C dX8_board_133 rfl ?_
      refine v_getc C dX8_board_134 lf_X8_27 ck_8 rfl ?_
      refine v_iload_n 1 C dX8_board_137 rfl ?_
      refine v_iconst C dX8_board_138 kc_iconst_3 ?_
      refine v_cS2p C dX8_board_139 ls_X8_201 (kX8_at p1 (nI 3) _) (by decide) (Nat.le_of_ble_eq_true rfl) ?_
      refine v_iaload C dX8_board_142 ck_47 (by decide) rfl ?_
      exact v_iret C M dX8_board_143
    · skip
      refine v_iconst C dX8_board_33 kc_iconst_m1 ?_
      exact v_iret C M dX8_board_34
  · intro j24 hj24
    refine v_jn (fun j23 => ∀ (σ15 : St), V Y gI 23 [(0, .ref (adr Y 8 0)), (1, .int p1), (2, .int p2)] [.ref (adr Y 8 0)] σ15 (j23 σ15)) ?_ ?_
    · intro σ15
      refine v_iconst C dX8_board_23 kc_iconst_0 ?_
      exact v_lv (hj24 0 σ15) [0, 1, 2] rfl
    · intro j23 hj23
      refine v_if_eq (tgt := 23) C dX8_board_6 (by decide) ?_ ?_
      · skip
        exact v_lv (hj23 σ1) [0, 1, 2] rfl
      · skip
        refine v_iload_n 2 C dX8_board_9 rfl ?_
        refine v_iconst C dX8_board_10 kc_iconst_0 ?_
        refine v_bipush C dX8_board_11 kc_bipush_6 ?_
        refine v_cS3p C dX8_board_13 ls_X8_83 (kX8_in p2 0 (nI 6) _) (by decide) (Nat.le_of_ble_eq_true rfl) ?_
        refine v_if_eq (tgt := 23) C dX8_board_16 (by decide) ?_ ?_
        · skip
          exact v_lv (hj23 σ1) [0, 1, 2] rfl
        · skip
          refine v_iconst C dX8_board_19 kc_iconst_1 ?_
          refine v_goto (tgt := 24) C dX8_board_20 (by decide) ?_
          exact v_lv (hj24 (nI 1) σ1) [0, 1, 2] rfl
-- OpenLinesModel named(I)I, depth 1
def LX8_named_18 (a1 : Int32) (ke : St → Option (Int32 × St)) : Nat → Int32 → St → Option (Int32 × St)
  | 0, _, _ => none
  | n + 1, b2, σ => gi (nI 3) 59 <| (if (σ.1 44 0 (nI 3).toNatClampNeg) ≤ b2 then ke σ else gi ((nI 11) + b2) 59 <| (if (σ.1 44 0 ((nI 11) + b2).toNatClampNeg) = a1 then some (b2, σ) else LX8_named_18 a1 ke n (b2 + nI 1) σ))
def fX8_named (p1 : Int32) (σ : St) : Option (Int32 × St) :=
  bd (fX8_isRefused (fX8_unless (σ.1 8 0 9)) σ) fun (r2 : Int32) (σ1 : St) => (if r2 = 0 then (LX8_named_18 p1 (fun (σ3 : St) => bd (fX8_no (nI 1) σ3) fun (r5 : Int32) (σ4 : St) => some (r5, σ4)) FU 0 σ1) else some ((-1), σ1))
set_option maxRecDepth 20000 in
theorem vLX8_named_18 {Y : Cx} (a1 : Int32) (C : Ok Y RX8 cX8_named 3 1) (M : OkM Y (some .int)) (ke : St → Option (Int32 × St)) (hke : ∀ (σ : St), V Y gI 49 [(0, .ref (adr Y 8 0))] [] σ (ke σ)) : ∀ (n : Nat) (b2 : Int32) (σ : St), V Y gI 18 [(0, .ref (adr Y 8 0)), (1, .int a1), (2, .int b2)] [] σ (LX8_named_18 a1 ke n b2 σ) := by
  intro n
  induction n with
  | zero => intros; exact v_none
  | succ n ih =>
    intro b2 σ
    rw [LX8_named_18]
    refine v_iload_n 2 C dX8_named_18 rfl ?_
    refine v_aload_n 0 C dX8_named_19 rfl ?_
    refine v_getc C dX8_named_20 lf_X8_17 ck_8 rfl ?_
    refine v_iconst C dX8_named_23 kc_iconst_3 ?_
    refine v_iaload C dX8_named_24 ck_44 (by decide) rfl ?_
    refine v_icmp_ge (tgt := 49) C dX8_named_25 (by decide) ?_ ?_
    · skip
      exact v_lv (hke σ) [0] rfl
    · skip
      refine v_aload_n 0 C dX8_named_28 rfl ?_
      refine v_getc C dX8_named_29 lf_X8_17 ck_8 rfl ?_
      refine v_bipush C dX8_named_32 kc_bipush_11 ?_
      refine v_iload_n 2 C dX8_named_34 rfl ?_
      refine v_iadd C dX8_named_35 ?_
      refine v_iaload C dX8_named_36 ck_44 (by decide) rfl ?_
      refine v_iload_n 1 C dX8_named_37 rfl ?_
      refine v_icmp_ne (tgt := 43) C dX8_named_38 (by decide) ?_ ?_
      · skip
        refine v_iinc (lv' := [(2, .int (b2 + nI 1)), (0, .ref (adr Y 8 0)), (1, .int a1)]) 2 C dX8_named_43 rfl (congrArg (b2 + ·) kc_iconst_1) (by decide) rfl ?_
        refine v_goto (tgt := 18) C dX8_named_46 (by decide) ?_
        exact v_lv (ih (b2 + nI 1) σ) [1, 2, 0] rfl
      · skip
        refine v_iload_n 2 C dX8_named_41 rfl ?_
        exact v_iret C M dX8_named_42
set_option maxRecDepth 20000 in
theorem kX8_named {X : Cx} (p1 : Int32) (σ : St) : Kon X 1 yX8_named cX8_named 3 (some .int) gI [.ref (adr X 8 0), .int p1] σ (fX8_named p1 σ) := by
  refine konJ (own := RX8) (fun _ => gI) (fun a b => [.ref (a 8 0), .int p1]) (by decide +kernel) rfl (fun _ _ => Nat.le_of_ble_eq_true rfl) (fun Y C M => ?_)
  show V Y gI 0 [(0, .ref (adr Y 8 0)), (1, .int p1)] [] σ (fX8_named p1 σ)
  unfold fX8_named
  refine v_aload_n 0 C dX8_named_0 rfl ?_
  refine v_aload_n 0 C dX8_named_1 rfl ?_
  refine v_geti C dX8_named_2 lf_X8_192 ck_8 (by decide) ?_
  refine v_cS1p C dX8_named_5 ls_X8_324 (kX8_unless (σ.1 8 0 9) _) (by decide) (Nat.le_of_ble_eq_true rfl) ?_
  refine v_cV1i C dX8_named_8 lv_X8_180 ck_8 (kX8_isRefused (fX8_unless (σ.1 8 0 9)) _) (by decide) (Nat.le_of_ble_eq_true rfl) (fun r2 σ1 => ?_)
  refine v_if_eq (tgt := 16) C dX8_named_11 (by decide) ?_ ?_
  · skip
    refine v_iconst C dX8_named_16 kc_iconst_0 ?_
    refine v_istore_n (lv' := [(2, .int 0), (0, .ref (adr Y 8 0)), (1, .int p1)]) C dX8_named_17 rfl (by decide) rfl ?_
    refine v_lv (vLX8_named_18 _ C M _ (fun σ3 => ?_) FU _ _) [1, 2, 0] rfl
    refine v_aload_n 0 C dX8_named_49 rfl ?_
    refine v_iconst C dX8_named_50 kc_iconst_1 ?_
    refine v_cV1i C dX8_named_51 lv_X8_189 ck_8 (kX8_no (nI 1) _) (by decide) (Nat.le_of_ble_eq_true rfl) (fun r5 σ4 => ?_)
    exact v_iret C M dX8_named_54
  · skip
    refine v_iconst C dX8_named_14 kc_iconst_m1 ?_
    exact v_iret C M dX8_named_15
-- OpenLinesModel word(II)I, depth 4
def fX8_word (p1 : Int32) (p2 : Int32) (σ : St) : Option (Int32 × St) :=
  bd (fX8_isBoard p1 σ) fun (r2 : Int32) (σ1 : St) => bd (fX8_isRefused (if r2 = 0 then (nI 1) else (if (fX8_in p2 (nI 1) (nI 2)) = 0 then (nI 2) else 0)) σ1) fun (r9 : Int32) (σ8 : St) => (if r9 = 0 then bd (fX8_wordOf p1 p2 σ8) fun (r11 : Int32) (σ10 : St) => some (r11, σ10) else some ((-1), σ8))
set_option maxRecDepth 20000 in
theorem kX8_word {X : Cx} (p1 : Int32) (p2 : Int32) (σ : St) : Kon X 4 yX8_word cX8_word 3 (some .int) gI [.ref (adr X 8 0), .int p1, .int p2] σ (fX8_word p1 p2 σ) := by
  refine konJ (own := RX8) (fun _ => gI) (fun a b => [.ref (a 8 0), .int p1, .int p2]) (by decide +kernel) rfl (fun _ _ => Nat.le_of_ble_eq_true rfl) (fun Y C M => ?_)
  show V Y gI 0 [(0, .ref (adr Y 8 0)), (1, .int p1), (2, .int p2)] [] σ (fX8_word p1 p2 σ)
  unfold fX8_word
  refine v_aload_n 0 C dX8_word_0 rfl ?_
  refine v_aload_n 0 C dX8_word_1 rfl ?_
  refine v_iload_n 1 C dX8_word_2 rfl ?_
  refine v_cV1i C dX8_word_3 lv_X8_268 ck_8 (kX8_isBoard p1 _) (by decide) (Nat.le_of_ble_eq_true rfl) (fun r2 σ1 => ?_)
  refine v_cut (pcJ := 27) (lv := [(0, .ref (adr Y 8 0)), (1, .int p1), (2, .int p2)]) (st := .int (if r2 = 0 then (nI 1) else (if (fX8_in p2 (nI 1) (nI 2)) = 0 then (nI 2) else 0)) :: [.ref (adr Y 8 0)]) ?_ (fun hj3 => ?_)
  rotate_left
  · skip
    refine v_if_ne_b (tgt := 13) C dX8_word_6 (by decide) (fun h4 => ?_) (fun h4 => ?_)
    · have hj5 := v_jneg h4 hj3
      refine v_iload_n 2 C dX8_word_13 rfl ?_
      refine v_iconst C dX8_word_14 kc_iconst_1 ?_
      refine v_iconst C dX8_word_15 kc_iconst_2 ?_
      refine v_cS3p C dX8_word_16 ls_X8_83 (kX8_in p2 (nI 1) (nI 2) _) (by decide) (Nat.le_of_ble_eq_true rfl) ?_
      refine v_if_eq_b (tgt := 26) C dX8_word_19 (by decide) (fun h6 => ?_) (fun h6 => ?_)
      · have hj7 := v_jpos h6 hj5
        refine v_iconst C dX8_word_26 kc_iconst_2 ?_
        exact hj7
      · have hj7 := v_jneg h6 hj5
        refine v_iconst C dX8_word_22 kc_iconst_0 ?_
        refine v_goto (tgt := 27) C dX8_word_23 (by decide) ?_
        exact hj7
    · have hj5 := v_jpos h4 hj3
      refine v_iconst C dX8_word_9 kc_iconst_1 ?_
      refine v_goto (tgt := 27) C dX8_word_10 (by decide) ?_
      exact hj5
  refine v_cV1i C dX8_word_27 lv_X8_180 ck_8 (kX8_isRefused (if r2 = 0 then (nI 1) else (if (fX8_in p2 (nI 1) (nI 2)) = 0 then (nI 2) else 0)) _) (by decide) (Nat.le_of_ble_eq_true rfl) (fun r9 σ8 => ?_)
  refine v_if_eq (tgt := 37) C dX8_word_30 (by decide) ?_ ?_
  · skip
    refine v_aload_n 0 C dX8_word_37 rfl ?_
    refine v_iload_n 1 C dX8_word_38 rfl ?_
    refine v_iload_n 2 C dX8_word_39 rfl ?_
    refine v_cV2i C dX8_word_40 lv_X8_250 ck_8 (kX8_wordOf p1 p2 _) (by decide) (Nat.le_of_ble_eq_true rfl) (fun r11 σ10 => ?_)
    exact v_iret C M dX8_word_43
  · skip
    refine v_iconst C dX8_word_33 kc_iconst_m1 ?_
    refine v_goto (tgt := 43) C dX8_word_34 (by decide) ?_
    exact v_iret C M dX8_word_43
-- OpenLinesModel ask(II)I, depth 2
def fX8_ask (p1 : Int32) (p2 : Int32) (σ : St) : Option (Int32 × St) :=
  bd (fX8_isBoard p1 σ) fun (r2 : Int32) (σ1 : St) => bd (fX8_isRefused (if r2 = 0 then (nI 1) else (if (fX8_in p2 (nI 1) (nI 99)) = 0 then (nI 2) else 0)) σ1) fun (r9 : Int32) (σ8 : St) => (if r9 = 0 then bd (fX8_asks p1 p2 σ8) fun (r11 : Int32) (σ10 : St) => (if r11 = 0 then bd (fX8_no (nI 5) σ10) fun (r13 : Int32) (σ12 : St) => some (r13, σ12) else bd (fX8_askingOnes σ10) fun (r15 : Int32) (σ14 : St) => bd (fX8_bitsOf r15 σ14) fun (r17 : Int32) (σ16 : St) => some (r17, σ16)) else some ((-1), σ8))
set_option maxRecDepth 20000 in
theorem kX8_ask {X : Cx} (p1 : Int32) (p2 : Int32) (σ : St) : Kon X 2 yX8_ask cX8_ask 3 (some .int) gI [.ref (adr X 8 0), .int p1, .int p2] σ (fX8_ask p1 p2 σ) := by
  refine konJ (own := RX8) (fun _ => gI) (fun a b => [.ref (a 8 0), .int p1, .int p2]) (by decide +kernel) rfl (fun _ _ => Nat.le_of_ble_eq_true rfl) (fun Y C M => ?_)
  show V Y gI 0 [(0, .ref (adr Y 8 0)), (1, .int p1), (2, .int p2)] [] σ (fX8_ask p1 p2 σ)
  unfold fX8_ask
  refine v_aload_n 0 C dX8_ask_0 rfl ?_
  refine v_aload_n 0 C dX8_ask_1 rfl ?_
  refine v_iload_n 1 C dX8_ask_2 rfl ?_
  refine v_cV1i C dX8_ask_3 lv_X8_268 ck_8 (kX8_isBoard p1 _) (by decide) (Nat.le_of_ble_eq_true rfl) (fun r2 σ1 => ?_)
  refine v_cut (pcJ := 28) (lv := [(0, .ref (adr Y 8 0)), (1, .int p1), (2, .int p2)]) (st := .int (if r2 = 0 then (nI 1) else (if (fX8_in p2 (nI 1) (nI 99)) = 0 then (nI 2) else 0)) :: [.ref (adr Y 8 0)]) ?_ (fun hj3 => ?_)
  rotate_left
  · skip
    refine v_if_ne_b (tgt := 13) C dX8_ask_6 (by decide) (fun h4 => ?_) (fun h4 => ?_)
    · have hj5 := v_jneg h4 hj3
      refine v_iload_n 2 C dX8_ask_13 rfl ?_
      refine v_iconst C dX8_ask_14 kc_iconst_1 ?_
      refine v_bipush C dX8_ask_15 kc_bipush_99 ?_
      refine v_cS3p C dX8_ask_17 ls_X8_83 (kX8_in p2 (nI 1) (nI 99) _) (by decide) (Nat.le_of_ble_eq_true rfl) ?_
      refine v_if_eq_b (tgt := 27) C dX8_ask_20 (by decide) (fun h6 => ?_) (fun h6 => ?_)
      · have hj7 := v_jpos h6 hj5
        refine v_iconst C dX8_ask_27 kc_iconst_2 ?_
        exact hj7
      · have hj7 := v_jneg h6 hj5
        refine v_iconst C dX8_ask_23 kc_iconst_0 ?_
        refine v_goto (tgt := 28) C dX8_ask_24 (by decide) ?_
        exact hj7
    · have hj5 := v_jpos h4 hj3
      refine v_iconst C dX8_ask_9 kc_iconst_1 ?_
      refine v_goto (tgt := 28) C dX8_ask_10 (by decide) ?_
      exact hj5
  refine v_cV1i C dX8_ask_28 lv_X8_180 ck_8 (kX8_isRefused (if r2 = 0 then (nI 1) else (if (fX8_in p2 (nI 1) (nI 99)) = 0 then (nI 2) else 0)) _) (by decide) (Nat.le_of_ble_eq_true rfl) (fun r9 σ8 => ?_)
  refine v_if_eq (tgt := 36) C dX8_ask_31 (by decide) ?_ ?_
  · skip
    refine v_aload_n 0 C dX8_ask_36 rfl ?_
    refine v_iload_n 1 C dX8_ask_37 rfl ?_
    refine v_iload_n 2 C dX8_ask_38 rfl ?_
    refine v_cV2i C dX8_ask_39 lv_X8_309 ck_8 (kX8_asks p1 p2 _) (by decide) (Nat.le_of_ble_eq_true rfl) (fun r11 σ10 => ?_)
    refine v_if_eq (tgt := 55) C dX8_ask_42 (by decide) ?_ ?_
    · skip
      refine v_aload_n 0 C dX8_ask_55 rfl ?_
      refine v_iconst C dX8_ask_56 kc_iconst_5 ?_
      refine v_cV1i C dX8_ask_57 lv_X8_189 ck_8 (kX8_no (nI 5) _) (by decide) (Nat.le_of_ble_eq_true rfl) (fun r13 σ12 => ?_)
      exact v_iret C M dX8_ask_60
    · skip
      refine v_aload_n 0 C dX8_ask_45 rfl ?_
      refine v_cV0i C dX8_ask_46 lv_X8_300 ck_8 (kX8_askingOnes _) (by decide) (Nat.le_of_ble_eq_true rfl) (fun r15 σ14 => ?_)
      refine v_cS1i C dX8_ask_49 ls_X8_209 (kX8_bitsOf r15 _) (by decide) (Nat.le_of_ble_eq_true rfl) (fun r17 σ16 => ?_)
      refine v_goto (tgt := 60) C dX8_ask_52 (by decide) ?_
      exact v_iret C M dX8_ask_60
  · skip
    refine v_iconst C dX8_ask_34 kc_iconst_m1 ?_
    exact v_iret C M dX8_ask_35
-- OpenLinesModel waits(II)I, depth 2
def fX8_waits (p1 : Int32) (p2 : Int32) (σ : St) : Option (Int32 × St) :=
  bd (fX8_isBoard p1 σ) fun (r2 : Int32) (σ1 : St) => (jn (fun (x4 : Int32) (σ3 : St) => bd (fX8_isRefused x4 σ3) fun (r6 : Int32) (σ5 : St) => (if r6 = 0 then gi (fX8_at p1 (nI 3)) 251 <| lt (σ5.1 47 0 (fX8_at p1 (nI 3)).toNatClampNeg) fun (x7 : Int32) => gi (fX8_at p1 (nI 3)) 251 <| lt (wI σ5 47 0 (fX8_at p1 (nI 3)).toNatClampNeg (if p2 = (-1) then (-2) else p2)) fun (σ11 : St) => some (x7, σ11) else some ((-1), σ5))) fun j54 => if r2 = 0 then j54 (nI 1) σ1 else (jn (fun (σ12 : St) => (jn (fun (σ13 : St) => j54 0 σ13) fun j53 => if p2 = (-1) then j53 σ12 else bd (fX8_doesWait p2 p1 σ12) fun (r15 : Int32) (σ14 : St) => (if r15 = 0 then j53 σ14 else j54 (nI 5) σ14))) fun j35 => if p2 = (-1) then j35 σ1 else bd (fX8_isBoard p2 σ1) fun (r17 : Int32) (σ16 : St) => (jn (fun (σ18 : St) => j54 (nI 2) σ18) fun j31 => if r17 = 0 then j31 σ16 else (if p2 = p1 then j31 σ16 else j35 σ16))))
set_option maxRecDepth 20000 in
theorem kX8_waits {X : Cx} (p1 : Int32) (p2 : Int32) (σ : St) : Kon X 2 yX8_waits cX8_waits 4 (some .int) gI [.ref (adr X 8 0), .int p1, .int p2] σ (fX8_waits p1 p2 σ) := by
  refine konJ (own := RX8) (fun _ => gI) (fun a b => [.ref (a 8 0), .int p1, .int p2]) (by decide +kernel) rfl (fun _ _ => Nat.le_of_ble_eq_true rfl) (fun Y C M => ?_)
  show V Y gI 0 [(0, .ref (adr Y 8 0)), (1, .int p1), (2, .int p2)] [] σ (fX8_waits p1 p2 σ)
  unfold fX8_waits
  refine v_aload_n 0 C dX8_waits_0 rfl ?_
  refine v_aload_n 0 C dX8_waits_1 rfl ?_
  refine v_iload_n 1 C dX8_waits_2 rfl ?_
  refine v_cV1i C dX8_waits_3 lv_X8_268 ck_8 (kX8_isBoard p1 _) (by decide) (Nat.le_of_ble_eq_true rfl) (fun r2 σ1 => ?_)
  refine v_jn (fun j54 => ∀ (x4 : Int32) (σ3 : St), V Y gI 54 [(0, .ref (adr Y 8 0)), (1, .int p1), (2, .int p2)] [.int x4, .ref (adr Y 8 0)] σ3 (j54 x4 σ3)) ?_ ?_
  · intro x4 σ3
    refine v_cV1i C dX8_waits_54 lv_X8_180 ck_8 (kX8_isRefused x4 _) (by decide) (Nat.le_of_ble_eq_true rfl) (fun r6 σ5 => ?_)
    refine v_if_eq (tgt := 62) C dX8_waits_57 (by decide) ?_ ?_
    · skip
      refine v_aload_n 0 C dX8_waits_62 rfl ?_
      refine v_getc C dX8_waits_63 lf_X8_27 ck_8 rfl ?_
      refine v_iload_n 1 C dX8_waits_66 rfl ?_
      refine v_iconst C dX8_waits_67 kc_iconst_3 ?_
      refine v_cS2p C dX8_waits_68 ls_X8_201 (kX8_at p1 (nI 3) _) (by decide) (Nat.le_of_ble_eq_true rfl) ?_
      refine v_iaload C dX8_waits_71 ck_47 (by decide) rfl ?_
      refine v_istore_nL (lv0 := [(0, .ref (adr Y 8 0)), (1, .int p1), (2, .int p2)]) C dX8_waits_72 rfl (by decide) rfl (fun x7 => ?_)
      refine v_aload_n 1 C dX8_waits_73 rfl ?_
      refine v_getc C dX8_waits_74 lf_X8_27 ck_8 rfl ?_
      refine v_iload_n 2 C dX8_waits_77 rfl ?_
      refine v_iconst C dX8_waits_78 kc_iconst_3 ?_
      refine v_cS2p C dX8_waits_79 ls_X8_201 (kX8_at p1 (nI 3) _) (by decide) (Nat.le_of_ble_eq_true rfl) ?_
      refine v_iload_n 3 C dX8_waits_82 rfl ?_
      refine v_iconst C dX8_waits_83 kc_iconst_m1 ?_
      refine v_cut (pcJ := 93) (lv := [(3, .int x7), (0, .ref (adr Y 8 0)), (1, .int p1), (2, .int p2)]) (st := .int (if p2 = (-1) then (-2) else p2) :: [.int (fX8_at p1 (nI 3)), .ref (adr Y 47 0)]) ?_ (fun hj8 => ?_)
      rotate_left
      · skip
        refine v_icmp_ne_b (tgt := 92) C dX8_waits_84 (by decide) (fun h9 => ?_) (fun h9 => ?_)
        · have hj10 := v_jneg h9 hj8
          refine v_iload_n 3 C dX8_waits_92 rfl ?_
          exact hj10
        · have hj10 := v_jpos h9 hj8
          refine v_bipush C dX8_waits_87 kc_bipush_m2 ?_
          refine v_goto (tgt := 93) C dX8_waits_89 (by decide) ?_
          exact hj10
      refine v_iastoreL C dX8_waits_93 ck_47 (by decide) rfl (fun σ11 => ?_)
      refine v_iload_n 0 C dX8_waits_94 rfl ?_
      exact v_iret C M dX8_waits_95
    · skip
      refine v_iconst C dX8_waits_60 kc_iconst_m1 ?_
      exact v_iret C M dX8_waits_61
  · intro j54 hj54
    refine v_if_ne (tgt := 13) C dX8_waits_6 (by decide) ?_ ?_
    · skip
      refine v_iload_n 2 C dX8_waits_13 rfl ?_
      refine v_iconst C dX8_waits_14 kc_iconst_m1 ?_
      refine v_jn (fun j35 => ∀ (σ12 : St), V Y gI 35 [(0, .ref (adr Y 8 0)), (1, .int p1), (2, .int p2)] [.ref (adr Y 8 0)] σ12 (j35 σ12)) ?_ ?_
      · intro σ12
        refine v_iload_n 2 C dX8_waits_35 rfl ?_
        refine v_iconst C dX8_waits_36 kc_iconst_m1 ?_
        refine v_jn (fun j53 => ∀ (σ13 : St), V Y gI 53 [(0, .ref (adr Y 8 0)), (1, .int p1), (2, .int p2)] [.ref (adr Y 8 0)] σ13 (j53 σ13)) ?_ ?_
        · intro σ13
          refine v_iconst C dX8_waits_53 kc_iconst_0 ?_
          exact v_lv (hj54 0 σ13) [0, 1, 2] rfl
        · intro j53 hj53
          refine v_icmp_eq (tgt := 53) C dX8_waits_37 (by decide) ?_ ?_
          · skip
            exact v_lv (hj53 σ12) [0, 1, 2] rfl
          · skip
            refine v_aload_n 0 C dX8_waits_40 rfl ?_
            refine v_iload_n 2 C dX8_waits_41 rfl ?_
            refine v_iload_n 1 C dX8_waits_42 rfl ?_
            refine v_cV2i C dX8_waits_43 lv_X8_205 ck_8 (kX8_doesWait p2 p1 _) (by decide) (Nat.le_of_ble_eq_true rfl) (fun r15 σ14 => ?_)
            refine v_if_eq (tgt := 53) C dX8_waits_46 (by decide) ?_ ?_
            · skip
              exact v_lv (hj53 σ14) [0, 1, 2] rfl
            · skip
              refine v_iconst C dX8_waits_49 kc_iconst_5 ?_
              refine v_goto (tgt := 54) C dX8_waits_50 (by decide) ?_
              exact v_lv (hj54 (nI 5) σ14) [0, 1, 2] rfl
      · intro j35 hj35
        refine v_icmp_eq (tgt := 35) C dX8_waits_15 (by decide) ?_ ?_
        · skip
          exact v_lv (hj35 σ1) [0, 1, 2] rfl
        · skip
          refine v_aload_n 0 C dX8_waits_18 rfl ?_
          refine v_iload_n 2 C dX8_waits_19 rfl ?_
          refine v_cV1i C dX8_waits_20 lv_X8_268 ck_8 (kX8_isBoard p2 _) (by decide) (Nat.le_of_ble_eq_true rfl) (fun r17 σ16 => ?_)
          refine v_jn (fun j31 => ∀ (σ18 : St), V Y gI 31 [(0, .ref (adr Y 8 0)), (1, .int p1), (2, .int p2)] [.ref (adr Y 8 0)] σ18 (j31 σ18)) ?_ ?_
          · intro σ18
            refine v_iconst C dX8_waits_31 kc_iconst_2 ?_
            refine v_goto (tgt := 54) C dX8_waits_32 (by decide) ?_
            exact v_lv (hj54 (nI 2) σ18) [0, 1, 2] rfl
          · intro j31 hj31
            refine v_if_eq (tgt := 31) C dX8_waits_23 (by decide) ?_ ?_
            · skip
              exact v_lv (hj31 σ16) [0, 1, 2] rfl
            · skip
              refine v_iload_n 2 C dX8_waits_26 rfl ?_
              refine v_iload_n 1 C dX8_waits_27 rfl ?_
              refine v_icmp_ne (tgt := 35) C dX8_waits_28 (by decide) ?_ ?_
              · skip
                exact v_lv (hj35 σ16) [0, 1, 2] rfl
              · skip
                exact v_lv (hj31 σ16) [0, 1, 2] rfl
    · skip
      refine v_iconst C dX8_waits_9 kc_iconst_1 ?_
      refine v_goto (tgt := 54) C dX8_waits_10 (by decide) ?_
      exact v_lv (hj54 (nI 1) σ1) [0, 1, 2] rfl
-- OpenLinesModel stick(II)I, depth 1
def fX8_stick (p1 : Int32) (p2 : Int32) (σ : St) : Option (Int32 × St) :=
  bd (fX8_isRefused (if (σ.1 8 0 9) = 0 then (nI 1) else (if (fX8_in p1 0 (nI 5)) = 0 then (nI 1) else (if (fX8_in p2 0 (nI 2)) = 0 then (nI 2) else 0))) σ) fun (r9 : Int32) (σ8 : St) => (if r9 = 0 then gi ((nI 12) + p1) 251 <| lt (σ8.1 47 0 ((nI 12) + p1).toNatClampNeg) fun (x10 : Int32) => gi ((nI 12) + p1) 251 <| lt (wI σ8 47 0 ((nI 12) + p1).toNatClampNeg p2) fun (σ11 : St) => some (x10, σ11) else some ((-1), σ8))
set_option maxRecDepth 20000 in
theorem kX8_stick {X : Cx} (p1 : Int32) (p2 : Int32) (σ : St) : Kon X 1 yX8_stick cX8_stick 4 (some .int) gI [.ref (adr X 8 0), .int p1, .int p2] σ (fX8_stick p1 p2 σ) := by
  refine konJ (own := RX8) (fun _ => gI) (fun a b => [.ref (a 8 0), .int p1, .int p2]) (by decide +kernel) rfl (fun _ _ => Nat.le_of_ble_eq_true rfl) (fun Y C M => ?_)
  show V Y gI 0 [(0, .ref (adr Y 8 0)), (1, .int p1), (2, .int p2)] [] σ (fX8_stick p1 p2 σ)
  unfold fX8_stick
  refine v_aload_n 0 C dX8_stick_0 rfl ?_
  refine v_aload_n 0 C dX8_stick_1 rfl ?_
  refine v_geti C dX8_stick_2 lf_X8_192 ck_8 (by decide) ?_
  refine v_cut (pcJ := 35) (lv := [(0, .ref (adr Y 8 0)), (1, .int p1), (2, .int p2)]) (st := .int (if (σ.1 8 0 9) = 0 then (nI 1) else (if (fX8_in p1 0 (nI 5)) = 0 then (nI 1) else (if (fX8_in p2 0 (nI 2)) = 0 then (nI 2) else 0))) :: [.ref (adr Y 8 0)]) ?_ (fun hj1 => ?_)
  rotate_left
  · skip
    refine v_if_eq_b (tgt := 17) C dX8_stick_5 (by decide) (fun h2 => ?_) (fun h2 => ?_)
    · have hj3 := v_jpos h2 hj1
      refine v_iconst C dX8_stick_17 kc_iconst_1 ?_
      refine v_goto (tgt := 35) C dX8_stick_18 (by decide) ?_
      exact hj3
    · have hj3 := v_jneg h2 hj1
      refine v_iload_n 1 C dX8_stick_8 rfl ?_
      refine v_iconst C dX8_stick_9 kc_iconst_0 ?_
      refine v_iconst C dX8_stick_10 kc_iconst_5 ?_
      refine v_cS3p C dX8_stick_11 ls_X8_83 (kX8_in p1 0 (nI 5) _) (by decide) (Nat.le_of_ble_eq_true rfl) ?_
      refine v_if_ne_b (tgt := 21) C dX8_stick_14 (by decide) (fun h4 => ?_) (fun h4 => ?_)
      · have hj5 := v_jneg h4 hj3
        refine v_iload_n 2 C dX8_stick_21 rfl ?_
        refine v_iconst C dX8_stick_22 kc_iconst_0 ?_
        refine v_iconst C dX8_stick_23 kc_iconst_2 ?_
        refine v_cS3p C dX8_stick_24 ls_X8_83 (kX8_in p2 0 (nI 2) _) (by decide) (Nat.le_of_ble_eq_true rfl) ?_
        refine v_if_eq_b (tgt := 34) C dX8_stick_27 (by decide) (fun h6 => ?_) (fun h6 => ?_)
        · have hj7 := v_jpos h6 hj5
          refine v_iconst C dX8_stick_34 kc_iconst_2 ?_
          exact hj7
        · have hj7 := v_jneg h6 hj5
          refine v_iconst C dX8_stick_30 kc_iconst_0 ?_
          refine v_goto (tgt := 35) C dX8_stick_31 (by decide) ?_
          exact hj7
      · have hj5 := v_jpos h4 hj3
        refine v_iconst C dX8_stick_17 kc_iconst_1 ?_
        refine v_goto (tgt := 35) C dX8_stick_18 (by decide) ?_
        exact hj5
  refine v_cV1i C dX8_stick_35 lv_X8_180 ck_8 (kX8_isRefused (if (σ.1 8 0 9) = 0 then (nI 1) else (if (fX8_in p1 0 (nI 5)) = 0 then (nI 1) else (if (fX8_in p2 0 (nI 2)) = 0 then (nI 2) else 0))) _) (by decide) (Nat.le_of_ble_eq_true rfl) (fun r9 σ8 => ?_)
  refine v_if_eq (tgt := 43) C dX8_stick_38 (by decide) ?_ ?_
  · skip
    refine v_aload_n 0 C dX8_stick_43 rfl ?_
    refine v_getc C dX8_stick_44 lf_X8_27 ck_8 rfl ?_
    refine v_bipush C dX8_stick_47 kc_bipush_12 ?_
    refine v_iload_n 1 C dX8_stick_49 rfl ?_
    refine v_iadd C dX8_stick_50 ?_
    refine v_iaload C dX8_stick_51 ck_47 (by decide) rfl ?_
    refine v_istore_nL (lv0 := [(0, .ref (adr Y 8 0)), (1, .int p1), (2, .int p2)]) C dX8_stick_52 rfl (by decide) rfl (fun x10 => ?_)
    refine v_aload_n 1 C dX8_stick_53 rfl ?_
    refine v_getc C dX8_stick_54 lf_X8_27 ck_8 rfl ?_
    refine v_bipush C dX8_stick_57 kc_bipush_12 ?_
    refine v_iload_n 2 C dX8_stick_59 rfl ?_
    refine v_iadd C dX8_stick_60 ?_
    refine v_iload_n 3 C dX8_stick_61 rfl ?_
    refine v_iastoreL C dX8_stick_62 ck_47 (by decide) rfl (fun σ11 => ?_)
    refine v_iload_n 0 C dX8_stick_63 rfl ?_
    exact v_iret C M dX8_stick_64
  · skip
    refine v_iconst C dX8_stick_41 kc_iconst_m1 ?_
    exact v_iret C M dX8_stick_42
-- OpenLinesModel ticks(I)I, depth 7
def LX8_ticks_38 (a1 : Int32) (ke : St → Option (Int32 × St)) : Nat → Int32 → St → Option (Int32 × St)
  | 0, _, _ => none
  | n + 1, b2, σ => (if a1 ≤ b2 then ke σ else bd (fX8_tick σ) fun _ (σ8 : St) => LX8_ticks_38 a1 ke n (b2 + nI 1) σ8)
def fX8_ticks (p1 : Int32) (σ : St) : Option (Int32 × St) :=
  bd (fX8_isRefused (if (σ.1 8 0 9) = 0 then (nI 1) else (if (fX8_in p1 (nI 1) (nI 999)) = 0 then (nI 2) else 0)) σ) fun (r7 : Int32) (σ6 : St) => (if r7 = 0 then (LX8_ticks_38 p1 (fun (σ9 : St) => gi (nI 1) 251 <| some (σ9.1 47 0 (nI 1).toNatClampNeg, σ9)) FU 0 σ6) else some ((-1), σ6))
set_option maxRecDepth 20000 in
theorem vLX8_ticks_38 {Y : Cx} (a1 : Int32) (C : Ok Y RX8 cX8_ticks 3 7) (M : OkM Y (some .int)) (ke : St → Option (Int32 × St)) (hke : ∀ (σ : St), V Y gI 53 [(0, .ref (adr Y 8 0))] [] σ (ke σ)) : ∀ (n : Nat) (b2 : Int32) (σ : St), V Y gI 38 [(0, .ref (adr Y 8 0)), (1, .int a1), (2, .int b2)] [] σ (LX8_ticks_38 a1 ke n b2 σ) := by
  intro n
  induction n with
  | zero => intros; exact v_none
  | succ n ih =>
    intro b2 σ
    rw [LX8_ticks_38]
    refine v_iload_n 2 C dX8_ticks_38 rfl ?_
    refine v_iload_n 1 C dX8_ticks_39 rfl ?_
    refine v_icmp_ge (tgt := 53) C dX8_ticks_40 (by decide) ?_ ?_
    · skip
      exact v_lv (hke σ) [0] rfl
    · skip
      refine v_aload_n 0 C dX8_ticks_43 rfl ?_
      refine v_cV0v C dX8_ticks_44 lv_X8_334 ck_8 (kX8_tick _) (by decide) (Nat.le_of_ble_eq_true rfl) (fun _ σ8 => ?_)
      refine v_iinc (lv' := [(2, .int (b2 + nI 1)), (0, .ref (adr Y 8 0)), (1, .int a1)]) 2 C dX8_ticks_47 rfl (congrArg (b2 + ·) kc_iconst_1) (by decide) rfl ?_
      refine v_goto (tgt := 38) C dX8_ticks_50 (by decide) ?_
      exact v_lv (ih (b2 + nI 1) σ8) [1, 2, 0] rfl
set_option maxRecDepth 20000 in
theorem kX8_ticks {X : Cx} (p1 : Int32) (σ : St) : Kon X 7 yX8_ticks cX8_ticks 3 (some .int) gI [.ref (adr X 8 0), .int p1] σ (fX8_ticks p1 σ) := by
  refine konJ (own := RX8) (fun _ => gI) (fun a b => [.ref (a 8 0), .int p1]) (by decide +kernel) rfl (fun _ _ => Nat.le_of_ble_eq_true rfl) (fun Y C M => ?_)
  show V Y gI 0 [(0, .ref (adr Y 8 0)), (1, .int p1)] [] σ (fX8_ticks p1 σ)
  unfold fX8_ticks
  refine v_aload_n 0 C dX8_ticks_0 rfl ?_
  refine v_aload_n 0 C dX8_ticks_1 rfl ?_
  refine v_geti C dX8_ticks_2 lf_X8_192 ck_8 (by decide) ?_
  refine v_cut (pcJ := 28) (lv := [(0, .ref (adr Y 8 0)), (1, .int p1)]) (st := .int (if (σ.1 8 0 9) = 0 then (nI 1) else (if (fX8_in p1 (nI 1) (nI 999)) = 0 then (nI 2) else 0)) :: [.ref (adr Y 8 0)]) ?_ (fun hj1 => ?_)
  rotate_left
  · skip
    refine v_if_ne_b (tgt := 12) C dX8_ticks_5 (by decide) (fun h2 => ?_) (fun h2 => ?_)
    · have hj3 := v_jneg h2 hj1
      refine v_iload_n 1 C dX8_ticks_12 rfl ?_
      refine v_iconst C dX8_ticks_13 kc_iconst_1 ?_
      refine v_sipush C dX8_ticks_14 kc_sipush_999 ?_
      refine v_cS3p C dX8_ticks_17 ls_X8_83 (kX8_in p1 (nI 1) (nI 999) _) (by decide) (Nat.le_of_ble_eq_true rfl) ?_
      refine v_if_eq_b (tgt := 27) C dX8_ticks_20 (by decide) (fun h4 => ?_) (fun h4 => ?_)
      · have hj5 := v_jpos h4 hj3
        refine v_iconst C dX8_ticks_27 kc_iconst_2 ?_
        exact hj5
      · have hj5 := v_jneg h4 hj3
        refine v_iconst C dX8_ticks_23 kc_iconst_0 ?_
        refine v_goto (tgt := 28) C dX8_ticks_24 (by decide) ?_
        exact hj5
    · have hj3 := v_jpos h2 hj1
      refine v_iconst C dX8_ticks_8 kc_iconst_1 ?_
      refine v_goto (tgt := 28) C dX8_ticks_9 (by decide) ?_
      exact hj3
  refine v_cV1i C dX8_ticks_28 lv_X8_180 ck_8 (kX8_isRefused (if (σ.1 8 0 9) = 0 then (nI 1) else (if (fX8_in p1 (nI 1) (nI 999)) = 0 then (nI 2) else 0)) _) (by decide) (Nat.le_of_ble_eq_true rfl) (fun r7 σ6 => ?_)
  refine v_if_eq (tgt := 36) C dX8_ticks_31 (by decide) ?_ ?_
  · skip
    refine v_iconst C dX8_ticks_36 kc_iconst_0 ?_
    refine v_istore_n (lv' := [(2, .int 0), (0, .ref (adr Y 8 0)), (1, .int p1)]) C dX8_ticks_37 rfl (by decide) rfl ?_
    refine v_lv (vLX8_ticks_38 _ C M _ (fun σ9 => ?_) FU _ _) [1, 2, 0] rfl
    refine v_aload_n 0 C dX8_ticks_53 rfl ?_
    refine v_getc C dX8_ticks_54 lf_X8_27 ck_8 rfl ?_
    refine v_iconst C dX8_ticks_57 kc_iconst_1 ?_
    refine v_iaload C dX8_ticks_58 ck_47 (by decide) rfl ?_
    exact v_iret C M dX8_ticks_59
  · skip
    refine v_iconst C dX8_ticks_34 kc_iconst_m1 ?_
    exact v_iret C M dX8_ticks_35
-- OpenLinesModel keep()Z, depth 1
def LX8_keep_18 (ke : St → Option (Int32 × St)) : Nat → Int32 → St → Option (Int32 × St)
  | 0, _, _ => none
  | n + 1, b1, σ => (if (nI 251) ≤ b1 then ke σ else gi b1 251 <| gi b1 251 <| lt (wI σ 49 0 b1.toNatClampNeg (σ.1 47 0 b1.toNatClampNeg)) fun (σ3 : St) => LX8_keep_18 ke n (b1 + nI 1) σ3)
def fX8_keep (σ : St) : Option (Int32 × St) :=
  bd (fX8_isRefused (fX8_unless (σ.1 8 0 9)) σ) fun (r2 : Int32) (σ1 : St) => (if r2 = 0 then (LX8_keep_18 (fun (σ4 : St) => gd ((nI 1) = 0 ∨ (nI 1) = 1) <| lt (wI σ4 8 0 21 (nI 1)) fun (σ5 : St) => some (nI 1, σ5)) FU 0 σ1) else some (0, σ1))
set_option maxRecDepth 20000 in
theorem vLX8_keep_18 {Y : Cx} (C : Ok Y RX8 cX8_keep 2 1) (M : OkM Y (some .boolean)) (ke : St → Option (Int32 × St)) (hke : ∀ (σ : St), V Y gI 43 [(0, .ref (adr Y 8 0))] [] σ (ke σ)) : ∀ (n : Nat) (b1 : Int32) (σ : St), V Y gI 18 [(0, .ref (adr Y 8 0)), (1, .int b1)] [] σ (LX8_keep_18 ke n b1 σ) := by
  intro n
  induction n with
  | zero => intros; exact v_none
  | succ n ih =>
    intro b1 σ
    rw [LX8_keep_18]
    refine v_iload_n 1 C dX8_keep_18 rfl ?_
    refine v_sipush C dX8_keep_19 kc_sipush_251 ?_
    refine v_icmp_ge (tgt := 43) C dX8_keep_22 (by decide) ?_ ?_
    · skip
      exact v_lv (hke σ) [0] rfl
    · skip
      refine v_aload_n 0 C dX8_keep_25 rfl ?_
      refine v_getc C dX8_keep_26 lf_X8_33 ck_8 rfl ?_
      refine v_iload_n 1 C dX8_keep_29 rfl ?_
      refine v_aload_n 0 C dX8_keep_30 rfl ?_
      refine v_getc C dX8_keep_31 lf_X8_27 ck_8 rfl ?_
      refine v_iload_n 1 C dX8_keep_34 rfl ?_
      refine v_iaload C dX8_keep_35 ck_47 (by decide) rfl ?_
      refine v_iastoreL C dX8_keep_36 ck_49 (by decide) rfl (fun σ3 => ?_)
      refine v_iinc (lv' := [(1, .int (b1 + nI 1)), (0, .ref (adr Y 8 0))]) 1 C dX8_keep_37 rfl (congrArg (b1 + ·) kc_iconst_1) (by decide) rfl ?_
      refine v_goto (tgt := 18) C dX8_keep_40 (by decide) ?_
      exact v_lv (ih (b1 + nI 1) σ3) [1, 0] rfl
set_option maxRecDepth 20000 in
theorem kX8_keep {X : Cx} (σ : St) : Kon X 1 yX8_keep cX8_keep 2 (some .boolean) gI [.ref (adr X 8 0)] σ (fX8_keep σ) := by
  refine konJ (own := RX8) (fun _ => gI) (fun a b => [.ref (a 8 0)]) (by decide +kernel) rfl (fun _ _ => Nat.le_of_ble_eq_true rfl) (fun Y C M => ?_)
  show V Y gI 0 [(0, .ref (adr Y 8 0))] [] σ (fX8_keep σ)
  unfold fX8_keep
  refine v_aload_n 0 C dX8_keep_0 rfl ?_
  refine v_aload_n 0 C dX8_keep_1 rfl ?_
  refine v_geti C dX8_keep_2 lf_X8_192 ck_8 (by decide) ?_
  refine v_cS1p C dX8_keep_5 ls_X8_324 (kX8_unless (σ.1 8 0 9) _) (by decide) (Nat.le_of_ble_eq_true rfl) ?_
  refine v_cV1i C dX8_keep_8 lv_X8_180 ck_8 (kX8_isRefused (fX8_unless (σ.1 8 0 9)) _) (by decide) (Nat.le_of_ble_eq_true rfl) (fun r2 σ1 => ?_)
  refine v_if_eq (tgt := 16) C dX8_keep_11 (by decide) ?_ ?_
  · skip
    refine v_iconst C dX8_keep_16 kc_iconst_0 ?_
    refine v_istore_n (lv' := [(1, .int 0), (0, .ref (adr Y 8 0))]) C dX8_keep_17 rfl (by decide) rfl ?_
    refine v_lv (vLX8_keep_18 C M _ (fun σ4 => ?_) FU _ _) [1, 0] rfl
    refine v_aload_n 0 C dX8_keep_43 rfl ?_
    refine v_iconst C dX8_keep_44 kc_iconst_1 ?_
    refine v_putzL C dX8_keep_45 lp_X8_195 ck_8 (by decide) (fun σ5 => ?_)
    refine v_iconst C dX8_keep_48 kc_iconst_1 ?_
    exact v_zret C M (by decide) dX8_keep_49
  · skip
    refine v_iconst C dX8_keep_14 kc_iconst_0 ?_
    exact v_zret C M (by decide) dX8_keep_15
-- OpenLinesModel back()Z, depth 1
def LX8_back_18 (ke : St → Option (Int32 × St)) : Nat → Int32 → St → Option (Int32 × St)
  | 0, _, _ => none
  | n + 1, b1, σ => (if (nI 251) ≤ b1 then ke σ else gi b1 251 <| gi b1 251 <| lt (wI σ 47 0 b1.toNatClampNeg (σ.1 49 0 b1.toNatClampNeg)) fun (σ3 : St) => LX8_back_18 ke n (b1 + nI 1) σ3)
def fX8_back (σ : St) : Option (Int32 × St) :=
  bd (fX8_isRefused (fX8_unless (σ.1 8 0 21)) σ) fun (r2 : Int32) (σ1 : St) => (if r2 = 0 then (LX8_back_18 (fun (σ4 : St) => some (nI 1, σ4)) FU 0 σ1) else some (0, σ1))
set_option maxRecDepth 20000 in
theorem vLX8_back_18 {Y : Cx} (C : Ok Y RX8 cX8_back 2 1) (M : OkM Y (some .boolean)) (ke : St → Option (Int32 × St)) (hke : ∀ (σ : St), V Y gI 43 [] [] σ (ke σ)) : ∀ (n : Nat) (b1 : Int32) (σ : St), V Y gI 18 [(0, .ref (adr Y 8 0)), (1, .int b1)] [] σ (LX8_back_18 ke n b1 σ) := by
  intro n
  induction n with
  | zero => intros; exact v_none
  | succ n ih =>
    intro b1 σ
    rw [LX8_back_18]
    refine v_iload_n 1 C dX8_back_18 rfl ?_
    refine v_sipush C dX8_back_19 kc_sipush_251 ?_
    refine v_icmp_ge (tgt := 43) C dX8_back_22 (by decide) ?_ ?_
    · skip
      exact v_lv (hke σ) [] rfl
    · skip
      refine v_aload_n 0 C dX8_back_25 rfl ?_
      refine v_getc C dX8_back_26 lf_X8_27 ck_8 rfl ?_
      refine v_iload_n 1 C dX8_back_29 rfl ?_
      refine v_aload_n 0 C dX8_back_30 rfl ?_
      refine v_getc C dX8_back_31 lf_X8_33 ck_8 rfl ?_
      refine v_iload_n 1 C dX8_back_34 rfl ?_
      refine v_iaload C dX8_back_35 ck_49 (by decide) rfl ?_
      refine v_iastoreL C dX8_back_36 ck_47 (by decide) rfl (fun σ3 => ?_)
      refine v_iinc (lv' := [(1, .int (b1 + nI 1)), (0, .ref (adr Y 8 0))]) 1 C dX8_back_37 rfl (congrArg (b1 + ·) kc_iconst_1) (by decide) rfl ?_
      refine v_goto (tgt := 18) C dX8_back_40 (by decide) ?_
      exact v_lv (ih (b1 + nI 1) σ3) [1, 0] rfl
set_option maxRecDepth 20000 in
theorem kX8_back {X : Cx} (σ : St) : Kon X 1 yX8_back cX8_back 2 (some .boolean) gI [.ref (adr X 8 0)] σ (fX8_back σ) := by
  refine konJ (own := RX8) (fun _ => gI) (fun a b => [.ref (a 8 0)]) (by decide +kernel) rfl (fun _ _ => Nat.le_of_ble_eq_true rfl) (fun Y C M => ?_)
  show V Y gI 0 [(0, .ref (adr Y 8 0))] [] σ (fX8_back σ)
  unfold fX8_back
  refine v_aload_n 0 C dX8_back_0 rfl ?_
  refine v_aload_n 0 C dX8_back_1 rfl ?_
  refine v_geti C dX8_back_2 lf_X8_195 ck_8 (by decide) ?_
  refine v_cS1p C dX8_back_5 ls_X8_324 (kX8_unless (σ.1 8 0 21) _) (by decide) (Nat.le_of_ble_eq_true rfl) ?_
  refine v_cV1i C dX8_back_8 lv_X8_180 ck_8 (kX8_isRefused (fX8_unless (σ.1 8 0 21)) _) (by decide) (Nat.le_of_ble_eq_true rfl) (fun r2 σ1 => ?_)
  refine v_if_eq (tgt := 16) C dX8_back_11 (by decide) ?_ ?_
  · skip
    refine v_iconst C dX8_back_16 kc_iconst_0 ?_
    refine v_istore_n (lv' := [(1, .int 0), (0, .ref (adr Y 8 0))]) C dX8_back_17 rfl (by decide) rfl ?_
    refine v_lv (vLX8_back_18 C M _ (fun σ4 => ?_) FU _ _) [1, 0] rfl
    refine v_iconst C dX8_back_43 kc_iconst_1 ?_
    exact v_zret C M (by decide) dX8_back_44
  · skip
    refine v_iconst C dX8_back_14 kc_iconst_0 ?_
    exact v_zret C M (by decide) dX8_back_15
-- OpenLinesModel bySlot(I)I, depth 0
def LX8_bySlot_17 (a1 : Int32) (a2 : Int32) (ke : Int32 → St → Option (Int32 × St)) : Nat → Int32 → Int32 → St → Option (Int32 × St)
  | 0, _, _, _ => none
  | n + 1, b3, b4, σ => gi (nI 3) 59 <| (if (σ.1 44 0 (nI 3).toNatClampNeg) ≤ b4 then ke b3 σ else gi ((nI 5) + b4) 59 <| gi ((nI 5) + a2) 59 <| lt (b3 + (if (σ.1 44 0 ((nI 5) + a2).toNatClampNeg) ≤ (σ.1 44 0 ((nI 5) + b4).toNatClampNeg) then 0 else (nI 1))) fun (x4 : Int32) => LX8_bySlot_17 a1 a2 ke n x4 (b4 + nI 1) σ)
def LX8_bySlot_2 (a1 : Int32) (ke : St → Option (Int32 × St)) : Nat → Int32 → St → Option (Int32 × St)
  | 0, _, _ => none
  | n + 1, b2, σ => gi (nI 3) 59 <| (if (σ.1 44 0 (nI 3).toNatClampNeg) ≤ b2 then ke σ else (LX8_bySlot_17 a1 b2 (fun (x5 : Int32) (σ6 : St) => (if x5 = a1 then some (b2, σ6) else LX8_bySlot_2 a1 ke n (b2 + nI 1) σ6)) FU 0 0 σ))
def fX8_bySlot (p1 : Int32) (σ : St) : Option (Int32 × St) :=
  (LX8_bySlot_2 p1 (fun (σ7 : St) => some ((-1), σ7)) FU 0 σ)
set_option maxRecDepth 20000 in
theorem vLX8_bySlot_17 {Y : Cx} (a1 : Int32) (a2 : Int32) (C : Ok Y RX8 cX8_bySlot 5 0) (M : OkM Y (some .int)) (ke : Int32 → St → Option (Int32 × St)) (hke : ∀ (b3 : Int32) (σ : St), V Y gI 62 [(0, .ref (adr Y 8 0)), (1, .int a1), (2, .int a2), (3, .int b3)] [] σ (ke b3 σ)) : ∀ (n : Nat) (b3 : Int32) (b4 : Int32) (σ : St), V Y gI 17 [(0, .ref (adr Y 8 0)), (1, .int a1), (2, .int a2), (3, .int b3), (4, .int b4)] [] σ (LX8_bySlot_17 a1 a2 ke n b3 b4 σ) := by
  intro n
  induction n with
  | zero => intros; exact v_none
  | succ n ih =>
    intro b3 b4 σ
    rw [LX8_bySlot_17]
    refine v_iload 4 C dX8_bySlot_17 rfl ?_
    refine v_aload_n 0 C dX8_bySlot_19 rfl ?_
    refine v_getc C dX8_bySlot_20 lf_X8_17 ck_8 rfl ?_
    refine v_iconst C dX8_bySlot_23 kc_iconst_3 ?_
    refine v_iaload C dX8_bySlot_24 ck_44 (by decide) rfl ?_
    refine v_icmp_ge (tgt := 62) C dX8_bySlot_25 (by decide) ?_ ?_
    · skip
      exact v_lv (hke b3 σ) [0, 1, 2, 3] rfl
    · skip
      refine v_iload_n 3 C dX8_bySlot_28 rfl ?_
      refine v_aload_n 0 C dX8_bySlot_29 rfl ?_
      refine v_getc C dX8_bySlot_30 lf_X8_17 ck_8 rfl ?_
      refine v_iconst C dX8_bySlot_33 kc_iconst_5 ?_
      refine v_iload 4 C dX8_bySlot_34 rfl ?_
      refine v_iadd C dX8_bySlot_36 ?_
      refine v_iaload C dX8_bySlot_37 ck_44 (by decide) rfl ?_
      refine v_aload_n 0 C dX8_bySlot_38 rfl ?_
      refine v_getc C dX8_bySlot_39 lf_X8_17 ck_8 rfl ?_
      refine v_iconst C dX8_bySlot_42 kc_iconst_5 ?_
      refine v_iload_n 2 C dX8_bySlot_43 rfl ?_
      refine v_iadd C dX8_bySlot_44 ?_
      refine v_iaload C dX8_bySlot_45 ck_44 (by decide) rfl ?_
      refine v_cut (pcJ := 54) (lv := [(0, .ref (adr Y 8 0)), (1, .int a1), (2, .int a2), (3, .int b3), (4, .int b4)]) (st := .int (if (σ.1 44 0 ((nI 5) + a2).toNatClampNeg) ≤ (σ.1 44 0 ((nI 5) + b4).toNatClampNeg) then 0 else (nI 1)) :: [.int b3]) ?_ (fun hj1 => ?_)
      rotate_left
      · skip
        refine v_icmp_ge_b (tgt := 53) C dX8_bySlot_46 (by decide) (fun h2 => ?_) (fun h2 => ?_)
        · have hj3 := v_jpos h2 hj1
          refine v_iconst C dX8_bySlot_53 kc_iconst_0 ?_
          exact hj3
        · have hj3 := v_jneg h2 hj1
          refine v_iconst C dX8_bySlot_49 kc_iconst_1 ?_
          refine v_goto (tgt := 54) C dX8_bySlot_50 (by decide) ?_
          exact hj3
      refine v_iadd C dX8_bySlot_54 ?_
      refine v_istore_nL (lv0 := [(0, .ref (adr Y 8 0)), (1, .int a1), (2, .int a2), (4, .int b4)]) C dX8_bySlot_55 rfl (by decide) rfl (fun x4 => ?_)
      refine v_iinc (lv' := [(4, .int (b4 + nI 1)), (3, .int x4), (0, .ref (adr Y 8 0)), (1, .int a1), (2, .int a2)]) 4 C dX8_bySlot_56 rfl (congrArg (b4 + ·) kc_iconst_1) (by decide) rfl ?_
      refine v_goto (tgt := 17) C dX8_bySlot_59 (by decide) ?_
      exact v_lv (ih x4 (b4 + nI 1) σ) [2, 3, 4, 1, 0] rfl
set_option maxRecDepth 20000 in
theorem vLX8_bySlot_2 {Y : Cx} (a1 : Int32) (C : Ok Y RX8 cX8_bySlot 5 0) (M : OkM Y (some .int)) (ke : St → Option (Int32 × St)) (hke : ∀ (σ : St), V Y gI 75 [] [] σ (ke σ)) : ∀ (n : Nat) (b2 : Int32) (σ : St), V Y gI 2 [(0, .ref (adr Y 8 0)), (1, .int a1), (2, .int b2)] [] σ (LX8_bySlot_2 a1 ke n b2 σ) := by
  intro n
  induction n with
  | zero => intros; exact v_none
  | succ n ih =>
    intro b2 σ
    rw [LX8_bySlot_2]
    refine v_iload_n 2 C dX8_bySlot_2 rfl ?_
    refine v_aload_n 0 C dX8_bySlot_3 rfl ?_
    refine v_getc C dX8_bySlot_4 lf_X8_17 ck_8 rfl ?_
    refine v_iconst C dX8_bySlot_7 kc_iconst_3 ?_
    refine v_iaload C dX8_bySlot_8 ck_44 (by decide) rfl ?_
    refine v_icmp_ge (tgt := 75) C dX8_bySlot_9 (by decide) ?_ ?_
    · skip
      exact v_lv (hke σ) [] rfl
    · skip
      refine v_iconst C dX8_bySlot_12 kc_iconst_0 ?_
      refine v_istore_n (lv' := [(3, .int 0), (0, .ref (adr Y 8 0)), (1, .int a1), (2, .int b2)]) C dX8_bySlot_13 rfl (by decide) rfl ?_
      refine v_iconst C dX8_bySlot_14 kc_iconst_0 ?_
      refine v_istore (lv' := [(4, .int 0), (3, .int 0), (0, .ref (adr Y 8 0)), (1, .int a1), (2, .int b2)]) C dX8_bySlot_15 (by decide) rfl ?_
      refine v_lv (vLX8_bySlot_17 _ _ C M _ (fun x5 σ6 => ?_) FU _ _ _) [2, 3, 4, 1, 0] rfl
      refine v_iload_n 3 C dX8_bySlot_62 rfl ?_
      refine v_iload_n 1 C dX8_bySlot_63 rfl ?_
      refine v_icmp_ne (tgt := 69) C dX8_bySlot_64 (by decide) ?_ ?_
      · skip
        refine v_iinc (lv' := [(2, .int (b2 + nI 1)), (0, .ref (adr Y 8 0)), (1, .int a1), (3, .int x5)]) 2 C dX8_bySlot_69 rfl (congrArg (b2 + ·) kc_iconst_1) (by decide) rfl ?_
        refine v_goto (tgt := 2) C dX8_bySlot_72 (by decide) ?_
        exact v_lv (ih (b2 + nI 1) σ6) [1, 2, 0] rfl
      · skip
        refine v_iload_n 2 C dX8_bySlot_67 rfl ?_
        exact v_iret C M dX8_bySlot_68
set_option maxRecDepth 20000 in
theorem kX8_bySlot {X : Cx} (p1 : Int32) (σ : St) : Kon X 0 yX8_bySlot cX8_bySlot 5 (some .int) gI [.ref (adr X 8 0), .int p1] σ (fX8_bySlot p1 σ) := by
  refine konJ (own := RX8) (fun _ => gI) (fun a b => [.ref (a 8 0), .int p1]) (by decide +kernel) rfl (fun _ _ => Nat.le_of_ble_eq_true rfl) (fun Y C M => ?_)
  show V Y gI 0 [(0, .ref (adr Y 8 0)), (1, .int p1)] [] σ (fX8_bySlot p1 σ)
  unfold fX8_bySlot
  refine v_iconst C dX8_bySlot_0 kc_iconst_0 ?_
  refine v_istore_n (lv' := [(2, .int 0), (0, .ref (adr Y 8 0)), (1, .int p1)]) C dX8_bySlot_1 rfl (by decide) rfl ?_
  refine v_lv (vLX8_bySlot_2 _ C M _ (fun σ7 => ?_) FU _ _) [1, 2, 0] rfl
  refine v_iconst C dX8_bySlot_75 kc_iconst_m1 ?_
  exact v_iret C M dX8_bySlot_76
-- OpenLinesModel never(I)I, depth 1
def LX8_never_9 (a1 : Int32) (ke : St → Option (Int32 × St)) : Nat → Int32 → Int32 → St → Option (Int32 × St)
  | 0, _, _, _ => none
  | n + 1, b2, b3, σ => (if (σ.1 8 0 9) = 0 then ke σ else gi (nI 3) 59 <| (if (σ.1 44 0 (nI 3).toNatClampNeg) ≤ b3 then ke σ else bd (fX8_bySlot b3 σ) fun (r3 : Int32) (σ2 : St) => gi (fX8_at r3 (nI 6)) 251 <| (jn (fun (x5 : Int32) (σ4 : St) => LX8_never_9 a1 ke n x5 (b3 + nI 1) σ4) fun j59 => if (σ2.1 47 0 (fX8_at r3 (nI 6)).toNatClampNeg) = 0 then (if b2 = a1 then some (r3, σ2) else j59 (b2 + nI 1) σ2) else j59 b2 σ2)))
def fX8_never (p1 : Int32) (σ : St) : Option (Int32 × St) :=
  lt (wI σ 8 0 0 0) fun (σ1 : St) => (LX8_never_9 p1 (fun (σ6 : St) => lt (wI σ6 8 0 0 (nI 1)) fun (σ7 : St) => some (0, σ7)) FU 0 0 σ1)
set_option maxRecDepth 20000 in
theorem vLX8_never_9 {Y : Cx} (a1 : Int32) (C : Ok Y RX8 cX8_never 5 1) (M : OkM Y (some .int)) (ke : St → Option (Int32 × St)) (hke : ∀ (σ : St), V Y gI 65 [(0, .ref (adr Y 8 0))] [] σ (ke σ)) : ∀ (n : Nat) (b2 : Int32) (b3 : Int32) (σ : St), V Y gI 9 [(0, .ref (adr Y 8 0)), (1, .int a1), (2, .int b2), (3, .int b3)] [] σ (LX8_never_9 a1 ke n b2 b3 σ) := by
  intro n
  induction n with
  | zero => intros; exact v_none
  | succ n ih =>
    intro b2 b3 σ
    rw [LX8_never_9]
    refine v_aload_n 0 C dX8_never_9 rfl ?_
    refine v_geti C dX8_never_10 lf_X8_192 ck_8 (by decide) ?_
    refine v_if_eq (tgt := 65) C dX8_never_13 (by decide) ?_ ?_
    · skip
      exact v_lv (hke σ) [0] rfl
    · skip
      refine v_iload_n 3 C dX8_never_16 rfl ?_
      refine v_aload_n 0 C dX8_never_17 rfl ?_
      refine v_getc C dX8_never_18 lf_X8_17 ck_8 rfl ?_
      refine v_iconst C dX8_never_21 kc_iconst_3 ?_
      refine v_iaload C dX8_never_22 ck_44 (by decide) rfl ?_
      refine v_icmp_ge (tgt := 65) C dX8_never_23 (by decide) ?_ ?_
      · skip
        exact v_lv (hke σ) [0] rfl
      · skip
        refine v_aload_n 0 C dX8_never_26 rfl ?_
        refine v_iload_n 3 C dX8_never_27 rfl ?_
        refine v_cV1i C dX8_never_28 lv_X8_340 ck_8 (kX8_bySlot b3 _) (by decide) (Nat.le_of_ble_eq_true rfl) (fun r3 σ2 => ?_)
        refine v_istore (lv' := [(4, .int r3), (0, .ref (adr Y 8 0)), (1, .int a1), (2, .int b2), (3, .int b3)]) C dX8_never_31 (by decide) rfl ?_
        refine v_aload_n 1 C dX8_never_33 rfl ?_
        refine v_getc C dX8_never_34 lf_X8_27 ck_8 rfl ?_
        refine v_iload 0 C dX8_never_37 rfl ?_
        refine v_bipush C dX8_never_39 kc_bipush_6 ?_
        refine v_cS2p C dX8_never_41 ls_X8_201 (kX8_at r3 (nI 6) _) (by decide) (Nat.le_of_ble_eq_true rfl) ?_
        refine v_iaload C dX8_never_44 ck_47 (by decide) rfl ?_
        refine v_jn (fun j59 => ∀ (x5 : Int32) (σ4 : St), V Y gI 59 [(0, .ref (adr Y 8 0)), (1, .int a1), (2, .int x5), (3, .int b3)] [] σ4 (j59 x5 σ4)) ?_ ?_
        · intro x5 σ4
          refine v_iinc (lv' := [(3, .int (b3 + nI 1)), (0, .ref (adr Y 8 0)), (1, .int a1), (2, .int x5)]) 3 C dX8_never_59 rfl (congrArg (b3 + ·) kc_iconst_1) (by decide) rfl ?_
          refine v_goto (tgt := 9) C dX8_never_62 (by decide) ?_
          exact v_lv (ih x5 (b3 + nI 1) σ4) [1, 2, 3, 0] rfl
        · intro j59 hj59
          refine v_if_ne (tgt := 59) C dX8_never_45 (by decide) ?_ ?_
          · skip
            exact v_lv (hj59 b2 σ2) [1, 2, 3, 4] rfl
          · skip
            refine v_iload_n 3 C dX8_never_48 rfl ?_
            refine v_iload_n 2 C dX8_never_49 rfl ?_
            refine v_icmp_ne (tgt := 56) C dX8_never_50 (by decide) ?_ ?_
            · skip
              refine v_iinc (lv' := [(2, .int (b2 + nI 1)), (4, .int r3), (0, .ref (adr Y 8 0)), (1, .int a1), (3, .int b3)]) 3 C dX8_never_56 rfl (congrArg (b2 + ·) kc_iconst_1) (by decide) rfl ?_
              exact v_lv (hj59 (b2 + nI 1) σ2) [2, 3, 0, 4] rfl
            · skip
              refine v_iload 0 C dX8_never_53 rfl ?_
              exact v_iret C M dX8_never_55
set_option maxRecDepth 20000 in
theorem kX8_never {X : Cx} (p1 : Int32) (σ : St) : Kon X 1 yX8_never cX8_never 5 (some .int) gI [.ref (adr X 8 0), .int p1] σ (fX8_never p1 σ) := by
  refine konJ (own := RX8) (fun _ => gI) (fun a b => [.ref (a 8 0), .int p1]) (by decide +kernel) rfl (fun _ _ => Nat.le_of_ble_eq_true rfl) (fun Y C M => ?_)
  show V Y gI 0 [(0, .ref (adr Y 8 0)), (1, .int p1)] [] σ (fX8_never p1 σ)
  unfold fX8_never
  refine v_aload_n 0 C dX8_never_0 rfl ?_
  refine v_iconst C dX8_never_1 kc_iconst_0 ?_
  refine v_putiL C dX8_never_2 lp_X8_54 ck_8 (by decide) (fun σ1 => ?_)
  refine v_iconst C dX8_never_5 kc_iconst_0 ?_
  refine v_istore_n (lv' := [(2, .int 0), (0, .ref (adr Y 8 0)), (1, .int p1)]) C dX8_never_6 rfl (by decide) rfl ?_
  refine v_iconst C dX8_never_7 kc_iconst_0 ?_
  refine v_istore_n (lv' := [(3, .int 0), (2, .int 0), (0, .ref (adr Y 8 0)), (1, .int p1)]) C dX8_never_8 rfl (by decide) rfl ?_
  refine v_lv (vLX8_never_9 _ C M _ (fun σ6 => ?_) FU _ _ _) [2, 3, 1, 0] rfl
  refine v_aload_n 0 C dX8_never_65 rfl ?_
  refine v_iconst C dX8_never_66 kc_iconst_1 ?_
  refine v_putiL C dX8_never_67 lp_X8_54 ck_8 (by decide) (fun σ7 => ?_)
  refine v_iconst C dX8_never_70 kc_iconst_0 ?_
  exact v_iret C M dX8_never_71
-- OpenLinesModel size(I)I, depth 0
def LX8_size_9 (a1 : Int32) (ke : Int32 → St → Option (Int32 × St)) : Nat → Int32 → Int32 → St → Option (Int32 × St)
  | 0, _, _, _ => none
  | n + 1, b2, b3, σ => (if (nI 6) ≤ b3 then ke b2 σ else gi ((nI 12) + b3) 251 <| lt (b2 + (if (σ.1 47 0 ((nI 12) + b3).toNatClampNeg) = 0 then 0 else (nI 1))) fun (x5 : Int32) => LX8_size_9 a1 ke n x5 (b3 + nI 1) σ)
def fX8_size (p1 : Int32) (σ : St) : Option (Int32 × St) :=
  lt (wI σ 8 0 0 0) fun (σ1 : St) => (LX8_size_9 p1 (fun (x6 : Int32) (σ7 : St) => (if p1 = 0 then some (σ7.1 8 0 5, σ7) else if p1 = nI 1 then (if (σ7.1 8 0 9) = 0 then some (0, σ7) else gi (nI 4) 59 <| gi (nI 11) 251 <| some ((σ7.1 44 0 (nI 4).toNatClampNeg) - (σ7.1 47 0 (nI 11).toNatClampNeg), σ7)) else if p1 = nI 2 then some (if (σ7.1 8 0 21) = 0 then 0 else (nI 1), σ7) else if p1 = nI 3 then some (x6, σ7) else some ((-1), σ7))) FU 0 0 σ1)
set_option maxRecDepth 20000 in
theorem vLX8_size_9 {Y : Cx} (a1 : Int32) (C : Ok Y RX8 cX8_size 4 0) (M : OkM Y (some .int)) (ke : Int32 → St → Option (Int32 × St)) (hke : ∀ (b2 : Int32) (σ : St), V Y gI 41 [(0, .ref (adr Y 8 0)), (1, .int a1), (2, .int b2)] [] σ (ke b2 σ)) : ∀ (n : Nat) (b2 : Int32) (b3 : Int32) (σ : St), V Y gI 9 [(0, .ref (adr Y 8 0)), (1, .int a1), (2, .int b2), (3, .int b3)] [] σ (LX8_size_9 a1 ke n b2 b3 σ) := by
  intro n
  induction n with
  | zero => intros; exact v_none
  | succ n ih =>
    intro b2 b3 σ
    rw [LX8_size_9]
    refine v_iload_n 3 C dX8_size_9 rfl ?_
    refine v_bipush C dX8_size_10 kc_bipush_6 ?_
    refine v_icmp_ge (tgt := 41) C dX8_size_12 (by decide) ?_ ?_
    · skip
      exact v_lv (hke b2 σ) [0, 1, 2] rfl
    · skip
      refine v_iload_n 2 C dX8_size_15 rfl ?_
      refine v_aload_n 0 C dX8_size_16 rfl ?_
      refine v_getc C dX8_size_17 lf_X8_27 ck_8 rfl ?_
      refine v_bipush C dX8_size_20 kc_bipush_12 ?_
      refine v_iload_n 3 C dX8_size_22 rfl ?_
      refine v_iadd C dX8_size_23 ?_
      refine v_iaload C dX8_size_24 ck_47 (by decide) rfl ?_
      refine v_cut (pcJ := 33) (lv := [(0, .ref (adr Y 8 0)), (1, .int a1), (2, .int b2), (3, .int b3)]) (st := .int (if (σ.1 47 0 ((nI 12) + b3).toNatClampNeg) = 0 then 0 else (nI 1)) :: [.int b2]) ?_ (fun hj2 => ?_)
      rotate_left
      · skip
        refine v_if_ne_b (tgt := 32) C dX8_size_25 (by decide) (fun h3 => ?_) (fun h3 => ?_)
        · have hj4 := v_jneg h3 hj2
          refine v_iconst C dX8_size_32 kc_iconst_1 ?_
          exact hj4
        · have hj4 := v_jpos h3 hj2
          refine v_iconst C dX8_size_28 kc_iconst_0 ?_
          refine v_goto (tgt := 33) C dX8_size_29 (by decide) ?_
          exact hj4
      refine v_iadd C dX8_size_33 ?_
      refine v_istore_nL (lv0 := [(0, .ref (adr Y 8 0)), (1, .int a1), (3, .int b3)]) C dX8_size_34 rfl (by decide) rfl (fun x5 => ?_)
      refine v_iinc (lv' := [(3, .int (b3 + nI 1)), (2, .int x5), (0, .ref (adr Y 8 0)), (1, .int a1)]) 3 C dX8_size_35 rfl (congrArg (b3 + ·) kc_iconst_1) (by decide) rfl ?_
      refine v_goto (tgt := 9) C dX8_size_38 (by decide) ?_
      exact v_lv (ih x5 (b3 + nI 1) σ) [2, 3, 1, 0] rfl
set_option maxRecDepth 20000 in
theorem kX8_size {X : Cx} (p1 : Int32) (σ : St) : Kon X 0 yX8_size cX8_size 4 (some .int) gI [.ref (adr X 8 0), .int p1] σ (fX8_size p1 σ) := by
  refine konJ (own := RX8) (fun _ => gI) (fun a b => [.ref (a 8 0), .int p1]) (by decide +kernel) rfl (fun _ _ => Nat.le_of_ble_eq_true rfl) (fun Y C M => ?_)
  show V Y gI 0 [(0, .ref (adr Y 8 0)), (1, .int p1)] [] σ (fX8_size p1 σ)
  unfold fX8_size
  refine v_aload_n 0 C dX8_size_0 rfl ?_
  refine v_iconst C dX8_size_1 kc_iconst_0 ?_
  refine v_putiL C dX8_size_2 lp_X8_54 ck_8 (by decide) (fun σ1 => ?_)
  refine v_iconst C dX8_size_5 kc_iconst_0 ?_
  refine v_istore_n (lv' := [(2, .int 0), (0, .ref (adr Y 8 0)), (1, .int p1)]) C dX8_size_6 rfl (by decide) rfl ?_
  refine v_iconst C dX8_size_7 kc_iconst_0 ?_
  refine v_istore_n (lv' := [(3, .int 0), (2, .int 0), (0, .ref (adr Y 8 0)), (1, .int p1)]) C dX8_size_8 rfl (by decide) rfl ?_
  refine v_lv (vLX8_size_9 _ C M _ (fun x6 σ7 => ?_) FU _ _ _) [2, 3, 1, 0] rfl
  refine v_iload_n 1 C dX8_size_41 rfl ?_
  refine v_swK (k := 0) (tgt := 72) C dX8_size_42 (by decide) rfl (by decide) ?_ (fun h8 => ?_)
  · skip
    refine v_aload_n 0 C dX8_size_72 rfl ?_
    refine v_geti C dX8_size_73 lf_X8_60 ck_8 (by decide) ?_
    exact v_iret C M dX8_size_76
  refine v_swK (k := nI 1) (tgt := 77) C dX8_size_42 (by decide) rfl (by decide) ?_ (fun h9 => ?_)
  · skip
    refine v_aload_n 0 C dX8_size_77 rfl ?_
    refine v_geti C dX8_size_78 lf_X8_192 ck_8 (by decide) ?_
    refine v_if_eq (tgt := 101) C dX8_size_81 (by decide) ?_ ?_
    · skip
      refine v_iconst C dX8_size_101 kc_iconst_0 ?_
      exact v_iret C M dX8_size_102
    · skip
      refine v_aload_n 0 C dX8_size_84 rfl ?_
      refine v_getc C dX8_size_85 lf_X8_17 ck_8 rfl ?_
      refine v_iconst C dX8_size_88 kc_iconst_4 ?_
      refine v_iaload C dX8_size_89 ck_44 (by decide) rfl ?_
      refine v_aload_n 0 C dX8_size_90 rfl ?_
      refine v_getc C dX8_size_91 lf_X8_27 ck_8 rfl ?_
      refine v_bipush C dX8_size_94 kc_bipush_11 ?_
      refine v_iaload C dX8_size_96 ck_47 (by decide) rfl ?_
      refine v_isub C dX8_size_97 ?_
      refine v_goto (tgt := 102) C dX8_size_98 (by decide) ?_
      exact v_iret C M dX8_size_102
  refine v_swK (k := nI 2) (tgt := 103) C dX8_size_42 (by decide) rfl (by decide) ?_ (fun h10 => ?_)
  · skip
    refine v_aload_n 0 C dX8_size_103 rfl ?_
    refine v_geti C dX8_size_104 lf_X8_195 ck_8 (by decide) ?_
    refine v_cut (pcJ := 115) (lv := [(0, .ref (adr Y 8 0)), (1, .int p1), (2, .int x6)]) (st := .int (if (σ7.1 8 0 21) = 0 then 0 else (nI 1)) :: []) ?_ (fun hj11 => ?_)
    rotate_left
    · skip
      refine v_if_eq_b (tgt := 114) C dX8_size_107 (by decide) (fun h12 => ?_) (fun h12 => ?_)
      · have hj13 := v_jpos h12 hj11
        refine v_iconst C dX8_size_114 kc_iconst_0 ?_
        exact hj13
      · have hj13 := v_jneg h12 hj11
        refine v_iconst C dX8_size_110 kc_iconst_1 ?_
        refine v_goto (tgt := 115) C dX8_size_111 (by decide) ?_
        exact hj13
    exact v_iret C M dX8_size_115
  refine v_swK (k := nI 3) (tgt := 116) C dX8_size_42 (by decide) rfl (by decide) ?_ (fun h14 => ?_)
  · skip
    refine v_iload_n 2 C dX8_size_116 rfl ?_
    exact v_iret C M dX8_size_117
  refine v_swOut (tgt := 118) C dX8_size_42 (by have qh8 := lv_neT (a := 0) h8 (by decide); have qh9 := lv_neT (a := 1) h9 (by decide); have qh10 := lv_neT (a := 2) h10 (by decide); have qh14 := lv_neT (a := 3) h14 (by decide); omega) (by decide) ?_
  refine v_iconst C dX8_size_118 kc_iconst_m1 ?_
  exact v_iret C M dX8_size_119
-- OpenLinesModel trouble()I, depth 0
def fX8_trouble (σ : St) : Option (Int32 × St) :=
  lt (wI σ 8 0 0 0) fun (σ1 : St) => some (σ1.1 8 0 1, σ1)
set_option maxRecDepth 20000 in
theorem kX8_trouble {X : Cx} (σ : St) : Kon X 0 yX8_trouble cX8_trouble 1 (some .int) gI [.ref (adr X 8 0)] σ (fX8_trouble σ) := by
  refine konJ (own := RX8) (fun _ => gI) (fun a b => [.ref (a 8 0)]) (by decide +kernel) rfl (fun _ _ => Nat.le_of_ble_eq_true rfl) (fun Y C M => ?_)
  show V Y gI 0 [(0, .ref (adr Y 8 0))] [] σ (fX8_trouble σ)
  unfold fX8_trouble
  refine v_aload_n 0 C dX8_trouble_0 rfl ?_
  refine v_iconst C dX8_trouble_1 kc_iconst_0 ?_
  refine v_putiL C dX8_trouble_2 lp_X8_54 ck_8 (by decide) (fun σ1 => ?_)
  refine v_aload_n 0 C dX8_trouble_5 rfl ?_
  refine v_geti C dX8_trouble_6 lf_X8_57 ck_8 (by decide) ?_
  exact v_iret C M dX8_trouble_9
end
