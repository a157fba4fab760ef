noncomputable section
-- OpenLines$Run linesThat(I)I, depth 0
def LX4_linesThat_4 (k0 : Nat) (a1 : Int32) (ke : Int32 → St → Option (Int32 × St)) : Nat → Int32 → Int32 → St → Option (Int32 × St)
  | 0, _, _, _ => none
  | n + 1, b2, b3, σ => (if (nI 6) ≤ b3 then ke b2 σ else gi b3 6 <| (jn (fun (x2 : Int32) (σ1 : St) => LX4_linesThat_4 k0 a1 ke n x2 (b3 + nI 1) σ1) fun j26 => if (σ.1 33 k0 b3.toNatClampNeg) = a1 then lt (b2 ||| ((nI 1) <<< (b3 &&& 31))) fun (x3 : Int32) => j26 x3 σ else j26 b2 σ))
def fX4_linesThat (k0 : Nat) (p1 : Int32) (σ : St) : Option (Int32 × St) :=
  (LX4_linesThat_4 k0 p1 (fun (x4 : Int32) (σ5 : St) => some (x4, σ5)) FU 0 0 σ)
set_option maxRecDepth 20000 in
theorem vLX4_linesThat_4 {Y : Cx} (k0 : Nat) (a1 : Int32) (hk0 : k0 < cnt 4) (C : Ok Y RX4 cX4_linesThat 4 0) (M : OkM Y (some .int)) (ke : Int32 → St → Option (Int32 × St)) (hke : ∀ (b2 : Int32) (σ : St), V Y gI 32 [(2, .int b2)] [] σ (ke b2 σ)) : ∀ (n : Nat) (b2 : Int32) (b3 : Int32) (σ : St), V Y gI 4 [(0, .ref (adr Y 4 k0)), (1, .int a1), (2, .int b2), (3, .int b3)] [] σ (LX4_linesThat_4 k0 a1 ke n b2 b3 σ) := by
  intro n
  induction n with
  | zero => intros; exact v_none
  | succ n ih =>
    intro b2 b3 σ
    rw [LX4_linesThat_4]
    refine v_iload_n 3 C dX4_linesThat_4 rfl ?_
    refine v_bipush C dX4_linesThat_5 kc_bipush_6 ?_
    refine v_icmp_ge (tgt := 32) C dX4_linesThat_7 (by decide) ?_ ?_
    · skip
      exact v_lv (hke b2 σ) [2] rfl
    · skip
      refine v_aload_n 0 C dX4_linesThat_10 rfl ?_
      refine v_getc C dX4_linesThat_11 lf_X4_32 hk0 rfl ?_
      refine v_iload_n 3 C dX4_linesThat_14 rfl ?_
      refine v_iaload C dX4_linesThat_15 hk0 (by decide) rfl ?_
      refine v_iload_n 1 C dX4_linesThat_16 rfl ?_
      refine v_jn (fun j26 => ∀ (x2 : Int32) (σ1 : St), V Y gI 26 [(0, .ref (adr Y 4 k0)), (1, .int a1), (2, .int x2), (3, .int b3)] [] σ1 (j26 x2 σ1)) ?_ ?_
      · intro x2 σ1
        refine v_iinc (lv' := [(3, .int (b3 + nI 1)), (0, .ref (adr Y 4 k0)), (1, .int a1), (2, .int x2)]) 3 C dX4_linesThat_26 rfl (congrArg (b3 + ·) kc_iconst_1) (by decide) rfl ?_
        refine v_goto (tgt := 4) C dX4_linesThat_29 (by decide) ?_
        exact v_lv (ih x2 (b3 + nI 1) σ1) [1, 2, 3, 0] rfl
      · intro j26 hj26
        refine v_icmp_ne (tgt := 26) C dX4_linesThat_17 (by decide) ?_ ?_
        · skip
          exact v_lv (hj26 b2 σ) [0, 1, 2, 3] rfl
        · skip
          refine v_iload_n 2 C dX4_linesThat_20 rfl ?_
          refine v_iconst C dX4_linesThat_21 kc_iconst_1 ?_
          refine v_iload_n 3 C dX4_linesThat_22 rfl ?_
          refine v_ishl C dX4_linesThat_23 ?_
          refine v_ior C dX4_linesThat_24 ?_
          refine v_istore_nL (lv0 := [(0, .ref (adr Y 4 k0)), (1, .int a1), (3, .int b3)]) C dX4_linesThat_25 rfl (by decide) rfl (fun x3 => ?_)
          exact v_lv (hj26 x3 σ) [1, 2, 0, 3] rfl
set_option maxRecDepth 20000 in
theorem kX4_linesThat {X : Cx} (k0 : Nat) (p1 : Int32) (hk0 : k0 < cnt 4) (σ : St) : Kon X 0 yX4_linesThat cX4_linesThat 4 (some .int) gI [.ref (adr X 4 k0), .int p1] σ (fX4_linesThat k0 p1 σ) := by
  refine konJ (own := RX4) (fun _ => gI) (fun a b => [.ref (a 4 k0), .int p1]) (by decide +kernel) rfl (fun _ _ => Nat.le_of_ble_eq_true rfl) (fun Y C M => ?_)
  show V Y gI 0 [(0, .ref (adr Y 4 k0)), (1, .int p1)] [] σ (fX4_linesThat k0 p1 σ)
  unfold fX4_linesThat
  refine v_iconst C dX4_linesThat_0 kc_iconst_0 ?_
  refine v_istore_n (lv' := [(2, .int 0), (0, .ref (adr Y 4 k0)), (1, .int p1)]) C dX4_linesThat_1 rfl (by decide) rfl ?_
  refine v_iconst C dX4_linesThat_2 kc_iconst_0 ?_
  refine v_istore_n (lv' := [(3, .int 0), (2, .int 0), (0, .ref (adr Y 4 k0)), (1, .int p1)]) C dX4_linesThat_3 rfl (by decide) rfl ?_
  refine v_lv (vLX4_linesThat_4 _ _ hk0 C M _ (fun x4 σ5 => ?_) FU _ _ _) [2, 3, 1, 0] rfl
  refine v_iload_n 0 C dX4_linesThat_32 rfl ?_
  exact v_iret C M dX4_linesThat_33
-- OpenLines$Pass wire(LOpenLines$Plan;II)V, depth 1
def LX1_wire_46 (k1 : Nat) (a4 : Int32) (ke : St → Option (Unit × St)) : Nat → Int32 → St → Option (Unit × St)
  | 0, _, _ => none
  | n + 1, b5, σ => (if (σ.1 1 0 7) ≤ b5 then ke σ else gi a4 6 <| gi a4 6 <| gi b5 6 <| gi b5 6 <| lt (wI σ 12 a4.toNatClampNeg b5.toNatClampNeg (if 0 ≤ ((σ.1 24 k1 a4.toNatClampNeg) - (σ.1 24 k1 b5.toNatClampNeg)) then ((σ.1 24 k1 a4.toNatClampNeg) - (σ.1 24 k1 b5.toNatClampNeg)) else 0 - ((σ.1 24 k1 a4.toNatClampNeg) - (σ.1 24 k1 b5.toNatClampNeg)))) fun (σ6 : St) => LX1_wire_46 k1 a4 ke n (b5 + nI 1) σ6)
def LX1_wire_34 (k1 : Nat) (ke : St → Option (Unit × St)) : Nat → Int32 → St → Option (Unit × St)
  | 0, _, _ => none
  | n + 1, b4, σ => (if (σ.1 1 0 7) ≤ b4 then ke σ else (LX1_wire_46 k1 b4 (fun (σ7 : St) => LX1_wire_34 k1 ke n (b4 + nI 1) σ7) FU 0 σ))
def fX1_wire (k1 : Nat) (p2 : Int32) (p3 : Int32) (σ : St) : Option (Unit × St) :=
  lt (wI σ 1 0 7 (if (nI 6) < (σ.1 2 k1 3) then (nI 6) else (σ.1 2 k1 3))) fun (σ1 : St) => lt (wI σ1 1 0 8 (σ1.1 2 k1 0)) fun (σ2 : St) => lt (wI σ2 1 0 9 p2) fun (σ3 : St) => lt (wI σ3 1 0 10 p3) fun (σ4 : St) => (LX1_wire_34 k1 (fun (σ8 : St) => some ((), σ8)) FU 0 σ4)
set_option maxRecDepth 20000 in
theorem vLX1_wire_46 {Y : Cx} (k1 : Nat) (a4 : Int32) (hk1 : k1 < cnt 2) (C : Ok Y RX1 cX1_wire 6 1) (M : OkM Y none) (ke : St → Option (Unit × St)) (hke : ∀ (σ : St), V Y gV 89 [(0, .ref (adr Y 1 0)), (1, .ref (adr Y 2 k1)), (4, .int a4)] [] σ (ke σ)) : ∀ (n : Nat) (b5 : Int32) (σ : St), V Y gV 46 [(0, .ref (adr Y 1 0)), (1, .ref (adr Y 2 k1)), (4, .int a4), (5, .int b5)] [] σ (LX1_wire_46 k1 a4 ke n b5 σ) := by
  intro n
  induction n with
  | zero => intros; exact v_none
  | succ n ih =>
    intro b5 σ
    rw [LX1_wire_46]
    refine v_iload 3 C dX1_wire_46 rfl ?_
    refine v_aload_n 0 C dX1_wire_48 rfl ?_
    refine v_geti C dX1_wire_49 lf_X1_47 ck_1 (by decide) ?_
    refine v_icmp_ge (tgt := 89) C dX1_wire_52 (by decide) ?_ ?_
    · skip
      exact v_lv (hke σ) [0, 1, 2] rfl
    · skip
      refine v_aload_n 0 C dX1_wire_55 rfl ?_
      refine v_getc C dX1_wire_56 lf_X1_17 ck_1 rfl ?_
      refine v_iload 2 C dX1_wire_59 rfl ?_
      refine v_aaload0 C dX1_wire_61 ck_11 (by decide) rfl rfl (fun hq5 => ?_)
      refine v_iload 3 C dX1_wire_62 rfl ?_
      refine v_aload_n 1 C dX1_wire_64 rfl ?_
      refine v_getc C dX1_wire_65 lf_X1_58 hk1 rfl ?_
      refine v_iload 2 C dX1_wire_68 rfl ?_
      refine v_iaload C dX1_wire_70 hk1 (by decide) rfl ?_
      refine v_aload_n 1 C dX1_wire_71 rfl ?_
      refine v_getc C dX1_wire_72 lf_X1_58 hk1 rfl ?_
      refine v_iload 3 C dX1_wire_75 rfl ?_
      refine v_iaload C dX1_wire_77 hk1 (by decide) rfl ?_
      refine v_isub C dX1_wire_78 ?_
      refine v_mabs C dX1_wire_79 mt_X1_61 wSt_abs wMath wCd_abs (by decide) (Nat.le_of_ble_eq_true rfl) ?_
      refine v_iastoreL C dX1_wire_82 hq5 (by decide) rfl (fun σ6 => ?_)
      refine v_iinc (lv' := [(5, .int (b5 + nI 1)), (0, .ref (adr Y 1 0)), (1, .ref (adr Y 2 k1)), (4, .int a4)]) 3 C dX1_wire_83 rfl (congrArg (b5 + ·) kc_iconst_1) (by decide) rfl ?_
      refine v_goto (tgt := 46) C dX1_wire_86 (by decide) ?_
      exact v_lv (ih (b5 + nI 1) σ6) [1, 2, 3, 0] rfl
set_option maxRecDepth 20000 in
theorem vLX1_wire_34 {Y : Cx} (k1 : Nat) (hk1 : k1 < cnt 2) (C : Ok Y RX1 cX1_wire 6 1) (M : OkM Y none) (ke : St → Option (Unit × St)) (hke : ∀ (σ : St), V Y gV 95 [] [] σ (ke σ)) : ∀ (n : Nat) (b4 : Int32) (σ : St), V Y gV 34 [(0, .ref (adr Y 1 0)), (1, .ref (adr Y 2 k1)), (4, .int b4)] [] σ (LX1_wire_34 k1 ke n b4 σ) := by
  intro n
  induction n with
  | zero => intros; exact v_none
  | succ n ih =>
    intro b4 σ
    rw [LX1_wire_34]
    refine v_iload 2 C dX1_wire_34 rfl ?_
    refine v_aload_n 0 C dX1_wire_36 rfl ?_
    refine v_geti C dX1_wire_37 lf_X1_47 ck_1 (by decide) ?_
    refine v_icmp_ge (tgt := 95) C dX1_wire_40 (by decide) ?_ ?_
    · skip
      exact v_lv (hke σ) [] rfl
    · skip
      refine v_iconst C dX1_wire_43 kc_iconst_0 ?_
      refine v_istore (lv' := [(5, .int 0), (0, .ref (adr Y 1 0)), (1, .ref (adr Y 2 k1)), (4, .int b4)]) C dX1_wire_44 (by decide) rfl ?_
      refine v_lv (vLX1_wire_46 _ _ hk1 C M _ (fun σ7 => ?_) FU _ _) [1, 2, 3, 0] rfl
      refine v_iinc (lv' := [(4, .int (b4 + nI 1)), (0, .ref (adr Y 1 0)), (1, .ref (adr Y 2 k1))]) 2 C dX1_wire_89 rfl (congrArg (b4 + ·) kc_iconst_1) (by decide) rfl ?_
      refine v_goto (tgt := 34) C dX1_wire_92 (by decide) ?_
      exact v_lv (ih (b4 + nI 1) σ7) [1, 2, 0] rfl
set_option maxRecDepth 20000 in
theorem kX1_wire {X : Cx} (k1 : Nat) (p2 : Int32) (p3 : Int32) (hk1 : k1 < cnt 2) (σ : St) : Kon X 1 yX1_wire cX1_wire 6 none gV [.ref (adr X 1 0), .ref (adr X 2 k1), .int p2, .int p3] σ (fX1_wire k1 p2 p3 σ) := by
  refine konJ (own := RX1) (fun _ => gV) (fun a b => [.ref (a 1 0), .ref (a 2 k1), .int p2, .int p3]) (by decide +kernel) rfl (fun _ _ => Nat.le_of_ble_eq_true rfl) (fun Y C M => ?_)
  show V Y gV 0 [(0, .ref (adr Y 1 0)), (1, .ref (adr Y 2 k1)), (2, .int p2), (3, .int p3)] [] σ (fX1_wire k1 p2 p3 σ)
  unfold fX1_wire
  refine v_aload_n 0 C dX1_wire_0 rfl ?_
  refine v_aload_n 1 C dX1_wire_1 rfl ?_
  refine v_geti C dX1_wire_2 lf_X1_35 hk1 (by decide) ?_
  refine v_bipush C dX1_wire_5 kc_bipush_6 ?_
  refine v_mmin C dX1_wire_7 mt_X1_41 wSt_min wMath wCd_min (by decide) (Nat.le_of_ble_eq_true rfl) ?_
  refine v_putiL C dX1_wire_10 lp_X1_47 ck_1 (by decide) (fun σ1 => ?_)
  refine v_aload_n 0 C dX1_wire_13 rfl ?_
  refine v_aload_n 1 C dX1_wire_14 rfl ?_
  refine v_geti C dX1_wire_15 lf_X1_48 hk1 (by decide) ?_
  refine v_putiL C dX1_wire_18 lp_X1_51 ck_1 (by decide) (fun σ2 => ?_)
  refine v_aload_n 0 C dX1_wire_21 rfl ?_
  refine v_iload_n 2 C dX1_wire_22 rfl ?_
  refine v_putiL C dX1_wire_23 lp_X1_52 ck_1 (by decide) (fun σ3 => ?_)
  refine v_aload_n 0 C dX1_wire_26 rfl ?_
  refine v_iload_n 3 C dX1_wire_27 rfl ?_
  refine v_putiL C dX1_wire_28 lp_X1_55 ck_1 (by decide) (fun σ4 => ?_)
  refine v_iconst C dX1_wire_31 kc_iconst_0 ?_
  refine v_istore (lv' := [(4, .int 0), (0, .ref (adr Y 1 0)), (1, .ref (adr Y 2 k1)), (2, .int p2), (3, .int p3)]) C dX1_wire_32 (by decide) rfl ?_
  refine v_lv (vLX1_wire_34 _ hk1 C M _ (fun σ8 => ?_) FU _ _) [1, 2, 0] rfl
  exact v_vret C M dX1_wire_95
-- OpenLines$Pass clearDips()V, depth 0
def LX1_clearDips_10 (a1 : Int32) (ke : St → Option (Unit × St)) : Nat → Int32 → St → Option (Unit × St)
  | 0, _, _ => none
  | n + 1, b2, σ => (if (σ.1 1 0 13) ≤ b2 then ke σ else (if (nI 400) < b2 then ke σ else gi a1 6 <| gi b2 401 <| lt (wI σ 22 a1.toNatClampNeg b2.toNatClampNeg 0) fun (σ2 : St) => LX1_clearDips_10 a1 ke n (b2 + nI 1) σ2))
def LX1_clearDips_2 (ke : St → Option (Unit × St)) : Nat → Int32 → St → Option (Unit × St)
  | 0, _, _ => none
  | n + 1, b1, σ => (if (nI 6) ≤ b1 then ke σ else (LX1_clearDips_10 b1 (fun (σ3 : St) => LX1_clearDips_2 ke n (b1 + nI 1) σ3) FU 0 σ))
def fX1_clearDips (σ : St) : Option (Unit × St) :=
  (LX1_clearDips_2 (fun (σ4 : St) => lt (wI σ4 1 0 13 0) fun (σ5 : St) => some ((), σ5)) FU 0 σ)
set_option maxRecDepth 20000 in
theorem vLX1_clearDips_10 {Y : Cx} (a1 : Int32) (C : Ok Y RX1 cX1_clearDips 3 0) (M : OkM Y none) (ke : St → Option (Unit × St)) (hke : ∀ (σ : St), V Y gV 40 [(0, .ref (adr Y 1 0)), (1, .int a1)] [] σ (ke σ)) : ∀ (n : Nat) (b2 : Int32) (σ : St), V Y gV 10 [(0, .ref (adr Y 1 0)), (1, .int a1), (2, .int b2)] [] σ (LX1_clearDips_10 a1 ke n b2 σ) := by
  intro n
  induction n with
  | zero => intros; exact v_none
  | succ n ih =>
    intro b2 σ
    rw [LX1_clearDips_10]
    refine v_iload_n 2 C dX1_clearDips_10 rfl ?_
    refine v_aload_n 0 C dX1_clearDips_11 rfl ?_
    refine v_geti C dX1_clearDips_12 lf_X1_93 ck_1 (by decide) ?_
    refine v_icmp_ge (tgt := 40) C dX1_clearDips_15 (by decide) ?_ ?_
    · skip
      exact v_lv (hke σ) [0, 1] rfl
    · skip
      refine v_iload_n 2 C dX1_clearDips_18 rfl ?_
      refine v_sipush C dX1_clearDips_19 kc_sipush_400 ?_
      refine v_icmp_gt (tgt := 40) C dX1_clearDips_22 (by decide) ?_ ?_
      · skip
        exact v_lv (hke σ) [0, 1] rfl
      · skip
        refine v_aload_n 0 C dX1_clearDips_25 rfl ?_
        refine v_getc C dX1_clearDips_26 lf_X1_32 ck_1 rfl ?_
        refine v_iload_n 1 C dX1_clearDips_29 rfl ?_
        refine v_aaload0 C dX1_clearDips_30 ck_21 (by decide) rfl rfl (fun hq1 => ?_)
        refine v_iload_n 2 C dX1_clearDips_31 rfl ?_
        refine v_iconst C dX1_clearDips_32 kc_iconst_0 ?_
        refine v_iastoreL C dX1_clearDips_33 hq1 (by decide) rfl (fun σ2 => ?_)
        refine v_iinc (lv' := [(2, .int (b2 + nI 1)), (0, .ref (adr Y 1 0)), (1, .int a1)]) 2 C dX1_clearDips_34 rfl (congrArg (b2 + ·) kc_iconst_1) (by decide) rfl ?_
        refine v_goto (tgt := 10) C dX1_clearDips_37 (by decide) ?_
        exact v_lv (ih (b2 + nI 1) σ2) [1, 2, 0] rfl
set_option maxRecDepth 20000 in
theorem vLX1_clearDips_2 {Y : Cx} (C : Ok Y RX1 cX1_clearDips 3 0) (M : OkM Y none) (ke : St → Option (Unit × St)) (hke : ∀ (σ : St), V Y gV 46 [(0, .ref (adr Y 1 0))] [] σ (ke σ)) : ∀ (n : Nat) (b1 : Int32) (σ : St), V Y gV 2 [(0, .ref (adr Y 1 0)), (1, .int b1)] [] σ (LX1_clearDips_2 ke n b1 σ) := by
  intro n
  induction n with
  | zero => intros; exact v_none
  | succ n ih =>
    intro b1 σ
    rw [LX1_clearDips_2]
    refine v_iload_n 1 C dX1_clearDips_2 rfl ?_
    refine v_bipush C dX1_clearDips_3 kc_bipush_6 ?_
    refine v_icmp_ge (tgt := 46) C dX1_clearDips_5 (by decide) ?_ ?_
    · skip
      exact v_lv (hke σ) [0] rfl
    · skip
      refine v_iconst C dX1_clearDips_8 kc_iconst_0 ?_
      refine v_istore_n (lv' := [(2, .int 0), (0, .ref (adr Y 1 0)), (1, .int b1)]) C dX1_clearDips_9 rfl (by decide) rfl ?_
      refine v_lv (vLX1_clearDips_10 _ C M _ (fun σ3 => ?_) FU _ _) [1, 2, 0] rfl
      refine v_iinc (lv' := [(1, .int (b1 + nI 1)), (0, .ref (adr Y 1 0))]) 1 C dX1_clearDips_40 rfl (congrArg (b1 + ·) kc_iconst_1) (by decide) rfl ?_
      refine v_goto (tgt := 2) C dX1_clearDips_43 (by decide) ?_
      exact v_lv (ih (b1 + nI 1) σ3) [1, 0] rfl
set_option maxRecDepth 20000 in
theorem kX1_clearDips {X : Cx} (σ : St) : Kon X 0 yX1_clearDips cX1_clearDips 3 none gV [.ref (adr X 1 0)] σ (fX1_clearDips σ) := by
  refine konJ (own := RX1) (fun _ => gV) (fun a b => [.ref (a 1 0)]) (by decide +kernel) rfl (fun _ _ => Nat.le_of_ble_eq_true rfl) (fun Y C M => ?_)
  show V Y gV 0 [(0, .ref (adr Y 1 0))] [] σ (fX1_clearDips σ)
  unfold fX1_clearDips
  refine v_iconst C dX1_clearDips_0 kc_iconst_0 ?_
  refine v_istore_n (lv' := [(1, .int 0), (0, .ref (adr Y 1 0))]) C dX1_clearDips_1 rfl (by decide) rfl ?_
  refine v_lv (vLX1_clearDips_2 C M _ (fun σ4 => ?_) FU _ _) [1, 0] rfl
  refine v_aload_n 0 C dX1_clearDips_46 rfl ?_
  refine v_iconst C dX1_clearDips_47 kc_iconst_0 ?_
  refine v_putiL C dX1_clearDips_48 lp_X1_93 ck_1 (by decide) (fun σ5 => ?_)
  exact v_vret C M dX1_clearDips_51
-- OpenLines$Pass driveAll(I)V, depth 1
def LX1_driveAll_9 (a1 : Int32) (a2 : Int32) (ke : St → Option (Unit × St)) : Nat → Int32 → St → Option (Unit × St)
  | 0, _, _ => none
  | n + 1, b3, σ => (if (σ.1 1 0 7) ≤ b3 then ke σ else gi b3 6 <| (jn (fun (x4 : Int32) (σ3 : St) => gi a1 401 <| lt (wI σ3 14 b3.toNatClampNeg a1.toNatClampNeg x4) fun (σ5 : St) => (jn (fun (σ6 : St) => LX1_driveAll_9 a1 a2 ke n (b3 + nI 1) σ6) fun j82 => if a2 < 0 then j82 σ5 else (if a1 ≤ a2 then j82 σ5 else gi b3 6 <| gi b3 6 <| gi a1 401 <| gi b3 6 <| gi a2 401 <| gi a1 401 <| lt (wI σ5 14 b3.toNatClampNeg a1.toNatClampNeg (fX1_above (σ5.1 14 b3.toNatClampNeg a1.toNatClampNeg) (σ5.1 20 b3.toNatClampNeg a2.toNatClampNeg))) fun (σ10 : St) => j82 σ10))) fun j45 => if (fX7_has (σ.1 1 0 11) b3) = 0 then j45 0 σ else gi b3 6 <| j45 (σ.1 10 0 b3.toNatClampNeg) σ))
def fX1_driveAll (p1 : Int32) (σ : St) : Option (Unit × St) :=
  lt (p1 - (σ.1 1 0 8)) fun (x1 : Int32) => (LX1_driveAll_9 p1 x1 (fun (σ11 : St) => some ((), σ11)) FU 0 σ)
set_option maxRecDepth 20000 in
theorem vLX1_driveAll_9 {Y : Cx} (a1 : Int32) (a2 : Int32) (C : Ok Y RX1 cX1_driveAll 4 1) (M : OkM Y none) (ke : St → Option (Unit × St)) (hke : ∀ (σ : St), V Y gV 88 [] [] σ (ke σ)) : ∀ (n : Nat) (b3 : Int32) (σ : St), V Y gV 9 [(0, .ref (adr Y 1 0)), (1, .int a1), (2, .int a2), (3, .int b3)] [] σ (LX1_driveAll_9 a1 a2 ke n b3 σ) := by
  intro n
  induction n with
  | zero => intros; exact v_none
  | succ n ih =>
    intro b3 σ
    rw [LX1_driveAll_9]
    refine v_iload_n 3 C dX1_driveAll_9 rfl ?_
    refine v_aload_n 0 C dX1_driveAll_10 rfl ?_
    refine v_geti C dX1_driveAll_11 lf_X1_47 ck_1 (by decide) ?_
    refine v_icmp_ge (tgt := 88) C dX1_driveAll_14 (by decide) ?_ ?_
    · skip
      exact v_lv (hke σ) [] rfl
    · skip
      refine v_aload_n 0 C dX1_driveAll_17 rfl ?_
      refine v_getc C dX1_driveAll_18 lf_X1_20 ck_1 rfl ?_
      refine v_iload_n 3 C dX1_driveAll_21 rfl ?_
      refine v_aaload0 C dX1_driveAll_22 ck_13 (by decide) rfl rfl (fun hq2 => ?_)
      refine v_iload_n 1 C dX1_driveAll_23 rfl ?_
      refine v_aload_n 0 C dX1_driveAll_24 rfl ?_
      refine v_geti C dX1_driveAll_25 lf_X1_65 ck_1 (by decide) ?_
      refine v_iload_n 3 C dX1_driveAll_28 rfl ?_
      refine v_cN2p C dX1_driveAll_29 ln_X1_96 (kX7_has (σ.1 1 0 11) b3 _) (by decide) (Nat.le_of_ble_eq_true rfl) ?_
      refine v_jn (fun j45 => ∀ (x4 : Int32) (σ3 : St), V Y gV 45 [(0, .ref (adr Y 1 0)), (1, .int a1), (2, .int a2), (3, .int b3)] [.int x4, .int a1, .ref (adr Y 14 b3.toNatClampNeg)] σ3 (j45 x4 σ3)) ?_ ?_
      · intro x4 σ3
        refine v_iastoreL C dX1_driveAll_45 hq2 (by decide) rfl (fun σ5 => ?_)
        refine v_iload_n 2 C dX1_driveAll_46 rfl ?_
        refine v_jn (fun j82 => ∀ (σ6 : St), V Y gV 82 [(0, .ref (adr Y 1 0)), (1, .int a1), (2, .int a2), (3, .int b3)] [] σ6 (j82 σ6)) ?_ ?_
        · intro σ6
          refine v_iinc (lv' := [(3, .int (b3 + nI 1)), (0, .ref (adr Y 1 0)), (1, .int a1), (2, .int a2)]) 3 C dX1_driveAll_82 rfl (congrArg (b3 + ·) kc_iconst_1) (by decide) rfl ?_
          refine v_goto (tgt := 9) C dX1_driveAll_85 (by decide) ?_
          exact v_lv (ih (b3 + nI 1) σ6) [1, 2, 3, 0] rfl
        · intro j82 hj82
          refine v_if_lt (tgt := 82) C dX1_driveAll_47 (by decide) ?_ ?_
          · skip
            exact v_lv (hj82 σ5) [0, 1, 2, 3] rfl
          · skip
            refine v_iload_n 2 C dX1_driveAll_50 rfl ?_
            refine v_iload_n 1 C dX1_driveAll_51 rfl ?_
            refine v_icmp_ge (tgt := 82) C dX1_driveAll_52 (by decide) ?_ ?_
            · skip
              exact v_lv (hj82 σ5) [0, 1, 2, 3] rfl
            · skip
              refine v_aload_n 0 C dX1_driveAll_55 rfl ?_
              refine v_getc C dX1_driveAll_56 lf_X1_20 ck_1 rfl ?_
              refine v_iload_n 3 C dX1_driveAll_59 rfl ?_
              refine v_aaload0 C dX1_driveAll_60 ck_13 (by decide) rfl rfl (fun hq7 => ?_)
              refine v_iload_n 1 C dX1_driveAll_61 rfl ?_
              refine v_aload_n 0 C dX1_driveAll_62 rfl ?_
              refine v_getc C dX1_driveAll_63 lf_X1_20 ck_1 rfl ?_
              refine v_iload_n 3 C dX1_driveAll_66 rfl ?_
              refine v_aaload0 C dX1_driveAll_67 ck_13 (by decide) rfl rfl (fun hq8 => ?_)
              refine v_iload_n 1 C dX1_driveAll_68 rfl ?_
              refine v_iaload C dX1_driveAll_69 hq8 (by decide) rfl ?_
              refine v_aload_n 0 C dX1_driveAll_70 rfl ?_
              refine v_getc C dX1_driveAll_71 lf_X1_29 ck_1 rfl ?_
              refine v_iload_n 3 C dX1_driveAll_74 rfl ?_
              refine v_aaload0 C dX1_driveAll_75 ck_19 (by decide) rfl rfl (fun hq9 => ?_)
              refine v_iload_n 2 C dX1_driveAll_76 rfl ?_
              refine v_iaload C dX1_driveAll_77 hq9 (by decide) rfl ?_
              refine v_cS2p C dX1_driveAll_78 ls_X1_100 (kX1_above (σ5.1 14 b3.toNatClampNeg a1.toNatClampNeg) (σ5.1 20 b3.toNatClampNeg a2.toNatClampNeg) _) (by decide) (Nat.le_of_ble_eq_true rfl) ?_
              refine v_iastoreL C dX1_driveAll_81 hq7 (by decide) rfl (fun σ10 => ?_)
              exact v_lv (hj82 σ10) [0, 1, 2, 3] rfl
      · intro j45 hj45
        refine v_if_eq (tgt := 44) C dX1_driveAll_32 (by decide) ?_ ?_
        · skip
          refine v_iconst C dX1_driveAll_44 kc_iconst_0 ?_
          exact v_lv (hj45 0 σ) [0, 1, 2, 3] rfl
        · skip
          refine v_aload_n 0 C dX1_driveAll_35 rfl ?_
          refine v_getc C dX1_driveAll_36 lf_X1_9 ck_1 rfl ?_
          refine v_iload_n 3 C dX1_driveAll_39 rfl ?_
          refine v_iaload C dX1_driveAll_40 ck_10 (by decide) rfl ?_
          refine v_goto (tgt := 45) C dX1_driveAll_41 (by decide) ?_
          exact v_lv (hj45 (σ.1 10 0 b3.toNatClampNeg) σ) [0, 1, 2, 3] rfl
set_option maxRecDepth 20000 in
theorem kX1_driveAll {X : Cx} (p1 : Int32) (σ : St) : Kon X 1 yX1_driveAll cX1_driveAll 4 none gV [.ref (adr X 1 0), .int p1] σ (fX1_driveAll p1 σ) := by
  refine konJ (own := RX1) (fun _ => gV) (fun a b => [.ref (a 1 0), .int p1]) (by decide +kernel) rfl (fun _ _ => Nat.le_of_ble_eq_true rfl) (fun Y C M => ?_)
  show V Y gV 0 [(0, .ref (adr Y 1 0)), (1, .int p1)] [] σ (fX1_driveAll p1 σ)
  unfold fX1_driveAll
  refine v_iload_n 1 C dX1_driveAll_0 rfl ?_
  refine v_aload_n 0 C dX1_driveAll_1 rfl ?_
  refine v_geti C dX1_driveAll_2 lf_X1_51 ck_1 (by decide) ?_
  refine v_isub C dX1_driveAll_5 ?_
  refine v_istore_nL (lv0 := [(0, .ref (adr Y 1 0)), (1, .int p1)]) C dX1_driveAll_6 rfl (by decide) rfl (fun x1 => ?_)
  refine v_iconst C dX1_driveAll_7 kc_iconst_0 ?_
  refine v_istore_n (lv' := [(3, .int 0), (2, .int x1), (0, .ref (adr Y 1 0)), (1, .int p1)]) C dX1_driveAll_8 rfl (by decide) rfl ?_
  refine v_lv (vLX1_driveAll_9 _ _ C M _ (fun σ11 => ?_) FU _ _) [2, 3, 1, 0] rfl
  exact v_vret C M dX1_driveAll_88
-- OpenLines$Pass nearestDriver(III)I, depth 0
def LX1_nearestDriver_6 (a1 : Int32) (a2 : Int32) (a3 : Int32) (ke : Int32 → St → Option (Int32 × St)) : Nat → Int32 → Int32 → St → Option (Int32 × St)
  | 0, _, _, _ => none
  | n + 1, b4, b5, σ => (if (σ.1 1 0 7) ≤ b5 then ke b4 σ else gi a1 6 <| gi b5 6 <| lt (σ.1 12 a1.toNatClampNeg b5.toNatClampNeg) fun (x2 : Int32) => (jn (fun (x4 : Int32) (σ3 : St) => (jn (fun (x6 : Int32) (σ5 : St) => LX1_nearestDriver_6 a1 a2 a3 ke n x6 (b5 + nI 1) σ5) fun j76 => if x4 = 0 then j76 b4 σ3 else (jn (fun (σ7 : St) => j76 x2 σ7) fun j72 => if b4 = 0 then j72 σ3 else (if b4 ≤ x2 then j76 b4 σ3 else j72 σ3)))) fun j53 => jn (fun (σ8 : St) => j53 0 σ8) fun j52 => if b5 = a1 then j52 σ else gi b5 6 <| gi a3 401 <| (if (((σ.1 14 b5.toNatClampNeg a3.toNatClampNeg) >>> (a2 &&& 31)) &&& (nI 1)) = 0 then j52 σ else j53 (nI 1) σ)))
def fX1_nearestDriver (p1 : Int32) (p2 : Int32) (p3 : Int32) (σ : St) : Option (Int32 × St) :=
  (LX1_nearestDriver_6 p1 p2 p3 (fun (x10 : Int32) (σ11 : St) => some (x10, σ11)) FU 0 0 σ)
set_option maxRecDepth 20000 in
theorem vLX1_nearestDriver_6 {Y : Cx} (a1 : Int32) (a2 : Int32) (a3 : Int32) (C : Ok Y RX1 cX1_nearestDriver 8 0) (M : OkM Y (some .int)) (ke : Int32 → St → Option (Int32 × St)) (hke : ∀ (b4 : Int32) (σ : St), V Y gI 82 [(4, .int b4)] [] σ (ke b4 σ)) : ∀ (n : Nat) (b4 : Int32) (b5 : Int32) (σ : St), V Y gI 6 [(0, .ref (adr Y 1 0)), (1, .int a1), (2, .int a2), (3, .int a3), (4, .int b4), (5, .int b5)] [] σ (LX1_nearestDriver_6 a1 a2 a3 ke n b4 b5 σ) := by
  intro n
  induction n with
  | zero => intros; exact v_none
  | succ n ih =>
    intro b4 b5 σ
    rw [LX1_nearestDriver_6]
    refine v_iload 5 C dX1_nearestDriver_6 rfl ?_
    refine v_aload_n 0 C dX1_nearestDriver_8 rfl ?_
    refine v_geti C dX1_nearestDriver_9 lf_X1_47 ck_1 (by decide) ?_
    refine v_icmp_ge (tgt := 82) C dX1_nearestDriver_12 (by decide) ?_ ?_
    · skip
      exact v_lv (hke b4 σ) [4] rfl
    · skip
      refine v_aload_n 0 C dX1_nearestDriver_15 rfl ?_
      refine v_getc C dX1_nearestDriver_16 lf_X1_17 ck_1 rfl ?_
      refine v_iload_n 1 C dX1_nearestDriver_19 rfl ?_
      refine v_aaload0 C dX1_nearestDriver_20 ck_11 (by decide) rfl rfl (fun hq1 => ?_)
      refine v_iload 5 C dX1_nearestDriver_21 rfl ?_
      refine v_iaload C dX1_nearestDriver_23 hq1 (by decide) rfl ?_
      refine v_istoreL (lv0 := [(0, .ref (adr Y 1 0)), (1, .int a1), (2, .int a2), (3, .int a3), (4, .int b4), (5, .int b5)]) C dX1_nearestDriver_24 (by decide) rfl (fun x2 => ?_)
      refine v_iload 6 C dX1_nearestDriver_26 rfl ?_
      refine v_iload_n 2 C dX1_nearestDriver_28 rfl ?_
      refine v_jn (fun j53 => ∀ (x4 : Int32) (σ3 : St), V Y gI 53 [(0, .ref (adr Y 1 0)), (1, .int a1), (2, .int a2), (3, .int a3), (4, .int b4), (5, .int b5), (6, .int x2)] [.int x4] σ3 (j53 x4 σ3)) ?_ ?_
      · intro x4 σ3
        refine v_istore (lv' := [(7, .int x4), (0, .ref (adr Y 1 0)), (1, .int a1), (2, .int a2), (3, .int a3), (4, .int b4), (5, .int b5), (6, .int x2)]) C dX1_nearestDriver_53 (by decide) rfl ?_
        refine v_iload 0 C dX1_nearestDriver_55 rfl ?_
        refine v_jn (fun j76 => ∀ (x6 : Int32) (σ5 : St), V Y gI 76 [(0, .ref (adr Y 1 0)), (1, .int a1), (2, .int a2), (3, .int a3), (4, .int x6), (5, .int b5)] [] σ5 (j76 x6 σ5)) ?_ ?_
        · intro x6 σ5
          refine v_iinc (lv' := [(5, .int (b5 + nI 1)), (0, .ref (adr Y 1 0)), (1, .int a1), (2, .int a2), (3, .int a3), (4, .int x6)]) 5 C dX1_nearestDriver_76 rfl (congrArg (b5 + ·) kc_iconst_1) (by decide) rfl ?_
          refine v_goto (tgt := 6) C dX1_nearestDriver_79 (by decide) ?_
          exact v_lv (ih x6 (b5 + nI 1) σ5) [1, 2, 3, 4, 5, 0] rfl
        · intro j76 hj76
          refine v_if_eq (tgt := 76) C dX1_nearestDriver_57 (by decide) ?_ ?_
          · skip
            exact v_lv (hj76 b4 σ3) [1, 2, 3, 4, 5, 6] rfl
          · skip
            refine v_iload 5 C dX1_nearestDriver_60 rfl ?_
            refine v_jn (fun j72 => ∀ (σ7 : St), V Y gI 72 [(0, .ref (adr Y 1 0)), (1, .int a1), (2, .int a2), (3, .int a3), (5, .int b5), (6, .int x2)] [] σ7 (j72 σ7)) ?_ ?_
            · intro σ7
              refine v_iload 5 C dX1_nearestDriver_72 rfl ?_
              refine v_istore (lv' := [(4, .int x2), (0, .ref (adr Y 1 0)), (1, .int a1), (2, .int a2), (3, .int a3), (5, .int b5), (6, .int x2)]) C dX1_nearestDriver_74 (by decide) rfl ?_
              exact v_lv (hj76 x2 σ7) [1, 2, 3, 4, 0, 5] rfl
            · intro j72 hj72
              refine v_if_eq (tgt := 72) C dX1_nearestDriver_62 (by decide) ?_ ?_
              · skip
                exact v_lv (hj72 σ3) [1, 2, 3, 4, 6, 7] rfl
              · skip
                refine v_iload 7 C dX1_nearestDriver_65 rfl ?_
                refine v_iload 5 C dX1_nearestDriver_67 rfl ?_
                refine v_icmp_ge (tgt := 76) C dX1_nearestDriver_69 (by decide) ?_ ?_
                · skip
                  exact v_lv (hj76 b4 σ3) [1, 2, 3, 4, 5, 6] rfl
                · skip
                  exact v_lv (hj72 σ3) [1, 2, 3, 4, 6, 7] rfl
      · intro j53 hj53
        refine v_jn (fun j52 => ∀ (σ8 : St), V Y gI 52 [(0, .ref (adr Y 1 0)), (1, .int a1), (2, .int a2), (3, .int a3), (4, .int b4), (5, .int b5), (6, .int x2)] [] σ8 (j52 σ8)) ?_ ?_
        · intro σ8
          refine v_iconst C dX1_nearestDriver_52 kc_iconst_0 ?_
          exact v_lv (hj53 0 σ8) [0, 1, 2, 3, 4, 5, 6] rfl
        · intro j52 hj52
          refine v_icmp_eq (tgt := 52) C dX1_nearestDriver_29 (by decide) ?_ ?_
          · skip
            exact v_lv (hj52 σ) [1, 2, 3, 4, 5, 6, 0] rfl
          · skip
            refine v_aload_n 1 C dX1_nearestDriver_32 rfl ?_
            refine v_getc C dX1_nearestDriver_33 lf_X1_20 ck_1 rfl ?_
            refine v_iload 6 C dX1_nearestDriver_36 rfl ?_
            refine v_aaload0 C dX1_nearestDriver_38 ck_13 (by decide) rfl rfl (fun hq9 => ?_)
            refine v_iload_n 4 C dX1_nearestDriver_39 rfl ?_
            refine v_iaload C dX1_nearestDriver_40 hq9 (by decide) rfl ?_
            refine v_iload_n 3 C dX1_nearestDriver_41 rfl ?_
            refine v_ishr C dX1_nearestDriver_42 ?_
            refine v_iconst C dX1_nearestDriver_43 kc_iconst_1 ?_
            refine v_iand C dX1_nearestDriver_44 ?_
            refine v_if_eq (tgt := 52) C dX1_nearestDriver_45 (by decide) ?_ ?_
            · skip
              exact v_lv (hj52 σ) [1, 2, 3, 4, 5, 6, 0] rfl
            · skip
              refine v_iconst C dX1_nearestDriver_48 kc_iconst_1 ?_
              refine v_goto (tgt := 53) C dX1_nearestDriver_49 (by decide) ?_
              exact v_lv (hj53 (nI 1) σ) [1, 2, 3, 4, 5, 6, 0] rfl
set_option maxRecDepth 20000 in
theorem kX1_nearestDriver {X : Cx} (p1 : Int32) (p2 : Int32) (p3 : Int32) (σ : St) : Kon X 0 yX1_nearestDriver cX1_nearestDriver 8 (some .int) gI [.ref (adr X 1 0), .int p1, .int p2, .int p3] σ (fX1_nearestDriver p1 p2 p3 σ) := by
  refine konJ (own := RX1) (fun _ => gI) (fun a b => [.ref (a 1 0), .int p1, .int p2, .int p3]) (by decide +kernel) rfl (fun _ _ => Nat.le_of_ble_eq_true rfl) (fun Y C M => ?_)
  show V Y gI 0 [(0, .ref (adr Y 1 0)), (1, .int p1), (2, .int p2), (3, .int p3)] [] σ (fX1_nearestDriver p1 p2 p3 σ)
  unfold fX1_nearestDriver
  refine v_iconst C dX1_nearestDriver_0 kc_iconst_0 ?_
  refine v_istore (lv' := [(4, .int 0), (0, .ref (adr Y 1 0)), (1, .int p1), (2, .int p2), (3, .int p3)]) C dX1_nearestDriver_1 (by decide) rfl ?_
  refine v_iconst C dX1_nearestDriver_3 kc_iconst_0 ?_
  refine v_istore (lv' := [(5, .int 0), (4, .int 0), (0, .ref (adr Y 1 0)), (1, .int p1), (2, .int p2), (3, .int p3)]) C dX1_nearestDriver_4 (by decide) rfl ?_
  refine v_lv (vLX1_nearestDriver_6 _ _ _ C M _ (fun x10 σ11 => ?_) FU _ _ _) [2, 3, 4, 5, 1, 0] rfl
  refine v_iload 0 C dX1_nearestDriver_82 rfl ?_
  exact v_iret C M dX1_nearestDriver_84
-- OpenLines$Pass dip(IIII)V, depth 0
def LX1_dip_39 (a1 : Int32) (a2 : Int32) (a3 : Int32) (a4 : Int32) (a5 : Int32) (a6 : Int32) (ke : St → Option (Unit × St)) : Nat → Int32 → St → Option (Unit × St)
  | 0, _, _ => none
  | n + 1, b7, σ => (if (a6 + a4) ≤ b7 then ke σ else (if (nI 400) < b7 then ke σ else gi a5 6 <| gi b7 401 <| gi b7 401 <| lt (wI σ 22 a5.toNatClampNeg b7.toNatClampNeg ((σ.1 22 a5.toNatClampNeg b7.toNatClampNeg) ||| ((nI 1) <<< (a2 &&& 31)))) fun (σ5 : St) => lt (wI σ5 1 0 13 (if (σ5.1 1 0 13) ≤ b7 then (b7 + (nI 1)) else (σ5.1 1 0 13))) fun (σ9 : St) => LX1_dip_39 a1 a2 a3 a4 a5 a6 ke n (b7 + nI 1) σ9))
def LX1_dip_13 (a1 : Int32) (a2 : Int32) (a3 : Int32) (a4 : Int32) (ke : St → Option (Unit × St)) : Nat → Int32 → St → Option (Unit × St)
  | 0, _, _ => none
  | n + 1, b5, σ => (if (σ.1 1 0 7) ≤ b5 then ke σ else gi a1 6 <| gi b5 6 <| lt (a3 + (σ.1 12 a1.toNatClampNeg b5.toNatClampNeg)) fun (x3 : Int32) => (LX1_dip_39 a1 a2 a3 a4 b5 x3 (fun (σ10 : St) => LX1_dip_13 a1 a2 a3 a4 ke n (b5 + nI 1) σ10) FU x3 σ))
def fX1_dip (p1 : Int32) (p2 : Int32) (p3 : Int32) (p4 : Int32) (σ : St) : Option (Unit × St) :=
  lt (wI σ 1 0 16 ((σ.1 1 0 16) + (nI 1))) fun (σ1 : St) => (LX1_dip_13 p1 p2 p3 p4 (fun (σ11 : St) => some ((), σ11)) FU 0 σ1)
set_option maxRecDepth 20000 in
theorem vLX1_dip_39 {Y : Cx} (a1 : Int32) (a2 : Int32) (a3 : Int32) (a4 : Int32) (a5 : Int32) (a6 : Int32) (C : Ok Y RX1 cX1_dip 8 0) (M : OkM Y none) (ke : St → Option (Unit × St)) (hke : ∀ (σ : St), V Y gV 103 [(0, .ref (adr Y 1 0)), (1, .int a1), (2, .int a2), (3, .int a3), (4, .int a4), (5, .int a5)] [] σ (ke σ)) : ∀ (n : Nat) (b7 : Int32) (σ : St), V Y gV 39 [(0, .ref (adr Y 1 0)), (1, .int a1), (2, .int a2), (3, .int a3), (4, .int a4), (5, .int a5), (6, .int a6), (7, .int b7)] [] σ (LX1_dip_39 a1 a2 a3 a4 a5 a6 ke n b7 σ) := by
  intro n
  induction n with
  | zero => intros; exact v_none
  | succ n ih =>
    intro b7 σ
    rw [LX1_dip_39]
    refine v_iload 7 C dX1_dip_39 rfl ?_
    refine v_iload 6 C dX1_dip_41 rfl ?_
    refine v_iload 4 C dX1_dip_43 rfl ?_
    refine v_iadd C dX1_dip_45 ?_
    refine v_icmp_ge (tgt := 103) C dX1_dip_46 (by decide) ?_ ?_
    · skip
      exact v_lv (hke σ) [0, 1, 2, 3, 4, 5] rfl
    · skip
      refine v_iload 7 C dX1_dip_49 rfl ?_
      refine v_sipush C dX1_dip_51 kc_sipush_400 ?_
      refine v_icmp_gt (tgt := 103) C dX1_dip_54 (by decide) ?_ ?_
      · skip
        exact v_lv (hke σ) [0, 1, 2, 3, 4, 5] rfl
      · skip
        refine v_aload_n 0 C dX1_dip_57 rfl ?_
        refine v_getc C dX1_dip_58 lf_X1_32 ck_1 rfl ?_
        refine v_iload 5 C dX1_dip_61 rfl ?_
        refine v_aaload0 C dX1_dip_63 ck_21 (by decide) rfl rfl (fun hq4 => ?_)
        refine v_iload 7 C dX1_dip_64 rfl ?_
        refine v_dup2 C dX1_dip_66 rfl rfl ?_
        refine v_iaload C dX1_dip_67 hq4 (by decide) rfl ?_
        refine v_iconst C dX1_dip_68 kc_iconst_1 ?_
        refine v_iload_n 2 C dX1_dip_69 rfl ?_
        refine v_ishl C dX1_dip_70 ?_
        refine v_ior C dX1_dip_71 ?_
        refine v_iastoreL C dX1_dip_72 hq4 (by decide) rfl (fun σ5 => ?_)
        refine v_aload_n 0 C dX1_dip_73 rfl ?_
        refine v_aload_n 0 C dX1_dip_74 rfl ?_
        refine v_geti C dX1_dip_75 lf_X1_93 ck_1 (by decide) ?_
        refine v_iload 7 C dX1_dip_78 rfl ?_
        refine v_cut (pcJ := 94) (lv := [(0, .ref (adr Y 1 0)), (1, .int a1), (2, .int a2), (3, .int a3), (4, .int a4), (5, .int a5), (6, .int a6), (7, .int b7)]) (st := .int (if (σ5.1 1 0 13) ≤ b7 then (b7 + (nI 1)) else (σ5.1 1 0 13)) :: [.ref (adr Y 1 0)]) ?_ (fun hj6 => ?_)
        rotate_left
        · skip
          refine v_icmp_le_b (tgt := 90) C dX1_dip_80 (by decide) (fun h7 => ?_) (fun h7 => ?_)
          · have hj8 := v_jpos h7 hj6
            refine v_iload 7 C dX1_dip_90 rfl ?_
            refine v_iconst C dX1_dip_92 kc_iconst_1 ?_
            refine v_iadd C dX1_dip_93 ?_
            exact hj8
          · have hj8 := v_jneg h7 hj6
            refine v_aload_n 0 C dX1_dip_83 rfl ?_
            refine v_geti C dX1_dip_84 lf_X1_93 ck_1 (by decide) ?_
            refine v_goto (tgt := 94) C dX1_dip_87 (by decide) ?_
            exact hj8
        refine v_putiL C dX1_dip_94 lp_X1_93 ck_1 (by decide) (fun σ9 => ?_)
        refine v_iinc (lv' := [(7, .int (b7 + nI 1)), (0, .ref (adr Y 1 0)), (1, .int a1), (2, .int a2), (3, .int a3), (4, .int a4), (5, .int a5), (6, .int a6)]) 7 C dX1_dip_97 rfl (congrArg (b7 + ·) kc_iconst_1) (by decide) rfl ?_
        refine v_goto (tgt := 39) C dX1_dip_100 (by decide) ?_
        exact v_lv (ih (b7 + nI 1) σ9) [1, 2, 3, 4, 5, 6, 7, 0] rfl
set_option maxRecDepth 20000 in
theorem vLX1_dip_13 {Y : Cx} (a1 : Int32) (a2 : Int32) (a3 : Int32) (a4 : Int32) (C : Ok Y RX1 cX1_dip 8 0) (M : OkM Y none) (ke : St → Option (Unit × St)) (hke : ∀ (σ : St), V Y gV 109 [] [] σ (ke σ)) : ∀ (n : Nat) (b5 : Int32) (σ : St), V Y gV 13 [(0, .ref (adr Y 1 0)), (1, .int a1), (2, .int a2), (3, .int a3), (4, .int a4), (5, .int b5)] [] σ (LX1_dip_13 a1 a2 a3 a4 ke n b5 σ) := by
  intro n
  induction n with
  | zero => intros; exact v_none
  | succ n ih =>
    intro b5 σ
    rw [LX1_dip_13]
    refine v_iload 5 C dX1_dip_13 rfl ?_
    refine v_aload_n 0 C dX1_dip_15 rfl ?_
    refine v_geti C dX1_dip_16 lf_X1_47 ck_1 (by decide) ?_
    refine v_icmp_ge (tgt := 109) C dX1_dip_19 (by decide) ?_ ?_
    · skip
      exact v_lv (hke σ) [] rfl
    · skip
      refine v_iload_n 3 C dX1_dip_22 rfl ?_
      refine v_aload_n 0 C dX1_dip_23 rfl ?_
      refine v_getc C dX1_dip_24 lf_X1_17 ck_1 rfl ?_
      refine v_iload_n 1 C dX1_dip_27 rfl ?_
      refine v_aaload0 C dX1_dip_28 ck_11 (by decide) rfl rfl (fun hq2 => ?_)
      refine v_iload 5 C dX1_dip_29 rfl ?_
      refine v_iaload C dX1_dip_31 hq2 (by decide) rfl ?_
      refine v_iadd C dX1_dip_32 ?_
      refine v_istoreL (lv0 := [(0, .ref (adr Y 1 0)), (1, .int a1), (2, .int a2), (3, .int a3), (4, .int a4), (5, .int b5)]) C dX1_dip_33 (by decide) rfl (fun x3 => ?_)
      refine v_iload 0 C dX1_dip_35 rfl ?_
      refine v_istore (lv' := [(7, .int x3), (6, .int x3), (0, .ref (adr Y 1 0)), (1, .int a1), (2, .int a2), (3, .int a3), (4, .int a4), (5, .int b5)]) C dX1_dip_37 (by decide) rfl ?_
      refine v_lv (vLX1_dip_39 _ _ _ _ _ _ C M _ (fun σ10 => ?_) FU _ _) [2, 3, 4, 5, 6, 7, 1, 0] rfl
      refine v_iinc (lv' := [(5, .int (b5 + nI 1)), (0, .ref (adr Y 1 0)), (1, .int a1), (2, .int a2), (3, .int a3), (4, .int a4)]) 5 C dX1_dip_103 rfl (congrArg (b5 + ·) kc_iconst_1) (by decide) rfl ?_
      refine v_goto (tgt := 13) C dX1_dip_106 (by decide) ?_
      exact v_lv (ih (b5 + nI 1) σ10) [1, 2, 3, 4, 5, 0] rfl
set_option maxRecDepth 20000 in
theorem kX1_dip {X : Cx} (p1 : Int32) (p2 : Int32) (p3 : Int32) (p4 : Int32) (σ : St) : Kon X 0 yX1_dip cX1_dip 8 none gV [.ref (adr X 1 0), .int p1, .int p2, .int p3, .int p4] σ (fX1_dip p1 p2 p3 p4 σ) := by
  refine konJ (own := RX1) (fun _ => gV) (fun a b => [.ref (a 1 0), .int p1, .int p2, .int p3, .int p4]) (by decide +kernel) rfl (fun _ _ => Nat.le_of_ble_eq_true rfl) (fun Y C M => ?_)
  show V Y gV 0 [(0, .ref (adr Y 1 0)), (1, .int p1), (2, .int p2), (3, .int p3), (4, .int p4)] [] σ (fX1_dip p1 p2 p3 p4 σ)
  unfold fX1_dip
  refine v_aload_n 0 C dX1_dip_0 rfl ?_
  refine v_dup C dX1_dip_1 rfl ?_
  refine v_geti C dX1_dip_2 lf_X1_74 ck_1 (by decide) ?_
  refine v_iconst C dX1_dip_5 kc_iconst_1 ?_
  refine v_iadd C dX1_dip_6 ?_
  refine v_putiL C dX1_dip_7 lp_X1_74 ck_1 (by decide) (fun σ1 => ?_)
  refine v_iconst C dX1_dip_10 kc_iconst_0 ?_
  refine v_istore (lv' := [(5, .int 0), (0, .ref (adr Y 1 0)), (1, .int p1), (2, .int p2), (3, .int p3), (4, .int p4)]) C dX1_dip_11 (by decide) rfl ?_
  refine v_lv (vLX1_dip_13 _ _ _ _ C M _ (fun σ11 => ?_) FU _ _) [1, 2, 3, 4, 5, 0] rfl
  exact v_vret C M dX1_dip_109
-- OpenLines$Pass letGoAll(I)V, depth 1
def LX1_letGoAll_65 (a1 : Int32) (a2 : Int32) (a3 : Int32) (ke : St → Option (Unit × St)) : Nat → Int32 → St → Option (Unit × St)
  | 0, _, _ => none
  | n + 1, b4, σ => (if (nI 6) ≤ b4 then ke σ else (jn (fun (x9 : Int32) (σ8 : St) => (jn (fun (σ10 : St) => LX1_letGoAll_65 a1 a2 a3 ke n (b4 + nI 1) σ10) fun j112 => if x9 ≤ 0 then j112 σ8 else bd (fX1_dip a2 b4 a1 ((nI 2) * x9) σ8) fun _ (σ11 : St) => j112 σ11)) fun j93 => if (fX7_has a3 b4) = 0 then j93 0 σ else bd (fX1_nearestDriver a2 b4 a1 σ) fun (r13 : Int32) (σ12 : St) => j93 r13 σ12))
def LX1_letGoAll_2 (a1 : Int32) (ke : St → Option (Unit × St)) : Nat → Int32 → St → Option (Unit × St)
  | 0, _, _ => none
  | n + 1, b2, σ => (if a1 ≤ 0 then ke σ else (if (σ.1 1 0 7) ≤ b2 then ke σ else gi b2 6 <| gi a1 401 <| gi b2 6 <| gi (a1 - (nI 1)) 401 <| (jn (fun (σ3 : St) => LX1_letGoAll_2 a1 ke n (b2 + nI 1) σ3) fun j118 => if (σ.1 14 b2.toNatClampNeg a1.toNatClampNeg) = (σ.1 14 b2.toNatClampNeg (a1 - (nI 1)).toNatClampNeg) then j118 σ else lt (wI σ 1 0 15 a1) fun (σ4 : St) => gi b2 6 <| gi (a1 - (nI 1)) 401 <| gi b2 6 <| gi a1 401 <| lt ((σ4.1 14 b2.toNatClampNeg (a1 - (nI 1)).toNatClampNeg) &&& ((σ4.1 14 b2.toNatClampNeg a1.toNatClampNeg) ^^^ (-1))) fun (x7 : Int32) => (LX1_letGoAll_65 a1 b2 x7 (fun (σ14 : St) => j118 σ14) FU 0 σ4))))
def fX1_letGoAll (p1 : Int32) (σ : St) : Option (Unit × St) :=
  (LX1_letGoAll_2 p1 (fun (σ15 : St) => some ((), σ15)) FU 0 σ)
set_option maxRecDepth 20000 in
theorem vLX1_letGoAll_65 {Y : Cx} (a1 : Int32) (a2 : Int32) (a3 : Int32) (C : Ok Y RX1 cX1_letGoAll 6 1) (M : OkM Y none) (ke : St → Option (Unit × St)) (hke : ∀ (σ : St), V Y gV 118 [(0, .ref (adr Y 1 0)), (1, .int a1), (2, .int a2)] [] σ (ke σ)) : ∀ (n : Nat) (b4 : Int32) (σ : St), V Y gV 65 [(0, .ref (adr Y 1 0)), (1, .int a1), (2, .int a2), (3, .int a3), (4, .int b4)] [] σ (LX1_letGoAll_65 a1 a2 a3 ke n b4 σ) := by
  intro n
  induction n with
  | zero => intros; exact v_none
  | succ n ih =>
    intro b4 σ
    rw [LX1_letGoAll_65]
    refine v_iload 4 C dX1_letGoAll_65 rfl ?_
    refine v_bipush C dX1_letGoAll_67 kc_bipush_6 ?_
    refine v_icmp_ge (tgt := 118) C dX1_letGoAll_69 (by decide) ?_ ?_
    · skip
      exact v_lv (hke σ) [0, 1, 2] rfl
    · skip
      refine v_iload_n 3 C dX1_letGoAll_72 rfl ?_
      refine v_iload 4 C dX1_letGoAll_73 rfl ?_
      refine v_cN2p C dX1_letGoAll_75 ln_X1_96 (kX7_has a3 b4 _) (by decide) (Nat.le_of_ble_eq_true rfl) ?_
      refine v_jn (fun j93 => ∀ (x9 : Int32) (σ8 : St), V Y gV 93 [(0, .ref (adr Y 1 0)), (1, .int a1), (2, .int a2), (3, .int a3), (4, .int b4)] [.int x9] σ8 (j93 x9 σ8)) ?_ ?_
      · intro x9 σ8
        refine v_istore (lv' := [(5, .int x9), (0, .ref (adr Y 1 0)), (1, .int a1), (2, .int a2), (3, .int a3), (4, .int b4)]) C dX1_letGoAll_93 (by decide) rfl ?_
        refine v_iload 0 C dX1_letGoAll_95 rfl ?_
        refine v_jn (fun j112 => ∀ (σ10 : St), V Y gV 112 [(0, .ref (adr Y 1 0)), (1, .int a1), (2, .int a2), (3, .int a3), (4, .int b4)] [] σ10 (j112 σ10)) ?_ ?_
        · intro σ10
          refine v_iinc (lv' := [(4, .int (b4 + nI 1)), (0, .ref (adr Y 1 0)), (1, .int a1), (2, .int a2), (3, .int a3)]) 4 C dX1_letGoAll_112 rfl (congrArg (b4 + ·) kc_iconst_1) (by decide) rfl ?_
          refine v_goto (tgt := 65) C dX1_letGoAll_115 (by decide) ?_
          exact v_lv (ih (b4 + nI 1) σ10) [1, 2, 3, 4, 0] rfl
        · intro j112 hj112
          refine v_if_le (tgt := 112) C dX1_letGoAll_97 (by decide) ?_ ?_
          · skip
            exact v_lv (hj112 σ8) [1, 2, 3, 4, 5] rfl
          · skip
            refine v_aload_n 1 C dX1_letGoAll_100 rfl ?_
            refine v_iload_n 3 C dX1_letGoAll_101 rfl ?_
            refine v_iload 5 C dX1_letGoAll_102 rfl ?_
            refine v_iload_n 2 C dX1_letGoAll_104 rfl ?_
            refine v_iconst C dX1_letGoAll_105 kc_iconst_2 ?_
            refine v_iload 0 C dX1_letGoAll_106 rfl ?_
            refine v_imul C dX1_letGoAll_108 ?_
            refine v_cV4v C dX1_letGoAll_109 lv_X1_107 ck_1 (kX1_dip a2 b4 a1 ((nI 2) * x9) _) (by decide) (Nat.le_of_ble_eq_true rfl) (fun _ σ11 => ?_)
            exact v_lv (hj112 σ11) [1, 2, 3, 4, 5] rfl
      · intro j93 hj93
        refine v_if_eq (tgt := 92) C dX1_letGoAll_78 (by decide) ?_ ?_
        · skip
          refine v_iconst C dX1_letGoAll_92 kc_iconst_0 ?_
          exact v_lv (hj93 0 σ) [0, 1, 2, 3, 4] rfl
        · skip
          refine v_aload_n 0 C dX1_letGoAll_81 rfl ?_
          refine v_iload_n 2 C dX1_letGoAll_82 rfl ?_
          refine v_iload 4 C dX1_letGoAll_83 rfl ?_
          refine v_iload_n 1 C dX1_letGoAll_85 rfl ?_
          refine v_cV3i C dX1_letGoAll_86 lv_X1_103 ck_1 (kX1_nearestDriver a2 b4 a1 _) (by decide) (Nat.le_of_ble_eq_true rfl) (fun r13 σ12 => ?_)
          refine v_goto (tgt := 93) C dX1_letGoAll_89 (by decide) ?_
          exact v_lv (hj93 r13 σ12) [0, 1, 2, 3, 4] rfl
set_option maxRecDepth 20000 in
theorem vLX1_letGoAll_2 {Y : Cx} (a1 : Int32) (C : Ok Y RX1 cX1_letGoAll 6 1) (M : OkM Y none) (ke : St → Option (Unit × St)) (hke : ∀ (σ : St), V Y gV 124 [] [] σ (ke σ)) : ∀ (n : Nat) (b2 : Int32) (σ : St), V Y gV 2 [(0, .ref (adr Y 1 0)), (1, .int a1), (2, .int b2)] [] σ (LX1_letGoAll_2 a1 ke n b2 σ) := by
  intro n
  induction n with
  | zero => intros; exact v_none
  | succ n ih =>
    intro b2 σ
    rw [LX1_letGoAll_2]
    refine v_iload_n 1 C dX1_letGoAll_2 rfl ?_
    refine v_if_le (tgt := 124) C dX1_letGoAll_3 (by decide) ?_ ?_
    · skip
      exact v_lv (hke σ) [] rfl
    · skip
      refine v_iload_n 2 C dX1_letGoAll_6 rfl ?_
      refine v_aload_n 0 C dX1_letGoAll_7 rfl ?_
      refine v_geti C dX1_letGoAll_8 lf_X1_47 ck_1 (by decide) ?_
      refine v_icmp_ge (tgt := 124) C dX1_letGoAll_11 (by decide) ?_ ?_
      · skip
        exact v_lv (hke σ) [] rfl
      · skip
        refine v_aload_n 0 C dX1_letGoAll_14 rfl ?_
        refine v_getc C dX1_letGoAll_15 lf_X1_20 ck_1 rfl ?_
        refine v_iload_n 2 C dX1_letGoAll_18 rfl ?_
        refine v_aaload0 C dX1_letGoAll_19 ck_13 (by decide) rfl rfl (fun hq1 => ?_)
        refine v_iload_n 1 C dX1_letGoAll_20 rfl ?_
        refine v_iaload C dX1_letGoAll_21 hq1 (by decide) rfl ?_
        refine v_aload_n 0 C dX1_letGoAll_22 rfl ?_
        refine v_getc C dX1_letGoAll_23 lf_X1_20 ck_1 rfl ?_
        refine v_iload_n 2 C dX1_letGoAll_26 rfl ?_
        refine v_aaload0 C dX1_letGoAll_27 ck_13 (by decide) rfl rfl (fun hq2 => ?_)
        refine v_iload_n 1 C dX1_letGoAll_28 rfl ?_
        refine v_iconst C dX1_letGoAll_29 kc_iconst_1 ?_
        refine v_isub C dX1_letGoAll_30 ?_
        refine v_iaload C dX1_letGoAll_31 hq2 (by decide) rfl ?_
        refine v_jn (fun j118 => ∀ (σ3 : St), V Y gV 118 [(0, .ref (adr Y 1 0)), (1, .int a1), (2, .int b2)] [] σ3 (j118 σ3)) ?_ ?_
        · intro σ3
          refine v_iinc (lv' := [(2, .int (b2 + nI 1)), (0, .ref (adr Y 1 0)), (1, .int a1)]) 2 C dX1_letGoAll_118 rfl (congrArg (b2 + ·) kc_iconst_1) (by decide) rfl ?_
          refine v_goto (tgt := 2) C dX1_letGoAll_121 (by decide) ?_
          exact v_lv (ih (b2 + nI 1) σ3) [1, 2, 0] rfl
        · intro j118 hj118
          refine v_icmp_eq (tgt := 118) C dX1_letGoAll_32 (by decide) ?_ ?_
          · skip
            exact v_lv (hj118 σ) [0, 1, 2] rfl
          · skip
            refine v_aload_n 0 C dX1_letGoAll_35 rfl ?_
            refine v_iload_n 1 C dX1_letGoAll_36 rfl ?_
            refine v_putiL C dX1_letGoAll_37 lp_X1_71 ck_1 (by decide) (fun σ4 => ?_)
            refine v_aload_n 0 C dX1_letGoAll_40 rfl ?_
            refine v_getc C dX1_letGoAll_41 lf_X1_20 ck_1 rfl ?_
            refine v_iload_n 2 C dX1_letGoAll_44 rfl ?_
            refine v_aaload0 C dX1_letGoAll_45 ck_13 (by decide) rfl rfl (fun hq5 => ?_)
            refine v_iload_n 1 C dX1_letGoAll_46 rfl ?_
            refine v_iconst C dX1_letGoAll_47 kc_iconst_1 ?_
            refine v_isub C dX1_letGoAll_48 ?_
            refine v_iaload C dX1_letGoAll_49 hq5 (by decide) rfl ?_
            refine v_aload_n 0 C dX1_letGoAll_50 rfl ?_
            refine v_getc C dX1_letGoAll_51 lf_X1_20 ck_1 rfl ?_
            refine v_iload_n 2 C dX1_letGoAll_54 rfl ?_
            refine v_aaload0 C dX1_letGoAll_55 ck_13 (by decide) rfl rfl (fun hq6 => ?_)
            refine v_iload_n 1 C dX1_letGoAll_56 rfl ?_
            refine v_iaload C dX1_letGoAll_57 hq6 (by decide) rfl ?_
            refine v_iconst C dX1_letGoAll_58 kc_iconst_m1 ?_
            refine v_ixor C dX1_letGoAll_59 ?_
            refine v_iand C dX1_letGoAll_60 ?_
            refine v_istore_nL (lv0 := [(0, .ref (adr Y 1 0)), (1, .int a1), (2, .int b2)]) C dX1_letGoAll_61 rfl (by decide) rfl (fun x7 => ?_)
            refine v_iconst C dX1_letGoAll_62 kc_iconst_0 ?_
            refine v_istore (lv' := [(4, .int 0), (3, .int x7), (0, .ref (adr Y 1 0)), (1, .int a1), (2, .int b2)]) C dX1_letGoAll_63 (by decide) rfl ?_
            refine v_lv (vLX1_letGoAll_65 _ _ _ C M _ (fun σ14 => ?_) FU _ _) [2, 3, 4, 1, 0] rfl
            exact v_lv (hj118 σ14) [0, 1, 2] rfl
set_option maxRecDepth 20000 in
theorem kX1_letGoAll {X : Cx} (p1 : Int32) (σ : St) : Kon X 1 yX1_letGoAll cX1_letGoAll 6 none gV [.ref (adr X 1 0), .int p1] σ (fX1_letGoAll p1 σ) := by
  refine konJ (own := RX1) (fun _ => gV) (fun a b => [.ref (a 1 0), .int p1]) (by decide +kernel) rfl (fun _ _ => Nat.le_of_ble_eq_true rfl) (fun Y C M => ?_)
  show V Y gV 0 [(0, .ref (adr Y 1 0)), (1, .int p1)] [] σ (fX1_letGoAll p1 σ)
  unfold fX1_letGoAll
  refine v_iconst C dX1_letGoAll_0 kc_iconst_0 ?_
  refine v_istore_n (lv' := [(2, .int 0), (0, .ref (adr Y 1 0)), (1, .int p1)]) C dX1_letGoAll_1 rfl (by decide) rfl ?_
  refine v_lv (vLX1_letGoAll_2 _ C M _ (fun σ15 => ?_) FU _ _) [1, 2, 0] rfl
  exact v_vret C M dX1_letGoAll_124
-- OpenLines$Pass look(II)I, depth 0
def LX1_look_5 (a1 : Int32) (a2 : Int32) (ke : Int32 → St → Option (Int32 × St)) : Nat → Int32 → Int32 → St → Option (Int32 × St)
  | 0, _, _, _ => none
  | n + 1, b3, b4, σ => (if (σ.1 1 0 7) ≤ b4 then ke b3 σ else gi a1 6 <| gi b4 6 <| lt (a2 - (σ.1 12 a1.toNatClampNeg b4.toNatClampNeg)) fun (x2 : Int32) => (jn (fun (x4 : Int32) (σ3 : St) => LX1_look_5 a1 a2 ke n x4 (b4 + nI 1) σ3) fun j51 => if x2 < 0 then j51 b3 σ else (if a2 < x2 then j51 b3 σ else gi b4 6 <| gi x2 401 <| lt (b3 ||| (σ.1 14 b4.toNatClampNeg x2.toNatClampNeg)) fun (x6 : Int32) => j51 x6 σ)))
def fX1_look (p1 : Int32) (p2 : Int32) (σ : St) : Option (Int32 × St) :=
  (LX1_look_5 p1 p2 (fun (x7 : Int32) (σ8 : St) => gi p1 6 <| gi p2 401 <| gi p1 6 <| gi p2 401 <| some (((σ8.1 14 p1.toNatClampNeg p2.toNatClampNeg) ||| ((x7 &&& ((σ8.1 22 p1.toNatClampNeg p2.toNatClampNeg) ^^^ (-1))) &&& ((σ8.1 1 0 10) ^^^ (-1)))) ||| (σ8.1 1 0 9), σ8)) FU 0 0 σ)
set_option maxRecDepth 20000 in
theorem vLX1_look_5 {Y : Cx} (a1 : Int32) (a2 : Int32) (C : Ok Y RX1 cX1_look 6 0) (M : OkM Y (some .int)) (ke : Int32 → St → Option (Int32 × St)) (hke : ∀ (b3 : Int32) (σ : St), V Y gI 57 [(0, .ref (adr Y 1 0)), (1, .int a1), (2, .int a2), (3, .int b3)] [] σ (ke b3 σ)) : ∀ (n : Nat) (b3 : Int32) (b4 : Int32) (σ : St), V Y gI 5 [(0, .ref (adr Y 1 0)), (1, .int a1), (2, .int a2), (3, .int b3), (4, .int b4)] [] σ (LX1_look_5 a1 a2 ke n b3 b4 σ) := by
  intro n
  induction n with
  | zero => intros; exact v_none
  | succ n ih =>
    intro b3 b4 σ
    rw [LX1_look_5]
    refine v_iload 4 C dX1_look_5 rfl ?_
    refine v_aload_n 0 C dX1_look_7 rfl ?_
    refine v_geti C dX1_look_8 lf_X1_47 ck_1 (by decide) ?_
    refine v_icmp_ge (tgt := 57) C dX1_look_11 (by decide) ?_ ?_
    · skip
      exact v_lv (hke b3 σ) [0, 1, 2, 3] rfl
    · skip
      refine v_iload_n 2 C dX1_look_14 rfl ?_
      refine v_aload_n 0 C dX1_look_15 rfl ?_
      refine v_getc C dX1_look_16 lf_X1_17 ck_1 rfl ?_
      refine v_iload_n 1 C dX1_look_19 rfl ?_
      refine v_aaload0 C dX1_look_20 ck_11 (by decide) rfl rfl (fun hq1 => ?_)
      refine v_iload 4 C dX1_look_21 rfl ?_
      refine v_iaload C dX1_look_23 hq1 (by decide) rfl ?_
      refine v_isub C dX1_look_24 ?_
      refine v_istoreL (lv0 := [(0, .ref (adr Y 1 0)), (1, .int a1), (2, .int a2), (3, .int b3), (4, .int b4)]) C dX1_look_25 (by decide) rfl (fun x2 => ?_)
      refine v_iload 0 C dX1_look_27 rfl ?_
      refine v_jn (fun j51 => ∀ (x4 : Int32) (σ3 : St), V Y gI 51 [(0, .ref (adr Y 1 0)), (1, .int a1), (2, .int a2), (3, .int x4), (4, .int b4)] [] σ3 (j51 x4 σ3)) ?_ ?_
      · intro x4 σ3
        refine v_iinc (lv' := [(4, .int (b4 + nI 1)), (0, .ref (adr Y 1 0)), (1, .int a1), (2, .int a2), (3, .int x4)]) 4 C dX1_look_51 rfl (congrArg (b4 + ·) kc_iconst_1) (by decide) rfl ?_
        refine v_goto (tgt := 5) C dX1_look_54 (by decide) ?_
        exact v_lv (ih x4 (b4 + nI 1) σ3) [1, 2, 3, 4, 0] rfl
      · intro j51 hj51
        refine v_if_lt (tgt := 51) C dX1_look_29 (by decide) ?_ ?_
        · skip
          exact v_lv (hj51 b3 σ) [1, 2, 3, 4, 5] rfl
        · skip
          refine v_iload 0 C dX1_look_32 rfl ?_
          refine v_iload_n 3 C dX1_look_34 rfl ?_
          refine v_icmp_gt (tgt := 51) C dX1_look_35 (by decide) ?_ ?_
          · skip
            exact v_lv (hj51 b3 σ) [1, 2, 3, 4, 5] rfl
          · skip
            refine v_iload_n 4 C dX1_look_38 rfl ?_
            refine v_aload_n 1 C dX1_look_39 rfl ?_
            refine v_getc C dX1_look_40 lf_X1_20 ck_1 rfl ?_
            refine v_iload 5 C dX1_look_43 rfl ?_
            refine v_aaload0 C dX1_look_45 ck_13 (by decide) rfl rfl (fun hq5 => ?_)
            refine v_iload 0 C dX1_look_46 rfl ?_
            refine v_iaload C dX1_look_48 hq5 (by decide) rfl ?_
            refine v_ior C dX1_look_49 ?_
            refine v_istore_nL (lv0 := [(5, .int x2), (0, .ref (adr Y 1 0)), (1, .int a1), (2, .int a2), (4, .int b4)]) C dX1_look_50 rfl (by decide) rfl (fun x6 => ?_)
            exact v_lv (hj51 x6 σ) [2, 3, 4, 0, 5] rfl
set_option maxRecDepth 20000 in
theorem kX1_look {X : Cx} (p1 : Int32) (p2 : Int32) (σ : St) : Kon X 0 yX1_look cX1_look 6 (some .int) gI [.ref (adr X 1 0), .int p1, .int p2] σ (fX1_look p1 p2 σ) := by
  refine konJ (own := RX1) (fun _ => gI) (fun a b => [.ref (a 1 0), .int p1, .int p2]) (by decide +kernel) rfl (fun _ _ => Nat.le_of_ble_eq_true rfl) (fun Y C M => ?_)
  show V Y gI 0 [(0, .ref (adr Y 1 0)), (1, .int p1), (2, .int p2)] [] σ (fX1_look p1 p2 σ)
  unfold fX1_look
  refine v_iconst C dX1_look_0 kc_iconst_0 ?_
  refine v_istore_n (lv' := [(3, .int 0), (0, .ref (adr Y 1 0)), (1, .int p1), (2, .int p2)]) C dX1_look_1 rfl (by decide) rfl ?_
  refine v_iconst C dX1_look_2 kc_iconst_0 ?_
  refine v_istore (lv' := [(4, .int 0), (3, .int 0), (0, .ref (adr Y 1 0)), (1, .int p1), (2, .int p2)]) C dX1_look_3 (by decide) rfl ?_
  refine v_lv (vLX1_look_5 _ _ C M _ (fun x7 σ8 => ?_) FU _ _ _) [2, 3, 4, 1, 0] rfl
  refine v_aload_n 0 C dX1_look_57 rfl ?_
  refine v_getc C dX1_look_58 lf_X1_20 ck_1 rfl ?_
  refine v_iload_n 1 C dX1_look_61 rfl ?_
  refine v_aaload0 C dX1_look_62 ck_13 (by decide) rfl rfl (fun hq9 => ?_)
  refine v_iload_n 2 C dX1_look_63 rfl ?_
  refine v_iaload C dX1_look_64 hq9 (by decide) rfl ?_
  refine v_iload_n 3 C dX1_look_65 rfl ?_
  refine v_aload_n 0 C dX1_look_66 rfl ?_
  refine v_getc C dX1_look_67 lf_X1_32 ck_1 rfl ?_
  refine v_iload_n 1 C dX1_look_70 rfl ?_
  refine v_aaload0 C dX1_look_71 ck_21 (by decide) rfl rfl (fun hq10 => ?_)
  refine v_iload_n 2 C dX1_look_72 rfl ?_
  refine v_iaload C dX1_look_73 hq10 (by decide) rfl ?_
  refine v_iconst C dX1_look_74 kc_iconst_m1 ?_
  refine v_ixor C dX1_look_75 ?_
  refine v_iand C dX1_look_76 ?_
  refine v_aload_n 0 C dX1_look_77 rfl ?_
  refine v_geti C dX1_look_78 lf_X1_55 ck_1 (by decide) ?_
  refine v_iconst C dX1_look_81 kc_iconst_m1 ?_
  refine v_ixor C dX1_look_82 ?_
  refine v_iand C dX1_look_83 ?_
  refine v_ior C dX1_look_84 ?_
  refine v_aload_n 0 C dX1_look_85 rfl ?_
  refine v_geti C dX1_look_86 lf_X1_52 ck_1 (by decide) ?_
  refine v_ior C dX1_look_89 ?_
  exact v_iret C M dX1_look_90
-- OpenLines$Pass filtered(II)I, depth 0
def LX1_filtered_26 (a1 : Int32) (a2 : Int32) (ke : Int32 → St → Option (Int32 × St)) : Nat → Int32 → Int32 → St → Option (Int32 × St)
  | 0, _, _, _ => none
  | n + 1, b3, b5, σ => (if a2 < b5 then ke b3 σ else gi a1 6 <| gi b5 401 <| lt (b3 ||| (σ.1 16 a1.toNatClampNeg b5.toNatClampNeg)) fun (x6 : Int32) => LX1_filtered_26 a1 a2 ke n x6 (b5 + nI 1) σ)
def fX1_filtered (p1 : Int32) (p2 : Int32) (σ : St) : Option (Int32 × St) :=
  lt (if p2 ≤ (σ.1 1 0 12) then 0 else (p2 - (σ.1 1 0 12))) fun (x4 : Int32) => (LX1_filtered_26 p1 p2 (fun (x7 : Int32) (σ8 : St) => some (x7, σ8)) FU 0 x4 σ)
set_option maxRecDepth 20000 in
theorem vLX1_filtered_26 {Y : Cx} (a1 : Int32) (a2 : Int32) (C : Ok Y RX1 cX1_filtered 6 0) (M : OkM Y (some .int)) (ke : Int32 → St → Option (Int32 × St)) (hke : ∀ (b3 : Int32) (σ : St), V Y gI 50 [(3, .int b3)] [] σ (ke b3 σ)) : ∀ (n : Nat) (b3 : Int32) (b5 : Int32) (σ : St), V Y gI 26 [(0, .ref (adr Y 1 0)), (1, .int a1), (2, .int a2), (3, .int b3), (5, .int b5)] [] σ (LX1_filtered_26 a1 a2 ke n b3 b5 σ) := by
  intro n
  induction n with
  | zero => intros; exact v_none
  | succ n ih =>
    intro b3 b5 σ
    rw [LX1_filtered_26]
    refine v_iload 4 C dX1_filtered_26 rfl ?_
    refine v_iload_n 2 C dX1_filtered_28 rfl ?_
    refine v_icmp_gt (tgt := 50) C dX1_filtered_29 (by decide) ?_ ?_
    · skip
      exact v_lv (hke b3 σ) [3] rfl
    · skip
      refine v_iload_n 3 C dX1_filtered_32 rfl ?_
      refine v_aload_n 0 C dX1_filtered_33 rfl ?_
      refine v_getc C dX1_filtered_34 lf_X1_23 ck_1 rfl ?_
      refine v_iload_n 1 C dX1_filtered_37 rfl ?_
      refine v_aaload0 C dX1_filtered_38 ck_15 (by decide) rfl rfl (fun hq5 => ?_)
      refine v_iload 4 C dX1_filtered_39 rfl ?_
      refine v_iaload C dX1_filtered_41 hq5 (by decide) rfl ?_
      refine v_ior C dX1_filtered_42 ?_
      refine v_istore_nL (lv0 := [(0, .ref (adr Y 1 0)), (1, .int a1), (2, .int a2), (5, .int b5)]) C dX1_filtered_43 rfl (by decide) rfl (fun x6 => ?_)
      refine v_iinc (lv' := [(5, .int (b5 + nI 1)), (3, .int x6), (0, .ref (adr Y 1 0)), (1, .int a1), (2, .int a2)]) 4 C dX1_filtered_44 rfl (congrArg (b5 + ·) kc_iconst_1) (by decide) rfl ?_
      refine v_goto (tgt := 26) C dX1_filtered_47 (by decide) ?_
      exact v_lv (ih x6 (b5 + nI 1) σ) [2, 3, 4, 1, 0] rfl
set_option maxRecDepth 20000 in
theorem kX1_filtered {X : Cx} (p1 : Int32) (p2 : Int32) (σ : St) : Kon X 0 yX1_filtered cX1_filtered 6 (some .int) gI [.ref (adr X 1 0), .int p1, .int p2] σ (fX1_filtered p1 p2 σ) := by
  refine konJ (own := RX1) (fun _ => gI) (fun a b => [.ref (a 1 0), .int p1, .int p2]) (by decide +kernel) rfl (fun _ _ => Nat.le_of_ble_eq_true rfl) (fun Y C M => ?_)
  show V Y gI 0 [(0, .ref (adr Y 1 0)), (1, .int p1), (2, .int p2)] [] σ (fX1_filtered p1 p2 σ)
  unfold fX1_filtered
  refine v_iconst C dX1_filtered_0 kc_iconst_0 ?_
  refine v_istore_n (lv' := [(3, .int 0), (0, .ref (adr Y 1 0)), (1, .int p1), (2, .int p2)]) C dX1_filtered_1 rfl (by decide) rfl ?_
  refine v_iload_n 3 C dX1_filtered_2 rfl ?_
  refine v_aload_n 1 C dX1_filtered_3 rfl ?_
  refine v_geti C dX1_filtered_4 lf_X1_68 ck_1 (by decide) ?_
  refine v_cut (pcJ := 20) (lv := [(3, .int 0), (0, .ref (adr Y 1 0)), (1, .int p1), (2, .int p2)]) (st := .int (if p2 ≤ (σ.1 1 0 12) then 0 else (p2 - (σ.1 1 0 12))) :: []) ?_ (fun hj1 => ?_)
  rotate_left
  · skip
    refine v_icmp_le_b (tgt := 19) C dX1_filtered_7 (by decide) (fun h2 => ?_) (fun h2 => ?_)
    · have hj3 := v_jpos h2 hj1
      refine v_iconst C dX1_filtered_19 kc_iconst_0 ?_
      exact hj3
    · have hj3 := v_jneg h2 hj1
      refine v_iload_n 3 C dX1_filtered_10 rfl ?_
      refine v_aload_n 1 C dX1_filtered_11 rfl ?_
      refine v_geti C dX1_filtered_12 lf_X1_68 ck_1 (by decide) ?_
      refine v_isub C dX1_filtered_15 ?_
      refine v_goto (tgt := 20) C dX1_filtered_16 (by decide) ?_
      exact hj3
  refine v_istoreL (lv0 := [(3, .int 0), (0, .ref (adr Y 1 0)), (1, .int p1), (2, .int p2)]) C dX1_filtered_20 (by decide) rfl (fun x4 => ?_)
  refine v_iload 0 C dX1_filtered_22 rfl ?_
  refine v_istore (lv' := [(5, .int x4), (4, .int x4), (3, .int 0), (0, .ref (adr Y 1 0)), (1, .int p1), (2, .int p2)]) C dX1_filtered_24 (by decide) rfl ?_
  refine v_lv (vLX1_filtered_26 _ _ C M _ (fun x7 σ8 => ?_) FU _ _ _) [3, 4, 5, 2, 0] rfl
  refine v_iload_n 0 C dX1_filtered_50 rfl ?_
  exact v_iret C M dX1_filtered_51
-- OpenLines$Pass highest(I)I, depth 0
def LX1_highest_2 (a0 : Int32) (ke : St → Option (Int32 × St)) : Nat → Int32 → St → Option (Int32 × St)
  | 0, _, _ => none
  | n + 1, b1, σ => (if b1 < 0 then ke σ else (if ((a0 >>> (b1 &&& 31)) &&& (nI 1)) = 0 then LX1_highest_2 a0 ke n (b1 + (-1)) σ else some (b1, σ)))
def fX1_highest (p0 : Int32) (σ : St) : Option (Int32 × St) :=
  (LX1_highest_2 p0 (fun (σ1 : St) => some ((-2), σ1)) FU (nI 5) σ)
set_option maxRecDepth 20000 in
theorem vLX1_highest_2 {Y : Cx} (a0 : Int32) (C : Ok Y RX1 cX1_highest 2 0) (M : OkM Y (some .int)) (ke : St → Option (Int32 × St)) (hke : ∀ (σ : St), V Y gI 22 [] [] σ (ke σ)) : ∀ (n : Nat) (b1 : Int32) (σ : St), V Y gI 2 [(0, .int a0), (1, .int b1)] [] σ (LX1_highest_2 a0 ke n b1 σ) := by
  intro n
  induction n with
  | zero => intros; exact v_none
  | succ n ih =>
    intro b1 σ
    rw [LX1_highest_2]
    refine v_iload_n 1 C dX1_highest_2 rfl ?_
    refine v_if_lt (tgt := 22) C dX1_highest_3 (by decide) ?_ ?_
    · skip
      exact v_lv (hke σ) [] rfl
    · skip
      refine v_iload_n 0 C dX1_highest_6 rfl ?_
      refine v_iload_n 1 C dX1_highest_7 rfl ?_
      refine v_ishr C dX1_highest_8 ?_
      refine v_iconst C dX1_highest_9 kc_iconst_1 ?_
      refine v_iand C dX1_highest_10 ?_
      refine v_if_eq (tgt := 16) C dX1_highest_11 (by decide) ?_ ?_
      · skip
        refine v_iinc (lv' := [(1, .int (b1 + (-1))), (0, .int a0)]) 1 C dX1_highest_16 rfl (congrArg (b1 + ·) kc_iconst_m1) (by decide) rfl ?_
        refine v_goto (tgt := 2) C dX1_highest_19 (by decide) ?_
        exact v_lv (ih (b1 + (-1)) σ) [1, 0] rfl
      · skip
        refine v_iload_n 1 C dX1_highest_14 rfl ?_
        exact v_iret C M dX1_highest_15
set_option maxRecDepth 20000 in
theorem kX1_highest {X : Cx} (p0 : Int32) (σ : St) : Kon X 0 yX1_highest cX1_highest 2 (some .int) gI [.int p0] σ (fX1_highest p0 σ) := by
  refine konJ (own := RX1) (fun _ => gI) (fun a b => [.int p0]) (by decide +kernel) rfl (fun _ _ => Nat.le_of_ble_eq_true rfl) (fun Y C M => ?_)
  show V Y gI 0 [(0, .int p0)] [] σ (fX1_highest p0 σ)
  unfold fX1_highest
  refine v_iconst C dX1_highest_0 kc_iconst_5 ?_
  refine v_istore_n (lv' := [(1, .int (nI 5)), (0, .int p0)]) C dX1_highest_1 rfl (by decide) rfl ?_
  refine v_lv (vLX1_highest_2 _ C M _ (fun σ1 => ?_) FU _ _) [1, 0] rfl
  refine v_bipush C dX1_highest_22 kc_bipush_m2 ?_
  exact v_iret C M dX1_highest_24
-- OpenLines$Pass seeAll(I)V, depth 1
def LX1_seeAll_2 (a1 : Int32) (ke : St → Option (Unit × St)) : Nat → Int32 → St → Option (Unit × St)
  | 0, _, _ => none
  | n + 1, b2, σ => (if (σ.1 1 0 7) ≤ b2 then ke σ else gi b2 6 <| bd (fX1_look b2 a1 σ) fun (r3 : Int32) (σ2 : St) => gi a1 401 <| lt (wI σ2 16 b2.toNatClampNeg a1.toNatClampNeg r3) fun (σ4 : St) => gi b2 6 <| bd (fX1_filtered b2 a1 σ4) fun (r7 : Int32) (σ6 : St) => gi a1 401 <| lt (wI σ6 18 b2.toNatClampNeg a1.toNatClampNeg r7) fun (σ8 : St) => gi b2 6 <| gi a1 401 <| gi b2 6 <| lt ((σ8.1 18 b2.toNatClampNeg a1.toNatClampNeg) &&& ((σ8.1 10 0 b2.toNatClampNeg) ^^^ (-1))) fun (x10 : Int32) => gi b2 6 <| (jn (fun (x13 : Int32) (σ12 : St) => gi a1 401 <| lt (wI σ12 20 b2.toNatClampNeg a1.toNatClampNeg x13) fun (σ14 : St) => LX1_seeAll_2 a1 ke n (b2 + nI 1) σ14) fun j83 => if (fX7_has (σ8.1 1 0 11) b2) = 0 then j83 (-2) σ8 else bd (fX1_highest x10 σ8) fun (r16 : Int32) (σ15 : St) => j83 r16 σ15))
def fX1_seeAll (p1 : Int32) (σ : St) : Option (Unit × St) :=
  (LX1_seeAll_2 p1 (fun (σ17 : St) => some ((), σ17)) FU 0 σ)
set_option maxRecDepth 20000 in
theorem vLX1_seeAll_2 {Y : Cx} (a1 : Int32) (C : Ok Y RX1 cX1_seeAll 4 1) (M : OkM Y none) (ke : St → Option (Unit × St)) (hke : ∀ (σ : St), V Y gV 90 [] [] σ (ke σ)) : ∀ (n : Nat) (b2 : Int32) (σ : St), V Y gV 2 [(0, .ref (adr Y 1 0)), (1, .int a1), (2, .int b2)] [] σ (LX1_seeAll_2 a1 ke n b2 σ) := by
  intro n
  induction n with
  | zero => intros; exact v_none
  | succ n ih =>
    intro b2 σ
    rw [LX1_seeAll_2]
    refine v_iload_n 2 C dX1_seeAll_2 rfl ?_
    refine v_aload_n 0 C dX1_seeAll_3 rfl ?_
    refine v_geti C dX1_seeAll_4 lf_X1_47 ck_1 (by decide) ?_
    refine v_icmp_ge (tgt := 90) C dX1_seeAll_7 (by decide) ?_ ?_
    · skip
      exact v_lv (hke σ) [] rfl
    · skip
      refine v_aload_n 0 C dX1_seeAll_10 rfl ?_
      refine v_getc C dX1_seeAll_11 lf_X1_23 ck_1 rfl ?_
      refine v_iload_n 2 C dX1_seeAll_14 rfl ?_
      refine v_aaload0 C dX1_seeAll_15 ck_15 (by decide) rfl rfl (fun hq1 => ?_)
      refine v_iload_n 1 C dX1_seeAll_16 rfl ?_
      refine v_aload_n 0 C dX1_seeAll_17 rfl ?_
      refine v_iload_n 2 C dX1_seeAll_18 rfl ?_
      refine v_iload_n 1 C dX1_seeAll_19 rfl ?_
      refine v_cV2i C dX1_seeAll_20 lv_X1_111 ck_1 (kX1_look b2 a1 _) (by decide) (Nat.le_of_ble_eq_true rfl) (fun r3 σ2 => ?_)
      refine v_iastoreL C dX1_seeAll_23 hq1 (by decide) rfl (fun σ4 => ?_)
      refine v_aload_n 0 C dX1_seeAll_24 rfl ?_
      refine v_getc C dX1_seeAll_25 lf_X1_26 ck_1 rfl ?_
      refine v_iload_n 2 C dX1_seeAll_28 rfl ?_
      refine v_aaload0 C dX1_seeAll_29 ck_17 (by decide) rfl rfl (fun hq5 => ?_)
      refine v_iload_n 1 C dX1_seeAll_30 rfl ?_
      refine v_aload_n 0 C dX1_seeAll_31 rfl ?_
      refine v_iload_n 2 C dX1_seeAll_32 rfl ?_
      refine v_iload_n 1 C dX1_seeAll_33 rfl ?_
      refine v_cV2i C dX1_seeAll_34 lv_X1_114 ck_1 (kX1_filtered b2 a1 _) (by decide) (Nat.le_of_ble_eq_true rfl) (fun r7 σ6 => ?_)
      refine v_iastoreL C dX1_seeAll_37 hq5 (by decide) rfl (fun σ8 => ?_)
      refine v_aload_n 0 C dX1_seeAll_38 rfl ?_
      refine v_getc C dX1_seeAll_39 lf_X1_26 ck_1 rfl ?_
      refine v_iload_n 2 C dX1_seeAll_42 rfl ?_
      refine v_aaload0 C dX1_seeAll_43 ck_17 (by decide) rfl rfl (fun hq9 => ?_)
      refine v_iload_n 1 C dX1_seeAll_44 rfl ?_
      refine v_iaload C dX1_seeAll_45 hq9 (by decide) rfl ?_
      refine v_aload_n 0 C dX1_seeAll_46 rfl ?_
      refine v_getc C dX1_seeAll_47 lf_X1_9 ck_1 rfl ?_
      refine v_iload_n 2 C dX1_seeAll_50 rfl ?_
      refine v_iaload C dX1_seeAll_51 ck_10 (by decide) rfl ?_
      refine v_iconst C dX1_seeAll_52 kc_iconst_m1 ?_
      refine v_ixor C dX1_seeAll_53 ?_
      refine v_iand C dX1_seeAll_54 ?_
      refine v_istore_nL (lv0 := [(0, .ref (adr Y 1 0)), (1, .int a1), (2, .int b2)]) C dX1_seeAll_55 rfl (by decide) rfl (fun x10 => ?_)
      refine v_aload_n 1 C dX1_seeAll_56 rfl ?_
      refine v_getc C dX1_seeAll_57 lf_X1_29 ck_1 rfl ?_
      refine v_iload_n 3 C dX1_seeAll_60 rfl ?_
      refine v_aaload0 C dX1_seeAll_61 ck_19 (by decide) rfl rfl (fun hq11 => ?_)
      refine v_iload_n 2 C dX1_seeAll_62 rfl ?_
      refine v_aload_n 1 C dX1_seeAll_63 rfl ?_
      refine v_geti C dX1_seeAll_64 lf_X1_65 ck_1 (by decide) ?_
      refine v_iload_n 3 C dX1_seeAll_67 rfl ?_
      refine v_cN2p C dX1_seeAll_68 ln_X1_96 (kX7_has (σ8.1 1 0 11) b2 _) (by decide) (Nat.le_of_ble_eq_true rfl) ?_
      refine v_jn (fun j83 => ∀ (x13 : Int32) (σ12 : St), V Y gV 83 [(0, .ref (adr Y 1 0)), (1, .int a1), (2, .int b2)] [.int x13, .int a1, .ref (adr Y 20 b2.toNatClampNeg)] σ12 (j83 x13 σ12)) ?_ ?_
      · intro x13 σ12
        refine v_iastoreL C dX1_seeAll_83 hq11 (by decide) rfl (fun σ14 => ?_)
        refine v_iinc (lv' := [(2, .int (b2 + nI 1)), (0, .ref (adr Y 1 0)), (1, .int a1)]) 2 C dX1_seeAll_84 rfl (congrArg (b2 + ·) kc_iconst_1) (by decide) rfl ?_
        refine v_goto (tgt := 2) C dX1_seeAll_87 (by decide) ?_
        exact v_lv (ih (b2 + nI 1) σ14) [1, 2, 0] rfl
      · intro j83 hj83
        refine v_if_eq (tgt := 81) C dX1_seeAll_71 (by decide) ?_ ?_
        · skip
          refine v_bipush C dX1_seeAll_81 kc_bipush_m2 ?_
          exact v_lv (hj83 (-2) σ8) [1, 2, 3] rfl
        · skip
          refine v_iload_n 0 C dX1_seeAll_74 rfl ?_
          refine v_cS1i C dX1_seeAll_75 ls_X1_117 (kX1_highest x10 _) (by decide) (Nat.le_of_ble_eq_true rfl) (fun r16 σ15 => ?_)
          refine v_goto (tgt := 83) C dX1_seeAll_78 (by decide) ?_
          exact v_lv (hj83 r16 σ15) [1, 2, 3] rfl
set_option maxRecDepth 20000 in
theorem kX1_seeAll {X : Cx} (p1 : Int32) (σ : St) : Kon X 1 yX1_seeAll cX1_seeAll 4 none gV [.ref (adr X 1 0), .int p1] σ (fX1_seeAll p1 σ) := by
  refine konJ (own := RX1) (fun _ => gV) (fun a b => [.ref (a 1 0), .int p1]) (by decide +kernel) rfl (fun _ _ => Nat.le_of_ble_eq_true rfl) (fun Y C M => ?_)
  show V Y gV 0 [(0, .ref (adr Y 1 0)), (1, .int p1)] [] σ (fX1_seeAll p1 σ)
  unfold fX1_seeAll
  refine v_iconst C dX1_seeAll_0 kc_iconst_0 ?_
  refine v_istore_n (lv' := [(2, .int 0), (0, .ref (adr Y 1 0)), (1, .int p1)]) C dX1_seeAll_1 rfl (by decide) rfl ?_
  refine v_lv (vLX1_seeAll_2 _ C M _ (fun σ17 => ?_) FU _ _) [1, 2, 0] rfl
  exact v_vret C M dX1_seeAll_90
-- OpenLines$Pass play(III)V, depth 2
def LX1_play_35 (a3 : Int32) (ke : St → Option (Unit × St)) : Nat → Int32 → Int32 → St → Option (Unit × St)
  | 0, _, _, _ => none
  | n + 1, b4, b5, σ => (if b4 = 0 then ke σ else (if a3 < b5 then ke σ else (if (nI 400) < b5 then ke σ else bd (fX1_driveAll b5 σ) fun _ (σ7 : St) => bd (fX1_letGoAll b5 σ7) fun _ (σ8 : St) => bd (fX1_seeAll b5 σ8) fun _ (σ9 : St) => lt (wI σ9 1 0 14 b5) fun (σ10 : St) => lt (if (nI 50) ≤ (b5 - (σ10.1 1 0 15)) then 0 else (nI 1)) fun (x14 : Int32) => LX1_play_35 a3 ke n x14 (b5 + nI 1) σ10)))
def fX1_play (p1 : Int32) (p2 : Int32) (p3 : Int32) (σ : St) : Option (Unit × St) :=
  lt (wI σ 1 0 11 p1) fun (σ1 : St) => lt (wI σ1 1 0 12 p2) fun (σ2 : St) => lt (wI σ2 1 0 15 0) fun (σ3 : St) => lt (wI σ3 1 0 16 0) fun (σ4 : St) => lt (wI σ4 1 0 14 0) fun (σ5 : St) => bd (fX1_clearDips σ5) fun _ (σ6 : St) => (LX1_play_35 p3 (fun (σ15 : St) => some ((), σ15)) FU (nI 1) 0 σ6)
set_option maxRecDepth 20000 in
theorem vLX1_play_35 {Y : Cx} (a3 : Int32) (C : Ok Y RX1 cX1_play 6 2) (M : OkM Y none) (ke : St → Option (Unit × St)) (hke : ∀ (σ : St), V Y gV 103 [] [] σ (ke σ)) : ∀ (n : Nat) (b4 : Int32) (b5 : Int32) (σ : St), V Y gV 35 [(0, .ref (adr Y 1 0)), (3, .int a3), (4, .int b4), (5, .int b5)] [] σ (LX1_play_35 a3 ke n b4 b5 σ) := by
  intro n
  induction n with
  | zero => intros; exact v_none
  | succ n ih =>
    intro b4 b5 σ
    rw [LX1_play_35]
    refine v_iload 2 C dX1_play_35 rfl ?_
    refine v_if_eq (tgt := 103) C dX1_play_37 (by decide) ?_ ?_
    · skip
      exact v_lv (hke σ) [] rfl
    · skip
      refine v_iload 3 C dX1_play_40 rfl ?_
      refine v_iload_n 1 C dX1_play_42 rfl ?_
      refine v_icmp_gt (tgt := 103) C dX1_play_43 (by decide) ?_ ?_
      · skip
        exact v_lv (hke σ) [] rfl
      · skip
        refine v_iload 3 C dX1_play_46 rfl ?_
        refine v_sipush C dX1_play_48 kc_sipush_400 ?_
        refine v_icmp_gt (tgt := 103) C dX1_play_51 (by decide) ?_ ?_
        · skip
          exact v_lv (hke σ) [] rfl
        · skip
          refine v_aload_n 0 C dX1_play_54 rfl ?_
          refine v_iload 3 C dX1_play_55 rfl ?_
          refine v_cV1v C dX1_play_57 lv_X1_83 ck_1 (kX1_driveAll b5 _) (by decide) (Nat.le_of_ble_eq_true rfl) (fun _ σ7 => ?_)
          refine v_aload_n 0 C dX1_play_60 rfl ?_
          refine v_iload 3 C dX1_play_61 rfl ?_
          refine v_cV1v C dX1_play_63 lv_X1_87 ck_1 (kX1_letGoAll b5 _) (by decide) (Nat.le_of_ble_eq_true rfl) (fun _ σ8 => ?_)
          refine v_aload_n 0 C dX1_play_66 rfl ?_
          refine v_iload 3 C dX1_play_67 rfl ?_
          refine v_cV1v C dX1_play_69 lv_X1_90 ck_1 (kX1_seeAll b5 _) (by decide) (Nat.le_of_ble_eq_true rfl) (fun _ σ9 => ?_)
          refine v_aload_n 0 C dX1_play_72 rfl ?_
          refine v_iload 3 C dX1_play_73 rfl ?_
          refine v_putiL C dX1_play_75 lp_X1_77 ck_1 (by decide) (fun σ10 => ?_)
          refine v_iload 3 C dX1_play_78 rfl ?_
          refine v_aload_n 0 C dX1_play_80 rfl ?_
          refine v_geti C dX1_play_81 lf_X1_71 ck_1 (by decide) ?_
          refine v_isub C dX1_play_84 ?_
          refine v_bipush C dX1_play_85 kc_bipush_50 ?_
          refine v_cut (pcJ := 95) (lv := [(0, .ref (adr Y 1 0)), (3, .int a3), (4, .int b4), (5, .int b5)]) (st := .int (if (nI 50) ≤ (b5 - (σ10.1 1 0 15)) then 0 else (nI 1)) :: []) ?_ (fun hj11 => ?_)
          rotate_left
          · skip
            refine v_icmp_ge_b (tgt := 94) C dX1_play_87 (by decide) (fun h12 => ?_) (fun h12 => ?_)
            · have hj13 := v_jpos h12 hj11
              refine v_iconst C dX1_play_94 kc_iconst_0 ?_
              exact hj13
            · have hj13 := v_jneg h12 hj11
              refine v_iconst C dX1_play_90 kc_iconst_1 ?_
              refine v_goto (tgt := 95) C dX1_play_91 (by decide) ?_
              exact hj13
          refine v_istoreL (lv0 := [(0, .ref (adr Y 1 0)), (3, .int a3), (5, .int b5)]) C dX1_play_95 (by decide) rfl (fun x14 => ?_)
          refine v_iinc (lv' := [(5, .int (b5 + nI 1)), (4, .int x14), (0, .ref (adr Y 1 0)), (3, .int a3)]) 3 C dX1_play_97 rfl (congrArg (b5 + ·) kc_iconst_1) (by decide) rfl ?_
          refine v_goto (tgt := 35) C dX1_play_100 (by decide) ?_
          exact v_lv (ih x14 (b5 + nI 1) σ10) [2, 3, 1, 0] rfl
set_option maxRecDepth 20000 in
theorem kX1_play {X : Cx} (p1 : Int32) (p2 : Int32) (p3 : Int32) (σ : St) : Kon X 2 yX1_play cX1_play 6 none gV [.ref (adr X 1 0), .int p1, .int p2, .int p3] σ (fX1_play p1 p2 p3 σ) := by
  refine konJ (own := RX1) (fun _ => gV) (fun a b => [.ref (a 1 0), .int p1, .int p2, .int p3]) (by decide +kernel) rfl (fun _ _ => Nat.le_of_ble_eq_true rfl) (fun Y C M => ?_)
  show V Y gV 0 [(0, .ref (adr Y 1 0)), (1, .int p1), (2, .int p2), (3, .int p3)] [] σ (fX1_play p1 p2 p3 σ)
  unfold fX1_play
  refine v_aload_n 0 C dX1_play_0 rfl ?_
  refine v_iload_n 1 C dX1_play_1 rfl ?_
  refine v_putiL C dX1_play_2 lp_X1_65 ck_1 (by decide) (fun σ1 => ?_)
  refine v_aload_n 0 C dX1_play_5 rfl ?_
  refine v_iload_n 2 C dX1_play_6 rfl ?_
  refine v_putiL C dX1_play_7 lp_X1_68 ck_1 (by decide) (fun σ2 => ?_)
  refine v_aload_n 0 C dX1_play_10 rfl ?_
  refine v_iconst C dX1_play_11 kc_iconst_0 ?_
  refine v_putiL C dX1_play_12 lp_X1_71 ck_1 (by decide) (fun σ3 => ?_)
  refine v_aload_n 0 C dX1_play_15 rfl ?_
  refine v_iconst C dX1_play_16 kc_iconst_0 ?_
  refine v_putiL C dX1_play_17 lp_X1_74 ck_1 (by decide) (fun σ4 => ?_)
  refine v_aload_n 0 C dX1_play_20 rfl ?_
  refine v_iconst C dX1_play_21 kc_iconst_0 ?_
  refine v_putiL C dX1_play_22 lp_X1_77 ck_1 (by decide) (fun σ5 => ?_)
  refine v_aload_n 0 C dX1_play_25 rfl ?_
  refine v_cV0v C dX1_play_26 lv_X1_80 ck_1 (kX1_clearDips _) (by decide) (Nat.le_of_ble_eq_true rfl) (fun _ σ6 => ?_)
  refine v_iconst C dX1_play_29 kc_iconst_1 ?_
  refine v_istore (lv' := [(4, .int (nI 1)), (0, .ref (adr Y 1 0)), (1, .int p1), (2, .int p2), (3, .int p3)]) C dX1_play_30 (by decide) rfl ?_
  refine v_iconst C dX1_play_32 kc_iconst_0 ?_
  refine v_istore (lv' := [(5, .int 0), (4, .int (nI 1)), (0, .ref (adr Y 1 0)), (1, .int p1), (2, .int p2), (3, .int p3)]) C dX1_play_33 (by decide) rfl ?_
  refine v_lv (vLX1_play_35 _ C M _ (fun σ15 => ?_) FU _ _ _) [2, 5, 1, 0] rfl
  exact v_vret C M dX1_play_103
-- OpenLines$Pass playedTick(I)I, depth 0
def fX1_playedTick (p1 : Int32) (σ : St) : Option (Int32 × St) :=
  some (if 0 ≤ p1 then (if p1 ≤ (σ.1 1 0 14) then p1 else (σ.1 1 0 14)) else 0, σ)
set_option maxRecDepth 20000 in
theorem kX1_playedTick {X : Cx} (p1 : Int32) (σ : St) : Kon X 0 yX1_playedTick cX1_playedTick 2 (some .int) gI [.ref (adr X 1 0), .int p1] σ (fX1_playedTick p1 σ) := by
  refine konJ (own := RX1) (fun _ => gI) (fun a b => [.ref (a 1 0), .int p1]) (by decide +kernel) rfl (fun _ _ => Nat.le_of_ble_eq_true rfl) (fun Y C M => ?_)
  show V Y gI 0 [(0, .ref (adr Y 1 0)), (1, .int p1)] [] σ (fX1_playedTick p1 σ)
  unfold fX1_playedTick
  refine v_iload_n 1 C dX1_playedTick_0 rfl ?_
  refine v_cut (pcJ := 24) (lv := [(0, .ref (adr Y 1 0)), (1, .int p1)]) (st := .int (if 0 ≤ p1 then (if p1 ≤ (σ.1 1 0 14) then p1 else (σ.1 1 0 14)) else 0) :: []) ?_ (fun hj1 => ?_)
  rotate_left
  · skip
    refine v_if_ge_b (tgt := 8) C dX1_playedTick_1 (by decide) (fun h2 => ?_) (fun h2 => ?_)
    · have hj3 := v_jpos h2 hj1
      refine v_iload_n 1 C dX1_playedTick_8 rfl ?_
      refine v_aload_n 0 C dX1_playedTick_9 rfl ?_
      refine v_geti C dX1_playedTick_10 lf_X1_77 ck_1 (by decide) ?_
      refine v_icmp_le_b (tgt := 23) C dX1_playedTick_13 (by decide) (fun h4 => ?_) (fun h4 => ?_)
      · have hj5 := v_jpos h4 hj3
        refine v_iload_n 1 C dX1_playedTick_23 rfl ?_
        exact hj5
      · have hj5 := v_jneg h4 hj3
        refine v_aload_n 0 C dX1_playedTick_16 rfl ?_
        refine v_geti C dX1_playedTick_17 lf_X1_77 ck_1 (by decide) ?_
        refine v_goto (tgt := 24) C dX1_playedTick_20 (by decide) ?_
        exact hj5
    · have hj3 := v_jneg h2 hj1
      refine v_iconst C dX1_playedTick_4 kc_iconst_0 ?_
      refine v_goto (tgt := 24) C dX1_playedTick_5 (by decide) ?_
      exact hj3
  exact v_iret C M dX1_playedTick_24
-- OpenLines$Pass yieldedAt(II)I, depth 1
def fX1_yieldedAt (p1 : Int32) (p2 : Int32) (σ : St) : Option (Int32 × St) :=
  (if (fX7_isBelow p1 (σ.1 1 0 7)) = 0 then some ((-2), σ) else gi p1 6 <| bd (fX1_playedTick p2 σ) fun (r3 : Int32) (σ2 : St) => gi r3 401 <| some (σ2.1 20 p1.toNatClampNeg r3.toNatClampNeg, σ2))
set_option maxRecDepth 20000 in
theorem kX1_yieldedAt {X : Cx} (p1 : Int32) (p2 : Int32) (σ : St) : Kon X 1 yX1_yieldedAt cX1_yieldedAt 3 (some .int) gI [.ref (adr X 1 0), .int p1, .int p2] σ (fX1_yieldedAt p1 p2 σ) := by
  refine konJ (own := RX1) (fun _ => gI) (fun a b => [.ref (a 1 0), .int p1, .int p2]) (by decide +kernel) rfl (fun _ _ => Nat.le_of_ble_eq_true rfl) (fun Y C M => ?_)
  show V Y gI 0 [(0, .ref (adr Y 1 0)), (1, .int p1), (2, .int p2)] [] σ (fX1_yieldedAt p1 p2 σ)
  unfold fX1_yieldedAt
  refine v_iload_n 1 C dX1_yieldedAt_0 rfl ?_
  refine v_aload_n 0 C dX1_yieldedAt_1 rfl ?_
  refine v_geti C dX1_yieldedAt_2 lf_X1_47 ck_1 (by decide) ?_
  refine v_cN2p C dX1_yieldedAt_5 ln_X1_120 (kX7_isBelow p1 (σ.1 1 0 7) _) (by decide) (Nat.le_of_ble_eq_true rfl) ?_
  refine v_if_eq (tgt := 26) C dX1_yieldedAt_8 (by decide) ?_ ?_
  · skip
    refine v_bipush C dX1_yieldedAt_26 kc_bipush_m2 ?_
    exact v_iret C M dX1_yieldedAt_28
  · skip
    refine v_aload_n 0 C dX1_yieldedAt_11 rfl ?_
    refine v_getc C dX1_yieldedAt_12 lf_X1_29 ck_1 rfl ?_
    refine v_iload_n 1 C dX1_yieldedAt_15 rfl ?_
    refine v_aaload0 C dX1_yieldedAt_16 ck_19 (by decide) rfl rfl (fun hq1 => ?_)
    refine v_aload_n 0 C dX1_yieldedAt_17 rfl ?_
    refine v_iload_n 2 C dX1_yieldedAt_18 rfl ?_
    refine v_cV1i C dX1_yieldedAt_19 lv_X1_123 ck_1 (kX1_playedTick p2 _) (by decide) (Nat.le_of_ble_eq_true rfl) (fun r3 σ2 => ?_)
    refine v_iaload C dX1_yieldedAt_22 hq1 (by decide) rfl ?_
    refine v_goto (tgt := 28) C dX1_yieldedAt_23 (by decide) ?_
    exact v_iret C M dX1_yieldedAt_28
-- OpenLines$Pass winnersAt(I)I, depth 2
def LX1_winnersAt_4 (a1 : Int32) (ke : Int32 → St → Option (Int32 × St)) : Nat → Int32 → Int32 → St → Option (Int32 × St)
  | 0, _, _, _ => none
  | n + 1, b2, b3, σ => (if (σ.1 1 0 7) ≤ b3 then ke b2 σ else (jn (fun (x2 : Int32) (σ1 : St) => LX1_winnersAt_4 a1 ke n x2 (b3 + nI 1) σ1) fun j40 => if (fX7_has (σ.1 1 0 11) b3) = 0 then j40 b2 σ else bd (fX1_yieldedAt b3 a1 σ) fun (r4 : Int32) (σ3 : St) => (if r4 = (-2) then lt (b2 ||| ((nI 1) <<< (b3 &&& 31))) fun (x5 : Int32) => j40 x5 σ3 else j40 b2 σ3)))
def fX1_winnersAt (p1 : Int32) (σ : St) : Option (Int32 × St) :=
  (LX1_winnersAt_4 p1 (fun (x6 : Int32) (σ7 : St) => some (x6, σ7)) FU 0 0 σ)
set_option maxRecDepth 20000 in
theorem vLX1_winnersAt_4 {Y : Cx} (a1 : Int32) (C : Ok Y RX1 cX1_winnersAt 4 2) (M : OkM Y (some .int)) (ke : Int32 → St → Option (Int32 × St)) (hke : ∀ (b2 : Int32) (σ : St), V Y gI 46 [(2, .int b2)] [] σ (ke b2 σ)) : ∀ (n : Nat) (b2 : Int32) (b3 : Int32) (σ : St), V Y gI 4 [(0, .ref (adr Y 1 0)), (1, .int a1), (2, .int b2), (3, .int b3)] [] σ (LX1_winnersAt_4 a1 ke n b2 b3 σ) := by
  intro n
  induction n with
  | zero => intros; exact v_none
  | succ n ih =>
    intro b2 b3 σ
    rw [LX1_winnersAt_4]
    refine v_iload_n 3 C dX1_winnersAt_4 rfl ?_
    refine v_aload_n 0 C dX1_winnersAt_5 rfl ?_
    refine v_geti C dX1_winnersAt_6 lf_X1_47 ck_1 (by decide) ?_
    refine v_icmp_ge (tgt := 46) C dX1_winnersAt_9 (by decide) ?_ ?_
    · skip
      exact v_lv (hke b2 σ) [2] rfl
    · skip
      refine v_aload_n 0 C dX1_winnersAt_12 rfl ?_
      refine v_geti C dX1_winnersAt_13 lf_X1_65 ck_1 (by decide) ?_
      refine v_iload_n 3 C dX1_winnersAt_16 rfl ?_
      refine v_cN2p C dX1_winnersAt_17 ln_X1_96 (kX7_has (σ.1 1 0 11) b3 _) (by decide) (Nat.le_of_ble_eq_true rfl) ?_
      refine v_jn (fun j40 => ∀ (x2 : Int32) (σ1 : St), V Y gI 40 [(0, .ref (adr Y 1 0)), (1, .int a1), (2, .int x2), (3, .int b3)] [] σ1 (j40 x2 σ1)) ?_ ?_
      · intro x2 σ1
        refine v_iinc (lv' := [(3, .int (b3 + nI 1)), (0, .ref (adr Y 1 0)), (1, .int a1), (2, .int x2)]) 3 C dX1_winnersAt_40 rfl (congrArg (b3 + ·) kc_iconst_1) (by decide) rfl ?_
        refine v_goto (tgt := 4) C dX1_winnersAt_43 (by decide) ?_
        exact v_lv (ih x2 (b3 + nI 1) σ1) [1, 2, 3, 0] rfl
      · intro j40 hj40
        refine v_if_eq (tgt := 40) C dX1_winnersAt_20 (by decide) ?_ ?_
        · skip
          exact v_lv (hj40 b2 σ) [0, 1, 2, 3] rfl
        · skip
          refine v_aload_n 0 C dX1_winnersAt_23 rfl ?_
          refine v_iload_n 3 C dX1_winnersAt_24 rfl ?_
          refine v_iload_n 1 C dX1_winnersAt_25 rfl ?_
          refine v_cV2i C dX1_winnersAt_26 lv_X1_126 ck_1 (kX1_yieldedAt b3 a1 _) (by decide) (Nat.le_of_ble_eq_true rfl) (fun r4 σ3 => ?_)
          refine v_bipush C dX1_winnersAt_29 kc_bipush_m2 ?_
          refine v_icmp_ne (tgt := 40) C dX1_winnersAt_31 (by decide) ?_ ?_
          · skip
            exact v_lv (hj40 b2 σ3) [0, 1, 2, 3] rfl
          · skip
            refine v_iload_n 2 C dX1_winnersAt_34 rfl ?_
            refine v_iconst C dX1_winnersAt_35 kc_iconst_1 ?_
            refine v_iload_n 3 C dX1_winnersAt_36 rfl ?_
            refine v_ishl C dX1_winnersAt_37 ?_
            refine v_ior C dX1_winnersAt_38 ?_
            refine v_istore_nL (lv0 := [(0, .ref (adr Y 1 0)), (1, .int a1), (3, .int b3)]) C dX1_winnersAt_39 rfl (by decide) rfl (fun x5 => ?_)
            exact v_lv (hj40 x5 σ3) [1, 2, 0, 3] rfl
set_option maxRecDepth 20000 in
theorem kX1_winnersAt {X : Cx} (p1 : Int32) (σ : St) : Kon X 2 yX1_winnersAt cX1_winnersAt 4 (some .int) gI [.ref (adr X 1 0), .int p1] σ (fX1_winnersAt p1 σ) := by
  refine konJ (own := RX1) (fun _ => gI) (fun a b => [.ref (a 1 0), .int p1]) (by decide +kernel) rfl (fun _ _ => Nat.le_of_ble_eq_true rfl) (fun Y C M => ?_)
  show V Y gI 0 [(0, .ref (adr Y 1 0)), (1, .int p1)] [] σ (fX1_winnersAt p1 σ)
  unfold fX1_winnersAt
  refine v_iconst C dX1_winnersAt_0 kc_iconst_0 ?_
  refine v_istore_n (lv' := [(2, .int 0), (0, .ref (adr Y 1 0)), (1, .int p1)]) C dX1_winnersAt_1 rfl (by decide) rfl ?_
  refine v_iconst C dX1_winnersAt_2 kc_iconst_0 ?_
  refine v_istore_n (lv' := [(3, .int 0), (2, .int 0), (0, .ref (adr Y 1 0)), (1, .int p1)]) C dX1_winnersAt_3 rfl (by decide) rfl ?_
  refine v_lv (vLX1_winnersAt_4 _ C M _ (fun x6 σ7 => ?_) FU _ _ _) [2, 3, 1, 0] rfl
  refine v_iload_n 0 C dX1_winnersAt_46 rfl ?_
  exact v_iret C M dX1_winnersAt_47
-- OpenLines$Pass believedAt(II)I, depth 1
def fX1_believedAt (p1 : Int32) (p2 : Int32) (σ : St) : Option (Int32 × St) :=
  (if (fX7_isBelow p1 (σ.1 1 0 7)) = 0 then some (0, σ) else gi p1 6 <| bd (fX1_playedTick p2 σ) fun (r3 : Int32) (σ2 : St) => gi r3 401 <| some (σ2.1 18 p1.toNatClampNeg r3.toNatClampNeg, σ2))
set_option maxRecDepth 20000 in
theorem kX1_believedAt {X : Cx} (p1 : Int32) (p2 : Int32) (σ : St) : Kon X 1 yX1_believedAt cX1_believedAt 3 (some .int) gI [.ref (adr X 1 0), .int p1, .int p2] σ (fX1_believedAt p1 p2 σ) := by
  refine konJ (own := RX1) (fun _ => gI) (fun a b => [.ref (a 1 0), .int p1, .int p2]) (by decide +kernel) rfl (fun _ _ => Nat.le_of_ble_eq_true rfl) (fun Y C M => ?_)
  show V Y gI 0 [(0, .ref (adr Y 1 0)), (1, .int p1), (2, .int p2)] [] σ (fX1_believedAt p1 p2 σ)
  unfold fX1_believedAt
  refine v_iload_n 1 C dX1_believedAt_0 rfl ?_
  refine v_aload_n 0 C dX1_believedAt_1 rfl ?_
  refine v_geti C dX1_believedAt_2 lf_X1_47 ck_1 (by decide) ?_
  refine v_cN2p C dX1_believedAt_5 ln_X1_120 (kX7_isBelow p1 (σ.1 1 0 7) _) (by decide) (Nat.le_of_ble_eq_true rfl) ?_
  refine v_if_eq (tgt := 26) C dX1_believedAt_8 (by decide) ?_ ?_
  · skip
    refine v_iconst C dX1_believedAt_26 kc_iconst_0 ?_
    exact v_iret C M dX1_believedAt_27
  · skip
    refine v_aload_n 0 C dX1_believedAt_11 rfl ?_
    refine v_getc C dX1_believedAt_12 lf_X1_26 ck_1 rfl ?_
    refine v_iload_n 1 C dX1_believedAt_15 rfl ?_
    refine v_aaload0 C dX1_believedAt_16 ck_17 (by decide) rfl rfl (fun hq1 => ?_)
    refine v_aload_n 0 C dX1_believedAt_17 rfl ?_
    refine v_iload_n 2 C dX1_believedAt_18 rfl ?_
    refine v_cV1i C dX1_believedAt_19 lv_X1_123 ck_1 (kX1_playedTick p2 _) (by decide) (Nat.le_of_ble_eq_true rfl) (fun r3 σ2 => ?_)
    refine v_iaload C dX1_believedAt_22 hq1 (by decide) rfl ?_
    refine v_goto (tgt := 27) C dX1_believedAt_23 (by decide) ?_
    exact v_iret C M dX1_believedAt_27
-- OpenLines$Pass isEvenAt(I)Z, depth 2
def LX1_isEvenAt_2 (a1 : Int32) (ke : St → Option (Int32 × St)) : Nat → Int32 → St → Option (Int32 × St)
  | 0, _, _ => none
  | n + 1, b2, σ => (if (σ.1 1 0 7) ≤ b2 then ke σ else bd (fX1_believedAt b2 a1 σ) fun (r2 : Int32) (σ1 : St) => bd (fJ6_bitCount_0f7a4 r2 σ1) fun (r4 : Int32) (σ3 : St) => (if (r4 - r4 / (nI 2) * (nI 2)) = 0 then some (nI 1, σ3) else LX1_isEvenAt_2 a1 ke n (b2 + nI 1) σ3))
def fX1_isEvenAt (p1 : Int32) (σ : St) : Option (Int32 × St) :=
  (LX1_isEvenAt_2 p1 (fun (σ5 : St) => some (0, σ5)) FU 0 σ)
set_option maxRecDepth 20000 in
theorem vLX1_isEvenAt_2 {Y : Cx} (a1 : Int32) (C : Ok Y RX1 cX1_isEvenAt 3 2) (M : OkM Y (some .boolean)) (ke : St → Option (Int32 × St)) (hke : ∀ (σ : St), V Y gI 32 [] [] σ (ke σ)) : ∀ (n : Nat) (b2 : Int32) (σ : St), V Y gI 2 [(0, .ref (adr Y 1 0)), (1, .int a1), (2, .int b2)] [] σ (LX1_isEvenAt_2 a1 ke n b2 σ) := by
  intro n
  induction n with
  | zero => intros; exact v_none
  | succ n ih =>
    intro b2 σ
    rw [LX1_isEvenAt_2]
    refine v_iload_n 2 C dX1_isEvenAt_2 rfl ?_
    refine v_aload_n 0 C dX1_isEvenAt_3 rfl ?_
    refine v_geti C dX1_isEvenAt_4 lf_X1_47 ck_1 (by decide) ?_
    refine v_icmp_ge (tgt := 32) C dX1_isEvenAt_7 (by decide) ?_ ?_
    · skip
      exact v_lv (hke σ) [] rfl
    · skip
      refine v_aload_n 0 C dX1_isEvenAt_10 rfl ?_
      refine v_iload_n 2 C dX1_isEvenAt_11 rfl ?_
      refine v_iload_n 1 C dX1_isEvenAt_12 rfl ?_
      refine v_cV2i C dX1_isEvenAt_13 lv_X1_129 ck_1 (kX1_believedAt b2 a1 _) (by decide) (Nat.le_of_ble_eq_true rfl) (fun r2 σ1 => ?_)
      refine v_cS1i C dX1_isEvenAt_16 ls_X1_132 (kJ6_bitCount_0f7a4 r2 _) (by decide) (Nat.le_of_ble_eq_true rfl) (fun r4 σ3 => ?_)
      refine v_iconst C dX1_isEvenAt_19 kc_iconst_2 ?_
      refine v_irem C dX1_isEvenAt_20 (by decide) ?_
      refine v_if_ne (tgt := 26) C dX1_isEvenAt_21 (by decide) ?_ ?_
      · skip
        refine v_iinc (lv' := [(2, .int (b2 + nI 1)), (0, .ref (adr Y 1 0)), (1, .int a1)]) 2 C dX1_isEvenAt_26 rfl (congrArg (b2 + ·) kc_iconst_1) (by decide) rfl ?_
        refine v_goto (tgt := 2) C dX1_isEvenAt_29 (by decide) ?_
        exact v_lv (ih (b2 + nI 1) σ3) [1, 2, 0] rfl
      · skip
        refine v_iconst C dX1_isEvenAt_24 kc_iconst_1 ?_
        exact v_zret C M (by decide) dX1_isEvenAt_25
set_option maxRecDepth 20000 in
theorem kX1_isEvenAt {X : Cx} (p1 : Int32) (σ : St) : Kon X 2 yX1_isEvenAt cX1_isEvenAt 3 (some .boolean) gI [.ref (adr X 1 0), .int p1] σ (fX1_isEvenAt p1 σ) := by
  refine konJ (own := RX1) (fun _ => gI) (fun a b => [.ref (a 1 0), .int p1]) (by decide +kernel) rfl (fun _ _ => Nat.le_of_ble_eq_true rfl) (fun Y C M => ?_)
  show V Y gI 0 [(0, .ref (adr Y 1 0)), (1, .int p1)] [] σ (fX1_isEvenAt p1 σ)
  unfold fX1_isEvenAt
  refine v_iconst C dX1_isEvenAt_0 kc_iconst_0 ?_
  refine v_istore_n (lv' := [(2, .int 0), (0, .ref (adr Y 1 0)), (1, .int p1)]) C dX1_isEvenAt_1 rfl (by decide) rfl ?_
  refine v_lv (vLX1_isEvenAt_2 _ C M _ (fun σ5 => ?_) FU _ _) [1, 2, 0] rfl
  refine v_iconst C dX1_isEvenAt_32 kc_iconst_0 ?_
  exact v_zret C M (by decide) dX1_isEvenAt_33
-- OpenLines$Arbiter only(I)I, depth 0
def LX0_only_2 (a0 : Int32) (ke : St → Option (Int32 × St)) : Nat → Int32 → St → Option (Int32 × St)
  | 0, _, _ => none
  | n + 1, b1, σ => (if (nI 6) ≤ b1 then ke σ else (if a0 = ((nI 1) <<< (b1 &&& 31)) then some (b1, σ) else LX0_only_2 a0 ke n (b1 + nI 1) σ))
def fX0_only (p0 : Int32) (σ : St) : Option (Int32 × St) :=
  (LX0_only_2 p0 (fun (σ1 : St) => some ((-2), σ1)) FU 0 σ)
set_option maxRecDepth 20000 in
theorem vLX0_only_2 {Y : Cx} (a0 : Int32) (C : Ok Y RX0 cX0_only 2 0) (M : OkM Y (some .int)) (ke : St → Option (Int32 × St)) (hke : ∀ (σ : St), V Y gI 23 [] [] σ (ke σ)) : ∀ (n : Nat) (b1 : Int32) (σ : St), V Y gI 2 [(0, .int a0), (1, .int b1)] [] σ (LX0_only_2 a0 ke n b1 σ) := by
  intro n
  induction n with
  | zero => intros; exact v_none
  | succ n ih =>
    intro b1 σ
    rw [LX0_only_2]
    refine v_iload_n 1 C dX0_only_2 rfl ?_
    refine v_bipush C dX0_only_3 kc_bipush_6 ?_
    refine v_icmp_ge (tgt := 23) C dX0_only_5 (by decide) ?_ ?_
    · skip
      exact v_lv (hke σ) [] rfl
    · skip
      refine v_iload_n 0 C dX0_only_8 rfl ?_
      refine v_iconst C dX0_only_9 kc_iconst_1 ?_
      refine v_iload_n 1 C dX0_only_10 rfl ?_
      refine v_ishl C dX0_only_11 ?_
      refine v_icmp_ne (tgt := 17) C dX0_only_12 (by decide) ?_ ?_
      · skip
        refine v_iinc (lv' := [(1, .int (b1 + nI 1)), (0, .int a0)]) 1 C dX0_only_17 rfl (congrArg (b1 + ·) kc_iconst_1) (by decide) rfl ?_
        refine v_goto (tgt := 2) C dX0_only_20 (by decide) ?_
        exact v_lv (ih (b1 + nI 1) σ) [1, 0] rfl
      · skip
        refine v_iload_n 1 C dX0_only_15 rfl ?_
        exact v_iret C M dX0_only_16
set_option maxRecDepth 20000 in
theorem kX0_only {X : Cx} (p0 : Int32) (σ : St) : Kon X 0 yX0_only cX0_only 2 (some .int) gI [.int p0] σ (fX0_only p0 σ) := by
  refine konJ (own := RX0) (fun _ => gI) (fun a b => [.int p0]) (by decide +kernel) rfl (fun _ _ => Nat.le_of_ble_eq_true rfl) (fun Y C M => ?_)
  show V Y gI 0 [(0, .int p0)] [] σ (fX0_only p0 σ)
  unfold fX0_only
  refine v_iconst C dX0_only_0 kc_iconst_0 ?_
  refine v_istore_n (lv' := [(1, .int 0), (0, .int p0)]) C dX0_only_1 rfl (by decide) rfl ?_
  refine v_lv (vLX0_only_2 _ C M _ (fun σ1 => ?_) FU _ _) [1, 0] rfl
  refine v_bipush C dX0_only_23 kc_bipush_m2 ?_
  exact v_iret C M dX0_only_25
-- OpenLines$Arbiter decide(LOpenLines$Run;[II)V, depth 3
def fX0_decide (k1 : Nat) (c2 : Nat) (k2 : Nat) (p3 : Int32) (σ : St) : Option (Unit × St) :=
  gd (σ.2.2 4 k1 1 < 6) <| lt (σ.1 2 (σ.2.2 4 k1 1) 2) fun (x2 : Int32) => bd (fX4_linesThat k1 (nI 1) σ) fun (r4 : Int32) (σ3 : St) => bd (fX4_linesThat k1 (nI 2) σ3) fun (r6 : Int32) (σ5 : St) => bd (fX1_wire (σ.2.2 4 k1 1) r4 r6 σ5) fun _ (σ7 : St) => gd (¬ (0 : Int32) < 0 ∧ ¬ (0 : Int32) < 0 ∧ ¬ ((nI 6) : Int32) < 0 ∧ (0 : Int32).toNatClampNeg + (nI 6).toNatClampNeg ≤ aln c2 ∧ (0 : Int32).toNatClampNeg + (nI 6).toNatClampNeg ≤ 6) <| lt (wA σ7 10 0 (va_cpy (σ7.1 c2 k2) (σ7.1 10 0) ((0 : Int32).toNatClampNeg) ((0 : Int32).toNatClampNeg) ((nI 6).toNatClampNeg))) fun (σ8 : St) => bd (fX1_play p3 (σ8.1 2 (σ.2.2 4 k1 1) 1) x2 σ8) fun _ (σ9 : St) => bd (fX1_winnersAt x2 σ9) fun (r11 : Int32) (σ10 : St) => lt (wI σ10 0 0 1 r11) fun (σ12 : St) => bd (fX1_isEvenAt x2 σ12) fun (r14 : Int32) (σ13 : St) => lt (wI σ13 0 0 3 (if r14 = 0 then 0 else (nI 1))) fun (σ18 : St) => lt (wI σ18 0 0 2 0) fun (σ19 : St) => (jn (fun (σ20 : St) => bd (fX0_only (σ20.1 0 0 2) σ20) fun (r22 : Int32) (σ21 : St) => lt (wI σ21 0 0 4 r22) fun (σ23 : St) => some ((), σ23)) fun j184 => if (σ19.1 0 0 1) = 0 then j184 σ19 else gd (¬ (0 : Int32) < 0 ∧ ¬ (0 : Int32) < 0 ∧ ¬ ((nI 6) : Int32) < 0 ∧ (0 : Int32).toNatClampNeg + (nI 6).toNatClampNeg ≤ 6 ∧ (0 : Int32).toNatClampNeg + (nI 6).toNatClampNeg ≤ 6) <| lt (wA σ19 10 0 (va_cpy (σ19.1 27 (σ.2.2 4 k1 1)) (σ19.1 10 0) ((0 : Int32).toNatClampNeg) ((0 : Int32).toNatClampNeg) ((nI 6).toNatClampNeg))) fun (σ24 : St) => bd (fX1_play (σ24.1 0 0 1) (σ24.1 2 (σ.2.2 4 k1 1) 1) x2 σ24) fun _ (σ25 : St) => bd (fX1_winnersAt x2 σ25) fun (r27 : Int32) (σ26 : St) => lt (wI σ26 0 0 2 r27) fun (σ28 : St) => bd (fX1_isEvenAt x2 σ28) fun (r30 : Int32) (σ29 : St) => lt (wI σ29 0 0 3 ((σ28.1 0 0 3) + (if r30 = 0 then 0 else (nI 1)))) fun (σ34 : St) => j184 σ34)
set_option maxRecDepth 20000 in
theorem kX0_decide {X : Cx} (k1 : Nat) (c2 : Nat) (k2 : Nat) (p3 : Int32) (hk1 : k1 < cnt 4) (ha2 : akd c2 = 1) (hk2 : k2 < cnt c2) (σ : St) : Kon X 3 yX0_decide cX0_decide 6 none gV [.ref (adr X 0 0), .ref (adr X 4 k1), .ref (adr X c2 k2), .int p3] σ (fX0_decide k1 c2 k2 p3 σ) := by
  refine konJ (own := RX0) (fun _ => gV) (fun a b => [.ref (a 0 0), .ref (a 4 k1), .ref (a c2 k2), .int p3]) (by decide +kernel) rfl (fun _ _ => Nat.le_of_ble_eq_true rfl) (fun Y C M => ?_)
  show V Y gV 0 [(0, .ref (adr Y 0 0)), (1, .ref (adr Y 4 k1)), (2, .ref (adr Y c2 k2)), (3, .int p3)] [] σ (fX0_decide k1 c2 k2 p3 σ)
  unfold fX0_decide
  refine v_aload_n 1 C dX0_decide_0 rfl ?_
  refine v_getr C dX0_decide_1 lf_X0_18 hk1 rfl rfl (fun hq1 => ?_)
  refine v_astore (lv' := [(4, .ref (adr Y 2 (σ.2.2 4 k1 1))), (0, .ref (adr Y 0 0)), (1, .ref (adr Y 4 k1)), (2, .ref (adr Y c2 k2)), (3, .int p3)]) C dX0_decide_4 (by decide) rfl ?_
  refine v_aload 0 C dX0_decide_6 rfl ?_
  refine v_geti C dX0_decide_8 lf_X0_24 hq1 (by decide) ?_
  refine v_istoreL (lv0 := [(4, .ref (adr Y 2 (σ.2.2 4 k1 1))), (0, .ref (adr Y 0 0)), (1, .ref (adr Y 4 k1)), (2, .ref (adr Y c2 k2)), (3, .int p3)]) C dX0_decide_11 (by decide) rfl (fun x2 => ?_)
  refine v_aload_n 2 C dX0_decide_13 rfl ?_
  refine v_getc C dX0_decide_14 lf_X0_12 ck_0 rfl ?_
  refine v_aload 1 C dX0_decide_17 rfl ?_
  refine v_aload_n 3 C dX0_decide_19 rfl ?_
  refine v_iconst C dX0_decide_20 kc_iconst_1 ?_
  refine v_cV1i C dX0_decide_21 lv_X0_30 hk1 (kX4_linesThat k1 (nI 1) hk1 _) (by decide) (Nat.le_of_ble_eq_true rfl) (fun r4 σ3 => ?_)
  refine v_aload_n 3 C dX0_decide_24 rfl ?_
  refine v_iconst C dX0_decide_25 kc_iconst_2 ?_
  refine v_cV1i C dX0_decide_26 lv_X0_30 hk1 (kX4_linesThat k1 (nI 2) hk1 _) (by decide) (Nat.le_of_ble_eq_true rfl) (fun r6 σ5 => ?_)
  refine v_cV3v C dX0_decide_29 lv_X0_34 ck_1 (kX1_wire (σ.2.2 4 k1 1) r4 r6 hq1 _) (by decide) (Nat.le_of_ble_eq_true rfl) (fun _ σ7 => ?_)
  refine v_aload_n 4 C dX0_decide_32 rfl ?_
  refine v_iconst C dX0_decide_33 kc_iconst_0 ?_
  refine v_aload_n 2 C dX0_decide_34 rfl ?_
  refine v_getc C dX0_decide_35 lf_X0_12 ck_0 rfl ?_
  refine v_getc C dX0_decide_38 lf_X0_38 ck_1 rfl ?_
  refine v_iconst C dX0_decide_41 kc_iconst_0 ?_
  refine v_bipush C dX0_decide_42 kc_bipush_6 ?_
  refine v_acopyL C dX0_decide_44 ac_X0_42 (by decide) (Nat.le_of_ble_eq_true rfl) hk2 ha2 rfl ck_10 (by decide) rfl (fun σ8 => ?_)
  refine v_aload_n 2 C dX0_decide_47 rfl ?_
  refine v_getc C dX0_decide_48 lf_X0_12 ck_0 rfl ?_
  refine v_iload_n 5 C dX0_decide_51 rfl ?_
  refine v_aload 1 C dX0_decide_52 rfl ?_
  refine v_geti C dX0_decide_54 lf_X0_48 hq1 (by decide) ?_
  refine v_iload 0 C dX0_decide_57 rfl ?_
  refine v_cV3v C dX0_decide_59 lv_X0_51 ck_1 (kX1_play p3 (σ8.1 2 (σ.2.2 4 k1 1) 1) x2 _) (by decide) (Nat.le_of_ble_eq_true rfl) (fun _ σ9 => ?_)
  refine v_aload_n 2 C dX0_decide_62 rfl ?_
  refine v_aload_n 2 C dX0_decide_63 rfl ?_
  refine v_getc C dX0_decide_64 lf_X0_12 ck_0 rfl ?_
  refine v_iload 0 C dX0_decide_67 rfl ?_
  refine v_cV1i C dX0_decide_69 lv_X0_55 ck_1 (kX1_winnersAt x2 _) (by decide) (Nat.le_of_ble_eq_true rfl) (fun r11 σ10 => ?_)
  refine v_putiL C dX0_decide_72 lp_X0_58 ck_0 (by decide) (fun σ12 => ?_)
  refine v_aload_n 2 C dX0_decide_75 rfl ?_
  refine v_aload_n 2 C dX0_decide_76 rfl ?_
  refine v_getc C dX0_decide_77 lf_X0_12 ck_0 rfl ?_
  refine v_iload 0 C dX0_decide_80 rfl ?_
  refine v_cV1i C dX0_decide_82 lv_X0_61 ck_1 (kX1_isEvenAt x2 _) (by decide) (Nat.le_of_ble_eq_true rfl) (fun r14 σ13 => ?_)
  refine v_cut (pcJ := 93) (lv := [(5, .int x2), (4, .ref (adr Y 2 (σ.2.2 4 k1 1))), (0, .ref (adr Y 0 0)), (1, .ref (adr Y 4 k1)), (2, .ref (adr Y c2 k2)), (3, .int p3)]) (st := .int (if r14 = 0 then 0 else (nI 1)) :: [.ref (adr Y 0 0)]) ?_ (fun hj15 => ?_)
  rotate_left
  · skip
    refine v_if_eq_b (tgt := 92) C dX0_decide_85 (by decide) (fun h16 => ?_) (fun h16 => ?_)
    · have hj17 := v_jpos h16 hj15
      refine v_iconst C dX0_decide_92 kc_iconst_0 ?_
      exact hj17
    · have hj17 := v_jneg h16 hj15
      refine v_iconst C dX0_decide_88 kc_iconst_1 ?_
      refine v_goto (tgt := 93) C dX0_decide_89 (by decide) ?_
      exact hj17
  refine v_putiL C dX0_decide_93 lp_X0_65 ck_0 (by decide) (fun σ18 => ?_)
  refine v_aload_n 2 C dX0_decide_96 rfl ?_
  refine v_iconst C dX0_decide_97 kc_iconst_0 ?_
  refine v_putiL C dX0_decide_98 lp_X0_68 ck_0 (by decide) (fun σ19 => ?_)
  refine v_aload_n 2 C dX0_decide_101 rfl ?_
  refine v_geti C dX0_decide_102 lf_X0_58 ck_0 (by decide) ?_
  refine v_jn (fun j184 => ∀ (σ20 : St), V Y gV 184 [(0, .ref (adr Y 0 0))] [] σ20 (j184 σ20)) ?_ ?_
  · intro σ20
    refine v_aload_n 0 C dX0_decide_184 rfl ?_
    refine v_aload_n 0 C dX0_decide_185 rfl ?_
    refine v_geti C dX0_decide_186 lf_X0_68 ck_0 (by decide) ?_
    refine v_cS1i C dX0_decide_189 ls_X0_74 (kX0_only (σ20.1 0 0 2) _) (by decide) (Nat.le_of_ble_eq_true rfl) (fun r22 σ21 => ?_)
    refine v_putiL C dX0_decide_192 lp_X0_77 ck_0 (by decide) (fun σ23 => ?_)
    exact v_vret C M dX0_decide_195
  · intro j184 hj184
    refine v_if_eq (tgt := 184) C dX0_decide_105 (by decide) ?_ ?_
    · skip
      exact v_lv (hj184 σ19) [2] rfl
    · skip
      refine v_aload 1 C dX0_decide_108 rfl ?_
      refine v_getc C dX0_decide_110 lf_X0_71 hq1 rfl ?_
      refine v_iconst C dX0_decide_113 kc_iconst_0 ?_
      refine v_aload_n 2 C dX0_decide_114 rfl ?_
      refine v_getc C dX0_decide_115 lf_X0_12 ck_0 rfl ?_
      refine v_getc C dX0_decide_118 lf_X0_38 ck_1 rfl ?_
      refine v_iconst C dX0_decide_121 kc_iconst_0 ?_
      refine v_bipush C dX0_decide_122 kc_bipush_6 ?_
      refine v_acopyL C dX0_decide_124 ac_X0_42 (by decide) (Nat.le_of_ble_eq_true rfl) hq1 (by decide) rfl ck_10 (by decide) rfl (fun σ24 => ?_)
      refine v_aload_n 2 C dX0_decide_127 rfl ?_
      refine v_getc C dX0_decide_128 lf_X0_12 ck_0 rfl ?_
      refine v_aload_n 2 C dX0_decide_131 rfl ?_
      refine v_geti C dX0_decide_132 lf_X0_58 ck_0 (by decide) ?_
      refine v_aload 1 C dX0_decide_135 rfl ?_
      refine v_geti C dX0_decide_137 lf_X0_48 hq1 (by decide) ?_
      refine v_iload 0 C dX0_decide_140 rfl ?_
      refine v_cV3v C dX0_decide_142 lv_X0_51 ck_1 (kX1_play (σ24.1 0 0 1) (σ24.1 2 (σ.2.2 4 k1 1) 1) x2 _) (by decide) (Nat.le_of_ble_eq_true rfl) (fun _ σ25 => ?_)
      refine v_aload_n 2 C dX0_decide_145 rfl ?_
      refine v_aload_n 2 C dX0_decide_146 rfl ?_
      refine v_getc C dX0_decide_147 lf_X0_12 ck_0 rfl ?_
      refine v_iload 0 C dX0_decide_150 rfl ?_
      refine v_cV1i C dX0_decide_152 lv_X0_55 ck_1 (kX1_winnersAt x2 _) (by decide) (Nat.le_of_ble_eq_true rfl) (fun r27 σ26 => ?_)
      refine v_putiL C dX0_decide_155 lp_X0_68 ck_0 (by decide) (fun σ28 => ?_)
      refine v_aload_n 2 C dX0_decide_158 rfl ?_
      refine v_dup C dX0_decide_159 rfl ?_
      refine v_geti C dX0_decide_160 lf_X0_65 ck_0 (by decide) ?_
      refine v_aload_n 2 C dX0_decide_163 rfl ?_
      refine v_getc C dX0_decide_164 lf_X0_12 ck_0 rfl ?_
      refine v_iload 0 C dX0_decide_167 rfl ?_
      refine v_cV1i C dX0_decide_169 lv_X0_61 ck_1 (kX1_isEvenAt x2 _) (by decide) (Nat.le_of_ble_eq_true rfl) (fun r30 σ29 => ?_)
      refine v_cut (pcJ := 180) (lv := [(5, .int x2), (4, .ref (adr Y 2 (σ.2.2 4 k1 1))), (0, .ref (adr Y 0 0)), (1, .ref (adr Y 4 k1)), (2, .ref (adr Y c2 k2)), (3, .int p3)]) (st := .int (if r30 = 0 then 0 else (nI 1)) :: [.int (σ28.1 0 0 3), .ref (adr Y 0 0)]) ?_ (fun hj31 => ?_)
      rotate_left
      · skip
        refine v_if_eq_b (tgt := 179) C dX0_decide_172 (by decide) (fun h32 => ?_) (fun h32 => ?_)
        · have hj33 := v_jpos h32 hj31
          refine v_iconst C dX0_decide_179 kc_iconst_0 ?_
          exact hj33
        · have hj33 := v_jneg h32 hj31
          refine v_iconst C dX0_decide_175 kc_iconst_1 ?_
          refine v_goto (tgt := 180) C dX0_decide_176 (by decide) ?_
          exact hj33
      refine v_iadd C dX0_decide_180 ?_
      refine v_putiL C dX0_decide_181 lp_X0_65 ck_0 (by decide) (fun σ34 => ?_)
      exact v_lv (hj184 σ34) [2] rfl
-- OpenLines$Pass greatestOf(I)I, depth 1
def LX1_greatestOf_7 (a1 : Int32) (ke : Int32 → St → Option (Int32 × St)) : Nat → Int32 → Int32 → Int32 → St → Option (Int32 × St)
  | 0, _, _, _, _ => none
  | n + 1, b2, b3, b4, σ => (if (σ.1 1 0 7) ≤ b4 then ke b3 σ else (jn (fun (x2 : Int32) (x3 : Int32) (σ1 : St) => LX1_greatestOf_7 a1 ke n x2 x3 (b4 + nI 1) σ1) fun j69 => if (fX7_has a1 b4) = 0 then j69 b2 b3 σ else gi b4 6 <| (if (σ.1 10 0 b4.toNatClampNeg) < b2 then j69 b2 b3 σ else gi b4 6 <| lt (if (σ.1 10 0 b4.toNatClampNeg) ≤ b2 then (b3 ||| ((nI 1) <<< (b4 &&& 31))) else ((nI 1) <<< (b4 &&& 31))) fun (x7 : Int32) => gi b4 6 <| lt (σ.1 10 0 b4.toNatClampNeg) fun (x8 : Int32) => j69 x8 x7 σ)))
def fX1_greatestOf (p1 : Int32) (σ : St) : Option (Int32 × St) :=
  (LX1_greatestOf_7 p1 (fun (x9 : Int32) (σ10 : St) => some (x9, σ10)) FU 0 0 0 σ)
set_option maxRecDepth 20000 in
theorem vLX1_greatestOf_7 {Y : Cx} (a1 : Int32) (C : Ok Y RX1 cX1_greatestOf 5 1) (M : OkM Y (some .int)) (ke : Int32 → St → Option (Int32 × St)) (hke : ∀ (b3 : Int32) (σ : St), V Y gI 75 [(3, .int b3)] [] σ (ke b3 σ)) : ∀ (n : Nat) (b2 : Int32) (b3 : Int32) (b4 : Int32) (σ : St), V Y gI 7 [(0, .ref (adr Y 1 0)), (1, .int a1), (2, .int b2), (3, .int b3), (4, .int b4)] [] σ (LX1_greatestOf_7 a1 ke n b2 b3 b4 σ) := by
  intro n
  induction n with
  | zero => intros; exact v_none
  | succ n ih =>
    intro b2 b3 b4 σ
    rw [LX1_greatestOf_7]
    refine v_iload 4 C dX1_greatestOf_7 rfl ?_
    refine v_aload_n 0 C dX1_greatestOf_9 rfl ?_
    refine v_geti C dX1_greatestOf_10 lf_X1_47 ck_1 (by decide) ?_
    refine v_icmp_ge (tgt := 75) C dX1_greatestOf_13 (by decide) ?_ ?_
    · skip
      exact v_lv (hke b3 σ) [3] rfl
    · skip
      refine v_iload_n 1 C dX1_greatestOf_16 rfl ?_
      refine v_iload 4 C dX1_greatestOf_17 rfl ?_
      refine v_cN2p C dX1_greatestOf_19 ln_X1_96 (kX7_has a1 b4 _) (by decide) (Nat.le_of_ble_eq_true rfl) ?_
      refine v_jn (fun j69 => ∀ (x2 : Int32) (x3 : Int32) (σ1 : St), V Y gI 69 [(0, .ref (adr Y 1 0)), (1, .int a1), (2, .int x2), (3, .int x3), (4, .int b4)] [] σ1 (j69 x2 x3 σ1)) ?_ ?_
      · intro x2 x3 σ1
        refine v_iinc (lv' := [(4, .int (b4 + nI 1)), (0, .ref (adr Y 1 0)), (1, .int a1), (2, .int x2), (3, .int x3)]) 4 C dX1_greatestOf_69 rfl (congrArg (b4 + ·) kc_iconst_1) (by decide) rfl ?_
        refine v_goto (tgt := 7) C dX1_greatestOf_72 (by decide) ?_
        exact v_lv (ih x2 x3 (b4 + nI 1) σ1) [1, 2, 3, 4, 0] rfl
      · intro j69 hj69
        refine v_if_eq (tgt := 69) C dX1_greatestOf_22 (by decide) ?_ ?_
        · skip
          exact v_lv (hj69 b2 b3 σ) [0, 1, 2, 3, 4] rfl
        · skip
          refine v_aload_n 0 C dX1_greatestOf_25 rfl ?_
          refine v_getc C dX1_greatestOf_26 lf_X1_9 ck_1 rfl ?_
          refine v_iload 4 C dX1_greatestOf_29 rfl ?_
          refine v_iaload C dX1_greatestOf_31 ck_10 (by decide) rfl ?_
          refine v_iload_n 2 C dX1_greatestOf_32 rfl ?_
          refine v_icmp_lt (tgt := 69) C dX1_greatestOf_33 (by decide) ?_ ?_
          · skip
            exact v_lv (hj69 b2 b3 σ) [0, 1, 2, 3, 4] rfl
          · skip
            refine v_aload_n 0 C dX1_greatestOf_36 rfl ?_
            refine v_getc C dX1_greatestOf_37 lf_X1_9 ck_1 rfl ?_
            refine v_iload 4 C dX1_greatestOf_40 rfl ?_
            refine v_iaload C dX1_greatestOf_42 ck_10 (by decide) rfl ?_
            refine v_iload_n 2 C dX1_greatestOf_43 rfl ?_
            refine v_cut (pcJ := 60) (lv := [(0, .ref (adr Y 1 0)), (1, .int a1), (2, .int b2), (3, .int b3), (4, .int b4)]) (st := .int (if (σ.1 10 0 b4.toNatClampNeg) ≤ b2 then (b3 ||| ((nI 1) <<< (b4 &&& 31))) else ((nI 1) <<< (b4 &&& 31))) :: []) ?_ (fun hj4 => ?_)
            rotate_left
            · skip
              refine v_icmp_le_b (tgt := 54) C dX1_greatestOf_44 (by decide) (fun h5 => ?_) (fun h5 => ?_)
              · have hj6 := v_jpos h5 hj4
                refine v_iload_n 3 C dX1_greatestOf_54 rfl ?_
                refine v_iconst C dX1_greatestOf_55 kc_iconst_1 ?_
                refine v_iload 4 C dX1_greatestOf_56 rfl ?_
                refine v_ishl C dX1_greatestOf_58 ?_
                refine v_ior C dX1_greatestOf_59 ?_
                exact hj6
              · have hj6 := v_jneg h5 hj4
                refine v_iconst C dX1_greatestOf_47 kc_iconst_1 ?_
                refine v_iload 4 C dX1_greatestOf_48 rfl ?_
                refine v_ishl C dX1_greatestOf_50 ?_
                refine v_goto (tgt := 60) C dX1_greatestOf_51 (by decide) ?_
                exact hj6
            refine v_istore_nL (lv0 := [(0, .ref (adr Y 1 0)), (1, .int a1), (2, .int b2), (4, .int b4)]) C dX1_greatestOf_60 rfl (by decide) rfl (fun x7 => ?_)
            refine v_aload_n 1 C dX1_greatestOf_61 rfl ?_
            refine v_getc C dX1_greatestOf_62 lf_X1_9 ck_1 rfl ?_
            refine v_iload 4 C dX1_greatestOf_65 rfl ?_
            refine v_iaload C dX1_greatestOf_67 ck_10 (by decide) rfl ?_
            refine v_istore_nL (lv0 := [(3, .int x7), (0, .ref (adr Y 1 0)), (1, .int a1), (4, .int b4)]) C dX1_greatestOf_68 rfl (by decide) rfl (fun x8 => ?_)
            exact v_lv (hj69 x8 x7 σ) [2, 3, 0, 1, 4] rfl
set_option maxRecDepth 20000 in
theorem kX1_greatestOf {X : Cx} (p1 : Int32) (σ : St) : Kon X 1 yX1_greatestOf cX1_greatestOf 5 (some .int) gI [.ref (adr X 1 0), .int p1] σ (fX1_greatestOf p1 σ) := by
  refine konJ (own := RX1) (fun _ => gI) (fun a b => [.ref (a 1 0), .int p1]) (by decide +kernel) rfl (fun _ _ => Nat.le_of_ble_eq_true rfl) (fun Y C M => ?_)
  show V Y gI 0 [(0, .ref (adr Y 1 0)), (1, .int p1)] [] σ (fX1_greatestOf p1 σ)
  unfold fX1_greatestOf
  refine v_iconst C dX1_greatestOf_0 kc_iconst_0 ?_
  refine v_istore_n (lv' := [(2, .int 0), (0, .ref (adr Y 1 0)), (1, .int p1)]) C dX1_greatestOf_1 rfl (by decide) rfl ?_
  refine v_iconst C dX1_greatestOf_2 kc_iconst_0 ?_
  refine v_istore_n (lv' := [(3, .int 0), (2, .int 0), (0, .ref (adr Y 1 0)), (1, .int p1)]) C dX1_greatestOf_3 rfl (by decide) rfl ?_
  refine v_iconst C dX1_greatestOf_4 kc_iconst_0 ?_
  refine v_istore (lv' := [(4, .int 0), (3, .int 0), (2, .int 0), (0, .ref (adr Y 1 0)), (1, .int p1)]) C dX1_greatestOf_5 (by decide) rfl ?_
  refine v_lv (vLX1_greatestOf_7 _ C M _ (fun x9 σ10 => ?_) FU _ _ _ _) [3, 4, 2, 1, 0] rfl
  refine v_iload_n 0 C dX1_greatestOf_75 rfl ?_
  exact v_iret C M dX1_greatestOf_76
-- OpenLines$Pass sureFrom()I, depth 3
def LX1_sureFrom_17 (a1 : Int32) (ke : Int32 → St → Option (Int32 × St)) : Nat → Int32 → Int32 → St → Option (Int32 × St)
  | 0, _, _, _ => none
  | n + 1, b2, b3, σ => (if b3 < 0 then ke b2 σ else bd (fX1_winnersAt b3 σ) fun (r5 : Int32) (σ4 : St) => (if r5 = a1 then LX1_sureFrom_17 a1 ke n b3 (b3 + (-1)) σ4 else ke b2 σ4))
def fX1_sureFrom (σ : St) : Option (Int32 × St) :=
  bd (fX1_greatestOf (σ.1 1 0 11) σ) fun (r2 : Int32) (σ1 : St) => lt (σ1.1 1 0 14) fun (x3 : Int32) => (LX1_sureFrom_17 r2 (fun (x6 : Int32) (σ7 : St) => some (x6, σ7)) FU (-2) x3 σ1)
set_option maxRecDepth 20000 in
theorem vLX1_sureFrom_17 {Y : Cx} (a1 : Int32) (C : Ok Y RX1 cX1_sureFrom 4 3) (M : OkM Y (some .int)) (ke : Int32 → St → Option (Int32 × St)) (hke : ∀ (b2 : Int32) (σ : St), V Y gI 38 [(2, .int b2)] [] σ (ke b2 σ)) : ∀ (n : Nat) (b2 : Int32) (b3 : Int32) (σ : St), V Y gI 17 [(0, .ref (adr Y 1 0)), (1, .int a1), (2, .int b2), (3, .int b3)] [] σ (LX1_sureFrom_17 a1 ke n b2 b3 σ) := by
  intro n
  induction n with
  | zero => intros; exact v_none
  | succ n ih =>
    intro b2 b3 σ
    rw [LX1_sureFrom_17]
    refine v_iload_n 3 C dX1_sureFrom_17 rfl ?_
    refine v_if_lt (tgt := 38) C dX1_sureFrom_18 (by decide) ?_ ?_
    · skip
      exact v_lv (hke b2 σ) [2] rfl
    · skip
      refine v_aload_n 0 C dX1_sureFrom_21 rfl ?_
      refine v_iload_n 3 C dX1_sureFrom_22 rfl ?_
      refine v_cV1i C dX1_sureFrom_23 lv_X1_140 ck_1 (kX1_winnersAt b3 _) (by decide) (Nat.le_of_ble_eq_true rfl) (fun r5 σ4 => ?_)
      refine v_iload_n 1 C dX1_sureFrom_26 rfl ?_
      refine v_icmp_ne (tgt := 38) C dX1_sureFrom_27 (by decide) ?_ ?_
      · skip
        exact v_lv (hke b2 σ4) [2] rfl
      · skip
        refine v_iload_n 3 C dX1_sureFrom_30 rfl ?_
        refine v_istore_n (lv' := [(2, .int b3), (0, .ref (adr Y 1 0)), (1, .int a1), (3, .int b3)]) C dX1_sureFrom_31 rfl (by decide) rfl ?_
        refine v_iinc (lv' := [(3, .int (b3 + (-1))), (2, .int b3), (0, .ref (adr Y 1 0)), (1, .int a1)]) 3 C dX1_sureFrom_32 rfl (congrArg (b3 + ·) kc_iconst_m1) (by decide) rfl ?_
        refine v_goto (tgt := 17) C dX1_sureFrom_35 (by decide) ?_
        exact v_lv (ih b3 (b3 + (-1)) σ4) [2, 3, 1, 0] rfl
set_option maxRecDepth 20000 in
theorem kX1_sureFrom {X : Cx} (σ : St) : Kon X 3 yX1_sureFrom cX1_sureFrom 4 (some .int) gI [.ref (adr X 1 0)] σ (fX1_sureFrom σ) := by
  refine konJ (own := RX1) (fun _ => gI) (fun a b => [.ref (a 1 0)]) (by decide +kernel) rfl (fun _ _ => Nat.le_of_ble_eq_true rfl) (fun Y C M => ?_)
  show V Y gI 0 [(0, .ref (adr Y 1 0))] [] σ (fX1_sureFrom σ)
  unfold fX1_sureFrom
  refine v_aload_n 0 C dX1_sureFrom_0 rfl ?_
  refine v_aload_n 0 C dX1_sureFrom_1 rfl ?_
  refine v_geti C dX1_sureFrom_2 lf_X1_65 ck_1 (by decide) ?_
  refine v_cV1i C dX1_sureFrom_5 lv_X1_137 ck_1 (kX1_greatestOf (σ.1 1 0 11) _) (by decide) (Nat.le_of_ble_eq_true rfl) (fun r2 σ1 => ?_)
  refine v_istore_n (lv' := [(1, .int r2), (0, .ref (adr Y 1 0))]) C dX1_sureFrom_8 rfl (by decide) rfl ?_
  refine v_bipush C dX1_sureFrom_9 kc_bipush_m2 ?_
  refine v_istore_n (lv' := [(2, .int (-2)), (1, .int r2), (0, .ref (adr Y 1 0))]) C dX1_sureFrom_11 rfl (by decide) rfl ?_
  refine v_aload_n 2 C dX1_sureFrom_12 rfl ?_
  refine v_geti C dX1_sureFrom_13 lf_X1_77 ck_1 (by decide) ?_
  refine v_istore_nL (lv0 := [(2, .int (-2)), (1, .int r2), (0, .ref (adr Y 1 0))]) C dX1_sureFrom_16 rfl (by decide) rfl (fun x3 => ?_)
  refine v_lv (vLX1_sureFrom_17 _ C M _ (fun x6 σ7 => ?_) FU _ _ _) [3, 2, 1, 0] rfl
  refine v_iload_n 0 C dX1_sureFrom_38 rfl ?_
  exact v_iret C M dX1_sureFrom_39
-- OpenLines$Pass sightAt(II)I, depth 1
def fX1_sightAt (p1 : Int32) (p2 : Int32) (σ : St) : Option (Int32 × St) :=
  (if (fX7_isBelow p1 (σ.1 1 0 7)) = 0 then some (0, σ) else gi p1 6 <| bd (fX1_playedTick p2 σ) fun (r3 : Int32) (σ2 : St) => gi r3 401 <| some (σ2.1 16 p1.toNatClampNeg r3.toNatClampNeg, σ2))
set_option maxRecDepth 20000 in
theorem kX1_sightAt {X : Cx} (p1 : Int32) (p2 : Int32) (σ : St) : Kon X 1 yX1_sightAt cX1_sightAt 3 (some .int) gI [.ref (adr X 1 0), .int p1, .int p2] σ (fX1_sightAt p1 p2 σ) := by
  refine konJ (own := RX1) (fun _ => gI) (fun a b => [.ref (a 1 0), .int p1, .int p2]) (by decide +kernel) rfl (fun _ _ => Nat.le_of_ble_eq_true rfl) (fun Y C M => ?_)
  show V Y gI 0 [(0, .ref (adr Y 1 0)), (1, .int p1), (2, .int p2)] [] σ (fX1_sightAt p1 p2 σ)
  unfold fX1_sightAt
  refine v_iload_n 1 C dX1_sightAt_0 rfl ?_
  refine v_aload_n 0 C dX1_sightAt_1 rfl ?_
  refine v_geti C dX1_sightAt_2 lf_X1_47 ck_1 (by decide) ?_
  refine v_cN2p C dX1_sightAt_5 ln_X1_120 (kX7_isBelow p1 (σ.1 1 0 7) _) (by decide) (Nat.le_of_ble_eq_true rfl) ?_
  refine v_if_eq (tgt := 26) C dX1_sightAt_8 (by decide) ?_ ?_
  · skip
    refine v_iconst C dX1_sightAt_26 kc_iconst_0 ?_
    exact v_iret C M dX1_sightAt_27
  · skip
    refine v_aload_n 0 C dX1_sightAt_11 rfl ?_
    refine v_getc C dX1_sightAt_12 lf_X1_23 ck_1 rfl ?_
    refine v_iload_n 1 C dX1_sightAt_15 rfl ?_
    refine v_aaload0 C dX1_sightAt_16 ck_15 (by decide) rfl rfl (fun hq1 => ?_)
    refine v_aload_n 0 C dX1_sightAt_17 rfl ?_
    refine v_iload_n 2 C dX1_sightAt_18 rfl ?_
    refine v_cV1i C dX1_sightAt_19 lv_X1_123 ck_1 (kX1_playedTick p2 _) (by decide) (Nat.le_of_ble_eq_true rfl) (fun r3 σ2 => ?_)
    refine v_iaload C dX1_sightAt_22 hq1 (by decide) rfl ?_
    refine v_goto (tgt := 27) C dX1_sightAt_23 (by decide) ?_
    exact v_iret C M dX1_sightAt_27
-- OpenLines$Pass edgesOf(II)I, depth 2
def LX1_edgesOf_5 (a1 : Int32) (a2 : Int32) (ke : Int32 → St → Option (Int32 × St)) : Nat → Int32 → Int32 → St → Option (Int32 × St)
  | 0, _, _, _ => none
  | n + 1, b3, b4, σ => (if (σ.1 1 0 14) < b4 then ke b3 σ else bd (fX1_sightAt a1 b4 σ) fun (r2 : Int32) (σ1 : St) => bd (fX1_sightAt a1 (b4 - (nI 1)) σ1) fun (r4 : Int32) (σ3 : St) => (jn (fun (x6 : Int32) (σ5 : St) => LX1_edgesOf_5 a1 a2 ke n x6 (b4 + nI 1) σ5) fun j41 => if (fX7_has (r2 ^^^ r4) a2) = 0 then j41 b3 σ3 else j41 (b3 + nI 1) σ3))
def fX1_edgesOf (p1 : Int32) (p2 : Int32) (σ : St) : Option (Int32 × St) :=
  (LX1_edgesOf_5 p1 p2 (fun (x7 : Int32) (σ8 : St) => some (x7, σ8)) FU 0 (nI 1) σ)
set_option maxRecDepth 20000 in
theorem vLX1_edgesOf_5 {Y : Cx} (a1 : Int32) (a2 : Int32) (C : Ok Y RX1 cX1_edgesOf 5 2) (M : OkM Y (some .int)) (ke : Int32 → St → Option (Int32 × St)) (hke : ∀ (b3 : Int32) (σ : St), V Y gI 47 [(3, .int b3)] [] σ (ke b3 σ)) : ∀ (n : Nat) (b3 : Int32) (b4 : Int32) (σ : St), V Y gI 5 [(0, .ref (adr Y 1 0)), (1, .int a1), (2, .int a2), (3, .int b3), (4, .int b4)] [] σ (LX1_edgesOf_5 a1 a2 ke n b3 b4 σ) := by
  intro n
  induction n with
  | zero => intros; exact v_none
  | succ n ih =>
    intro b3 b4 σ
    rw [LX1_edgesOf_5]
    refine v_iload 4 C dX1_edgesOf_5 rfl ?_
    refine v_aload_n 0 C dX1_edgesOf_7 rfl ?_
    refine v_geti C dX1_edgesOf_8 lf_X1_77 ck_1 (by decide) ?_
    refine v_icmp_gt (tgt := 47) C dX1_edgesOf_11 (by decide) ?_ ?_
    · skip
      exact v_lv (hke b3 σ) [3] rfl
    · skip
      refine v_aload_n 0 C dX1_edgesOf_14 rfl ?_
      refine v_iload_n 1 C dX1_edgesOf_15 rfl ?_
      refine v_iload 4 C dX1_edgesOf_16 rfl ?_
      refine v_cV2i C dX1_edgesOf_18 lv_X1_143 ck_1 (kX1_sightAt a1 b4 _) (by decide) (Nat.le_of_ble_eq_true rfl) (fun r2 σ1 => ?_)
      refine v_aload_n 0 C dX1_edgesOf_21 rfl ?_
      refine v_iload_n 1 C dX1_edgesOf_22 rfl ?_
      refine v_iload 4 C dX1_edgesOf_23 rfl ?_
      refine v_iconst C dX1_edgesOf_25 kc_iconst_1 ?_
      refine v_isub C dX1_edgesOf_26 ?_
      refine v_cV2i C dX1_edgesOf_27 lv_X1_143 ck_1 (kX1_sightAt a1 (b4 - (nI 1)) _) (by decide) (Nat.le_of_ble_eq_true rfl) (fun r4 σ3 => ?_)
      refine v_ixor C dX1_edgesOf_30 ?_
      refine v_iload_n 2 C dX1_edgesOf_31 rfl ?_
      refine v_cN2p C dX1_edgesOf_32 ln_X1_96 (kX7_has (r2 ^^^ r4) a2 _) (by decide) (Nat.le_of_ble_eq_true rfl) ?_
      refine v_jn (fun j41 => ∀ (x6 : Int32) (σ5 : St), V Y gI 41 [(0, .ref (adr Y 1 0)), (1, .int a1), (2, .int a2), (3, .int x6), (4, .int b4)] [] σ5 (j41 x6 σ5)) ?_ ?_
      · intro x6 σ5
        refine v_iinc (lv' := [(4, .int (b4 + nI 1)), (0, .ref (adr Y 1 0)), (1, .int a1), (2, .int a2), (3, .int x6)]) 4 C dX1_edgesOf_41 rfl (congrArg (b4 + ·) kc_iconst_1) (by decide) rfl ?_
        refine v_goto (tgt := 5) C dX1_edgesOf_44 (by decide) ?_
        exact v_lv (ih x6 (b4 + nI 1) σ5) [1, 2, 3, 4, 0] rfl
      · intro j41 hj41
        refine v_if_eq (tgt := 41) C dX1_edgesOf_35 (by decide) ?_ ?_
        · skip
          exact v_lv (hj41 b3 σ3) [0, 1, 2, 3, 4] rfl
        · skip
          refine v_iinc (lv' := [(3, .int (b3 + nI 1)), (0, .ref (adr Y 1 0)), (1, .int a1), (2, .int a2), (4, .int b4)]) 3 C dX1_edgesOf_38 rfl (congrArg (b3 + ·) kc_iconst_1) (by decide) rfl ?_
          exact v_lv (hj41 (b3 + nI 1) σ3) [1, 2, 3, 0, 4] rfl
set_option maxRecDepth 20000 in
theorem kX1_edgesOf {X : Cx} (p1 : Int32) (p2 : Int32) (σ : St) : Kon X 2 yX1_edgesOf cX1_edgesOf 5 (some .int) gI [.ref (adr X 1 0), .int p1, .int p2] σ (fX1_edgesOf p1 p2 σ) := by
  refine konJ (own := RX1) (fun _ => gI) (fun a b => [.ref (a 1 0), .int p1, .int p2]) (by decide +kernel) rfl (fun _ _ => Nat.le_of_ble_eq_true rfl) (fun Y C M => ?_)
  show V Y gI 0 [(0, .ref (adr Y 1 0)), (1, .int p1), (2, .int p2)] [] σ (fX1_edgesOf p1 p2 σ)
  unfold fX1_edgesOf
  refine v_iconst C dX1_edgesOf_0 kc_iconst_0 ?_
  refine v_istore_n (lv' := [(3, .int 0), (0, .ref (adr Y 1 0)), (1, .int p1), (2, .int p2)]) C dX1_edgesOf_1 rfl (by decide) rfl ?_
  refine v_iconst C dX1_edgesOf_2 kc_iconst_1 ?_
  refine v_istore (lv' := [(4, .int (nI 1)), (3, .int 0), (0, .ref (adr Y 1 0)), (1, .int p1), (2, .int p2)]) C dX1_edgesOf_3 (by decide) rfl ?_
  refine v_lv (vLX1_edgesOf_5 _ _ C M _ (fun x7 σ8 => ?_) FU _ _ _) [2, 3, 4, 1, 0] rfl
  refine v_iload_n 0 C dX1_edgesOf_47 rfl ?_
  exact v_iret C M dX1_edgesOf_48
-- OpenLines$Pass drivenAt(II)I, depth 1
def fX1_drivenAt (p1 : Int32) (p2 : Int32) (σ : St) : Option (Int32 × St) :=
  (if (fX7_isBelow p1 (σ.1 1 0 7)) = 0 then some (0, σ) else gi p1 6 <| bd (fX1_playedTick p2 σ) fun (r3 : Int32) (σ2 : St) => gi r3 401 <| some (σ2.1 14 p1.toNatClampNeg r3.toNatClampNeg, σ2))
set_option maxRecDepth 20000 in
theorem kX1_drivenAt {X : Cx} (p1 : Int32) (p2 : Int32) (σ : St) : Kon X 1 yX1_drivenAt cX1_drivenAt 3 (some .int) gI [.ref (adr X 1 0), .int p1, .int p2] σ (fX1_drivenAt p1 p2 σ) := by
  refine konJ (own := RX1) (fun _ => gI) (fun a b => [.ref (a 1 0), .int p1, .int p2]) (by decide +kernel) rfl (fun _ _ => Nat.le_of_ble_eq_true rfl) (fun Y C M => ?_)
  show V Y gI 0 [(0, .ref (adr Y 1 0)), (1, .int p1), (2, .int p2)] [] σ (fX1_drivenAt p1 p2 σ)
  unfold fX1_drivenAt
  refine v_iload_n 1 C dX1_drivenAt_0 rfl ?_
  refine v_aload_n 0 C dX1_drivenAt_1 rfl ?_
  refine v_geti C dX1_drivenAt_2 lf_X1_47 ck_1 (by decide) ?_
  refine v_cN2p C dX1_drivenAt_5 ln_X1_120 (kX7_isBelow p1 (σ.1 1 0 7) _) (by decide) (Nat.le_of_ble_eq_true rfl) ?_
  refine v_if_eq (tgt := 26) C dX1_drivenAt_8 (by decide) ?_ ?_
  · skip
    refine v_iconst C dX1_drivenAt_26 kc_iconst_0 ?_
    exact v_iret C M dX1_drivenAt_27
  · skip
    refine v_aload_n 0 C dX1_drivenAt_11 rfl ?_
    refine v_getc C dX1_drivenAt_12 lf_X1_20 ck_1 rfl ?_
    refine v_iload_n 1 C dX1_drivenAt_15 rfl ?_
    refine v_aaload0 C dX1_drivenAt_16 ck_13 (by decide) rfl rfl (fun hq1 => ?_)
    refine v_aload_n 0 C dX1_drivenAt_17 rfl ?_
    refine v_iload_n 2 C dX1_drivenAt_18 rfl ?_
    refine v_cV1i C dX1_drivenAt_19 lv_X1_123 ck_1 (kX1_playedTick p2 _) (by decide) (Nat.le_of_ble_eq_true rfl) (fun r3 σ2 => ?_)
    refine v_iaload C dX1_drivenAt_22 hq1 (by decide) rfl ?_
    refine v_goto (tgt := 27) C dX1_drivenAt_23 (by decide) ?_
    exact v_iret C M dX1_drivenAt_27
-- OpenLines$Plan clear()V, depth 0
def fX2_clear (k0 : Nat) (σ : St) : Option (Unit × St) :=
  lt (wI σ 2 k0 0 (nI 1)) fun (σ1 : St) => lt (wI σ1 2 k0 1 0) fun (σ2 : St) => lt (wI σ2 2 k0 2 (nI 1)) fun (σ3 : St) => lt (wI σ3 2 k0 3 0) fun (σ4 : St) => lt (wI σ4 2 k0 4 0) fun (σ5 : St) => gd (0 = 0 ∨ 0 = 1) <| lt (wI σ5 2 k0 5 0) fun (σ6 : St) => some ((), σ6)
set_option maxRecDepth 20000 in
theorem kX2_clear {X : Cx} (k0 : Nat) (hk0 : k0 < cnt 2) (σ : St) : Kon X 0 yX2_clear cX2_clear 1 none gV [.ref (adr X 2 k0)] σ (fX2_clear k0 σ) := by
  refine konJ (own := RX2) (fun _ => gV) (fun a b => [.ref (a 2 k0)]) (by decide +kernel) rfl (fun _ _ => Nat.le_of_ble_eq_true rfl) (fun Y C M => ?_)
  show V Y gV 0 [(0, .ref (adr Y 2 k0))] [] σ (fX2_clear k0 σ)
  unfold fX2_clear
  refine v_aload_n 0 C dX2_clear_0 rfl ?_
  refine v_iconst C dX2_clear_1 kc_iconst_1 ?_
  refine v_putiL C dX2_clear_2 lp_X2_36 hk0 (by decide) (fun σ1 => ?_)
  refine v_aload_n 0 C dX2_clear_5 rfl ?_
  refine v_iconst C dX2_clear_6 kc_iconst_0 ?_
  refine v_putiL C dX2_clear_7 lp_X2_40 hk0 (by decide) (fun σ2 => ?_)
  refine v_aload_n 0 C dX2_clear_10 rfl ?_
  refine v_iconst C dX2_clear_11 kc_iconst_1 ?_
  refine v_putiL C dX2_clear_12 lp_X2_43 hk0 (by decide) (fun σ3 => ?_)
  refine v_aload_n 0 C dX2_clear_15 rfl ?_
  refine v_iconst C dX2_clear_16 kc_iconst_0 ?_
  refine v_putiL C dX2_clear_17 lp_X2_46 hk0 (by decide) (fun σ4 => ?_)
  refine v_aload_n 0 C dX2_clear_20 rfl ?_
  refine v_iconst C dX2_clear_21 kc_iconst_0 ?_
  refine v_putiL C dX2_clear_22 lp_X2_49 hk0 (by decide) (fun σ5 => ?_)
  refine v_aload_n 0 C dX2_clear_25 rfl ?_
  refine v_iconst C dX2_clear_26 kc_iconst_0 ?_
  refine v_putzL C dX2_clear_27 lp_X2_52 hk0 (by decide) (fun σ6 => ?_)
  exact v_vret C M dX2_clear_30
-- OpenLines odd(I)I, depth 1
def fX7_odd (p0 : Int32) (σ : St) : Option (Int32 × St) :=
  bd (fJ6_bitCount_0f7a4 p0 σ) fun (r2 : Int32) (σ1 : St) => some (p0 ||| ((r2 + (nI 1)) - (r2 + (nI 1)) / (nI 2) * (nI 2)), σ1)
set_option maxRecDepth 20000 in
theorem kX7_odd {X : Cx} (p0 : Int32) (σ : St) : Kon X 1 yX7_odd cX7_odd 1 (some .int) gI [.int p0] σ (fX7_odd p0 σ) := by
  refine konJ (own := RX7) (fun _ => gI) (fun a b => [.int p0]) (by decide +kernel) rfl (fun _ _ => Nat.le_of_ble_eq_true rfl) (fun Y C M => ?_)
  show V Y gI 0 [(0, .int p0)] [] σ (fX7_odd p0 σ)
  unfold fX7_odd
  refine v_iload_n 0 C dX7_odd_0 rfl ?_
  refine v_iload_n 0 C dX7_odd_1 rfl ?_
  refine v_cS1i C dX7_odd_2 ls_X7_272 (kJ6_bitCount_0f7a4 p0 _) (by decide) (Nat.le_of_ble_eq_true rfl) (fun r2 σ1 => ?_)
  refine v_iconst C dX7_odd_5 kc_iconst_1 ?_
  refine v_iadd C dX7_odd_6 ?_
  refine v_iconst C dX7_odd_7 kc_iconst_2 ?_
  refine v_irem C dX7_odd_8 (by decide) ?_
  refine v_ior C dX7_odd_9 ?_
  exact v_iret C M dX7_odd_10
-- OpenLines$Plan addBoard(IIII)V, depth 2
def fX2_addBoard (k0 : Nat) (p1 : Int32) (p2 : Int32) (p3 : Int32) (p4 : Int32) (σ : St) : Option (Unit × St) :=
  (if (nI 6) ≤ (σ.1 2 k0 3) then some ((), σ) else gi (σ.1 2 k0 3) 6 <| lt (wI σ 23 k0 (σ.1 2 k0 3).toNatClampNeg p1) fun (σ1 : St) => gi (σ1.1 2 k0 3) 6 <| lt (wI σ1 24 k0 (σ1.1 2 k0 3).toNatClampNeg p2) fun (σ2 : St) => gi (σ2.1 2 k0 3) 6 <| lt (wI σ2 25 k0 (σ2.1 2 k0 3).toNatClampNeg p3) fun (σ3 : St) => gi (σ3.1 2 k0 3) 6 <| lt (wI σ3 26 k0 (σ3.1 2 k0 3).toNatClampNeg p4) fun (σ4 : St) => bd (fX7_odd (p3 <<< ((nI 1) &&& 31)) σ4) fun (r6 : Int32) (σ5 : St) => gi (σ4.1 2 k0 3) 6 <| lt (wI σ5 27 k0 (σ4.1 2 k0 3).toNatClampNeg r6) fun (σ7 : St) => lt (wI σ7 2 k0 3 ((σ7.1 2 k0 3) + (nI 1))) fun (σ8 : St) => some ((), σ8))
set_option maxRecDepth 20000 in
theorem kX2_addBoard {X : Cx} (k0 : Nat) (p1 : Int32) (p2 : Int32) (p3 : Int32) (p4 : Int32) (hk0 : k0 < cnt 2) (σ : St) : Kon X 2 yX2_addBoard cX2_addBoard 5 none gV [.ref (adr X 2 k0), .int p1, .int p2, .int p3, .int p4] σ (fX2_addBoard k0 p1 p2 p3 p4 σ) := by
  refine konJ (own := RX2) (fun _ => gV) (fun a b => [.ref (a 2 k0), .int p1, .int p2, .int p3, .int p4]) (by decide +kernel) rfl (fun _ _ => Nat.le_of_ble_eq_true rfl) (fun Y C M => ?_)
  show V Y gV 0 [(0, .ref (adr Y 2 k0)), (1, .int p1), (2, .int p2), (3, .int p3), (4, .int p4)] [] σ (fX2_addBoard k0 p1 p2 p3 p4 σ)
  unfold fX2_addBoard
  refine v_aload_n 0 C dX2_addBoard_0 rfl ?_
  refine v_geti C dX2_addBoard_1 lf_X2_46 hk0 (by decide) ?_
  refine v_bipush C dX2_addBoard_4 kc_bipush_6 ?_
  refine v_icmp_ge (tgt := 75) C dX2_addBoard_6 (by decide) ?_ ?_
  · skip
    exact v_vret C M dX2_addBoard_75
  · skip
    refine v_aload_n 0 C dX2_addBoard_9 rfl ?_
    refine v_getc C dX2_addBoard_10 lf_X2_9 hk0 rfl ?_
    refine v_aload_n 0 C dX2_addBoard_13 rfl ?_
    refine v_geti C dX2_addBoard_14 lf_X2_46 hk0 (by decide) ?_
    refine v_iload_n 1 C dX2_addBoard_17 rfl ?_
    refine v_iastoreL C dX2_addBoard_18 hk0 (by decide) rfl (fun σ1 => ?_)
    refine v_aload_n 0 C dX2_addBoard_19 rfl ?_
    refine v_getc C dX2_addBoard_20 lf_X2_15 hk0 rfl ?_
    refine v_aload_n 0 C dX2_addBoard_23 rfl ?_
    refine v_geti C dX2_addBoard_24 lf_X2_46 hk0 (by decide) ?_
    refine v_iload_n 2 C dX2_addBoard_27 rfl ?_
    refine v_iastoreL C dX2_addBoard_28 hk0 (by decide) rfl (fun σ2 => ?_)
    refine v_aload_n 0 C dX2_addBoard_29 rfl ?_
    refine v_getc C dX2_addBoard_30 lf_X2_18 hk0 rfl ?_
    refine v_aload_n 0 C dX2_addBoard_33 rfl ?_
    refine v_geti C dX2_addBoard_34 lf_X2_46 hk0 (by decide) ?_
    refine v_iload_n 3 C dX2_addBoard_37 rfl ?_
    refine v_iastoreL C dX2_addBoard_38 hk0 (by decide) rfl (fun σ3 => ?_)
    refine v_aload_n 0 C dX2_addBoard_39 rfl ?_
    refine v_getc C dX2_addBoard_40 lf_X2_21 hk0 rfl ?_
    refine v_aload_n 0 C dX2_addBoard_43 rfl ?_
    refine v_geti C dX2_addBoard_44 lf_X2_46 hk0 (by decide) ?_
    refine v_iload 4 C dX2_addBoard_47 rfl ?_
    refine v_iastoreL C dX2_addBoard_49 hk0 (by decide) rfl (fun σ4 => ?_)
    refine v_aload_n 0 C dX2_addBoard_50 rfl ?_
    refine v_getc C dX2_addBoard_51 lf_X2_24 hk0 rfl ?_
    refine v_aload_n 0 C dX2_addBoard_54 rfl ?_
    refine v_geti C dX2_addBoard_55 lf_X2_46 hk0 (by decide) ?_
    refine v_iload_n 3 C dX2_addBoard_58 rfl ?_
    refine v_iconst C dX2_addBoard_59 kc_iconst_1 ?_
    refine v_ishl C dX2_addBoard_60 ?_
    refine v_cN1i C dX2_addBoard_61 ln_X2_56 (kX7_odd (p3 <<< ((nI 1) &&& 31)) _) (by decide) (Nat.le_of_ble_eq_true rfl) (fun r6 σ5 => ?_)
    refine v_iastoreL C dX2_addBoard_64 hk0 (by decide) rfl (fun σ7 => ?_)
    refine v_aload_n 0 C dX2_addBoard_65 rfl ?_
    refine v_dup C dX2_addBoard_66 rfl ?_
    refine v_geti C dX2_addBoard_67 lf_X2_46 hk0 (by decide) ?_
    refine v_iconst C dX2_addBoard_70 kc_iconst_1 ?_
    refine v_iadd C dX2_addBoard_71 ?_
    refine v_putiL C dX2_addBoard_72 lp_X2_46 hk0 (by decide) (fun σ8 => ?_)
    exact v_vret C M dX2_addBoard_75
-- OpenLines$Plan addAsk(III)V, depth 0
def fX2_addAsk (k0 : Nat) (p1 : Int32) (p2 : Int32) (p3 : Int32) (σ : St) : Option (Unit × St) :=
  (if (nI 12) ≤ (σ.1 2 k0 4) then some ((), σ) else gi (σ.1 2 k0 4) 12 <| lt (wI σ 28 k0 (σ.1 2 k0 4).toNatClampNeg p1) fun (σ1 : St) => gi (σ1.1 2 k0 4) 12 <| lt (wI σ1 29 k0 (σ1.1 2 k0 4).toNatClampNeg p2) fun (σ2 : St) => gi (σ2.1 2 k0 4) 12 <| lt (wI σ2 30 k0 (σ2.1 2 k0 4).toNatClampNeg p3) fun (σ3 : St) => lt (wI σ3 2 k0 4 ((σ3.1 2 k0 4) + (nI 1))) fun (σ4 : St) => some ((), σ4))
set_option maxRecDepth 20000 in
theorem kX2_addAsk {X : Cx} (k0 : Nat) (p1 : Int32) (p2 : Int32) (p3 : Int32) (hk0 : k0 < cnt 2) (σ : St) : Kon X 0 yX2_addAsk cX2_addAsk 4 none gV [.ref (adr X 2 k0), .int p1, .int p2, .int p3] σ (fX2_addAsk k0 p1 p2 p3 σ) := by
  refine konJ (own := RX2) (fun _ => gV) (fun a b => [.ref (a 2 k0), .int p1, .int p2, .int p3]) (by decide +kernel) rfl (fun _ _ => Nat.le_of_ble_eq_true rfl) (fun Y C M => ?_)
  show V Y gV 0 [(0, .ref (adr Y 2 k0)), (1, .int p1), (2, .int p2), (3, .int p3)] [] σ (fX2_addAsk k0 p1 p2 p3 σ)
  unfold fX2_addAsk
  refine v_aload_n 0 C dX2_addAsk_0 rfl ?_
  refine v_geti C dX2_addAsk_1 lf_X2_49 hk0 (by decide) ?_
  refine v_bipush C dX2_addAsk_4 kc_bipush_12 ?_
  refine v_icmp_ge (tgt := 49) C dX2_addAsk_6 (by decide) ?_ ?_
  · skip
    exact v_vret C M dX2_addAsk_49
  · skip
    refine v_aload_n 0 C dX2_addAsk_9 rfl ?_
    refine v_getc C dX2_addAsk_10 lf_X2_27 hk0 rfl ?_
    refine v_aload_n 0 C dX2_addAsk_13 rfl ?_
    refine v_geti C dX2_addAsk_14 lf_X2_49 hk0 (by decide) ?_
    refine v_iload_n 1 C dX2_addAsk_17 rfl ?_
    refine v_iastoreL C dX2_addAsk_18 hk0 (by decide) rfl (fun σ1 => ?_)
    refine v_aload_n 0 C dX2_addAsk_19 rfl ?_
    refine v_getc C dX2_addAsk_20 lf_X2_30 hk0 rfl ?_
    refine v_aload_n 0 C dX2_addAsk_23 rfl ?_
    refine v_geti C dX2_addAsk_24 lf_X2_49 hk0 (by decide) ?_
    refine v_iload_n 2 C dX2_addAsk_27 rfl ?_
    refine v_iastoreL C dX2_addAsk_28 hk0 (by decide) rfl (fun σ2 => ?_)
    refine v_aload_n 0 C dX2_addAsk_29 rfl ?_
    refine v_getc C dX2_addAsk_30 lf_X2_33 hk0 rfl ?_
    refine v_aload_n 0 C dX2_addAsk_33 rfl ?_
    refine v_geti C dX2_addAsk_34 lf_X2_49 hk0 (by decide) ?_
    refine v_iload_n 3 C dX2_addAsk_37 rfl ?_
    refine v_iastoreL C dX2_addAsk_38 hk0 (by decide) rfl (fun σ3 => ?_)
    refine v_aload_n 0 C dX2_addAsk_39 rfl ?_
    refine v_dup C dX2_addAsk_40 rfl ?_
    refine v_geti C dX2_addAsk_41 lf_X2_49 hk0 (by decide) ?_
    refine v_iconst C dX2_addAsk_44 kc_iconst_1 ?_
    refine v_iadd C dX2_addAsk_45 ?_
    refine v_putiL C dX2_addAsk_46 lp_X2_49 hk0 (by decide) (fun σ4 => ?_)
    exact v_vret C M dX2_addAsk_49
-- OpenLines$Plan latestAsk()I, depth 0
def fX2_latestAsk (k0 : Nat) (σ : St) : Option (Int32 × St) :=
  (if (σ.1 2 k0 4) < (nI 1) then some (nI 1, σ) else (if (nI 12) < (σ.1 2 k0 4) then some (nI 1, σ) else gi ((σ.1 2 k0 4) - (nI 1)) 12 <| some (σ.1 28 k0 ((σ.1 2 k0 4) - (nI 1)).toNatClampNeg, σ)))
set_option maxRecDepth 20000 in
theorem kX2_latestAsk {X : Cx} (k0 : Nat) (hk0 : k0 < cnt 2) (σ : St) : Kon X 0 yX2_latestAsk cX2_latestAsk 1 (some .int) gI [.ref (adr X 2 k0)] σ (fX2_latestAsk k0 σ) := by
  refine konJ (own := RX2) (fun _ => gI) (fun a b => [.ref (a 2 k0)]) (by decide +kernel) rfl (fun _ _ => Nat.le_of_ble_eq_true rfl) (fun Y C M => ?_)
  show V Y gI 0 [(0, .ref (adr Y 2 k0))] [] σ (fX2_latestAsk k0 σ)
  unfold fX2_latestAsk
  refine v_aload_n 0 C dX2_latestAsk_0 rfl ?_
  refine v_geti C dX2_latestAsk_1 lf_X2_49 hk0 (by decide) ?_
  refine v_iconst C dX2_latestAsk_4 kc_iconst_1 ?_
  refine v_icmp_lt (tgt := 31) C dX2_latestAsk_5 (by decide) ?_ ?_
  · skip
    refine v_iconst C dX2_latestAsk_31 kc_iconst_1 ?_
    exact v_iret C M dX2_latestAsk_32
  · skip
    refine v_aload_n 0 C dX2_latestAsk_8 rfl ?_
    refine v_geti C dX2_latestAsk_9 lf_X2_49 hk0 (by decide) ?_
    refine v_bipush C dX2_latestAsk_12 kc_bipush_12 ?_
    refine v_icmp_gt (tgt := 31) C dX2_latestAsk_14 (by decide) ?_ ?_
    · skip
      refine v_iconst C dX2_latestAsk_31 kc_iconst_1 ?_
      exact v_iret C M dX2_latestAsk_32
    · skip
      refine v_aload_n 0 C dX2_latestAsk_17 rfl ?_
      refine v_getc C dX2_latestAsk_18 lf_X2_27 hk0 rfl ?_
      refine v_aload_n 0 C dX2_latestAsk_21 rfl ?_
      refine v_geti C dX2_latestAsk_22 lf_X2_49 hk0 (by decide) ?_
      refine v_iconst C dX2_latestAsk_25 kc_iconst_1 ?_
      refine v_isub C dX2_latestAsk_26 ?_
      refine v_iaload C dX2_latestAsk_27 hk0 (by decide) rfl ?_
      refine v_goto (tgt := 32) C dX2_latestAsk_28 (by decide) ?_
      exact v_iret C M dX2_latestAsk_32
-- OpenLines$Plan find([II)I, depth 0
def LX2_find_2 (k0 : Nat) (c1 : Nat) (k1 : Nat) (a2 : Int32) (ke : St → Option (Int32 × St)) : Nat → Int32 → St → Option (Int32 × St)
  | 0, _, _ => none
  | n + 1, b3, σ => (if (σ.1 2 k0 3) ≤ b3 then ke σ else (if (nI (aln c1)) ≤ b3 then ke σ else gi b3 (aln c1) <| (if (σ.1 c1 k1 b3.toNatClampNeg) = a2 then some (b3, σ) else LX2_find_2 k0 c1 k1 a2 ke n (b3 + nI 1) σ)))
def fX2_find (k0 : Nat) (c1 : Nat) (k1 : Nat) (p2 : Int32) (σ : St) : Option (Int32 × St) :=
  (LX2_find_2 k0 c1 k1 p2 (fun (σ1 : St) => some ((-1), σ1)) FU 0 σ)
set_option maxRecDepth 20000 in
theorem vLX2_find_2 {Y : Cx} (k0 : Nat) (c1 : Nat) (k1 : Nat) (a2 : Int32) (hk0 : k0 < cnt 2) (ha1 : akd c1 = 1) (hk1 : k1 < cnt c1) (C : Ok Y RX2 cX2_find 4 0) (M : OkM Y (some .int)) (ke : St → Option (Int32 × St)) (hke : ∀ (σ : St), V Y gI 31 [] [] σ (ke σ)) : ∀ (n : Nat) (b3 : Int32) (σ : St), V Y gI 2 [(0, .ref (adr Y 2 k0)), (1, .ref (adr Y c1 k1)), (2, .int a2), (3, .int b3)] [] σ (LX2_find_2 k0 c1 k1 a2 ke n b3 σ) := by
  intro n
  induction n with
  | zero => intros; exact v_none
  | succ n ih =>
    intro b3 σ
    rw [LX2_find_2]
    refine v_iload_n 3 C dX2_find_2 rfl ?_
    refine v_aload_n 0 C dX2_find_3 rfl ?_
    refine v_geti C dX2_find_4 lf_X2_46 hk0 (by decide) ?_
    refine v_icmp_ge (tgt := 31) C dX2_find_7 (by decide) ?_ ?_
    · skip
      exact v_lv (hke σ) [] rfl
    · skip
      refine v_iload_n 3 C dX2_find_10 rfl ?_
      refine v_aload_n 1 C dX2_find_11 rfl ?_
      refine v_alen C dX2_find_12 hk1 ha1 rfl ?_
      refine v_icmp_ge (tgt := 31) C dX2_find_13 (by decide) ?_ ?_
      · skip
        exact v_lv (hke σ) [] rfl
      · skip
        refine v_aload_n 1 C dX2_find_16 rfl ?_
        refine v_iload_n 3 C dX2_find_17 rfl ?_
        refine v_iaload C dX2_find_18 hk1 ha1 rfl ?_
        refine v_iload_n 2 C dX2_find_19 rfl ?_
        refine v_icmp_ne (tgt := 25) C dX2_find_20 (by decide) ?_ ?_
        · skip
          refine v_iinc (lv' := [(3, .int (b3 + nI 1)), (0, .ref (adr Y 2 k0)), (1, .ref (adr Y c1 k1)), (2, .int a2)]) 3 C dX2_find_25 rfl (congrArg (b3 + ·) kc_iconst_1) (by decide) rfl ?_
          refine v_goto (tgt := 2) C dX2_find_28 (by decide) ?_
          exact v_lv (ih (b3 + nI 1) σ) [1, 2, 3, 0] rfl
        · skip
          refine v_iload_n 3 C dX2_find_23 rfl ?_
          exact v_iret C M dX2_find_24
set_option maxRecDepth 20000 in
theorem kX2_find {X : Cx} (k0 : Nat) (c1 : Nat) (k1 : Nat) (p2 : Int32) (hk0 : k0 < cnt 2) (ha1 : akd c1 = 1) (hk1 : k1 < cnt c1) (σ : St) : Kon X 0 yX2_find cX2_find 4 (some .int) gI [.ref (adr X 2 k0), .ref (adr X c1 k1), .int p2] σ (fX2_find k0 c1 k1 p2 σ) := by
  refine konJ (own := RX2) (fun _ => gI) (fun a b => [.ref (a 2 k0), .ref (a c1 k1), .int p2]) (by decide +kernel) rfl (fun _ _ => Nat.le_of_ble_eq_true rfl) (fun Y C M => ?_)
  show V Y gI 0 [(0, .ref (adr Y 2 k0)), (1, .ref (adr Y c1 k1)), (2, .int p2)] [] σ (fX2_find k0 c1 k1 p2 σ)
  unfold fX2_find
  refine v_iconst C dX2_find_0 kc_iconst_0 ?_
  refine v_istore_n (lv' := [(3, .int 0), (0, .ref (adr Y 2 k0)), (1, .ref (adr Y c1 k1)), (2, .int p2)]) C dX2_find_1 rfl (by decide) rfl ?_
  refine v_lv (vLX2_find_2 _ _ _ _ hk0 ha1 hk1 C M _ (fun σ1 => ?_) FU _ _) [1, 2, 3, 0] rfl
  refine v_iconst C dX2_find_31 kc_iconst_m1 ?_
  exact v_iret C M dX2_find_32
-- OpenLines$Plan boardOfName(I)I, depth 1
def fX2_boardOfName (k0 : Nat) (p1 : Int32) (σ : St) : Option (Int32 × St) :=
  bd (fX2_find k0 23 k0 p1 σ) fun (r2 : Int32) (σ1 : St) => some (r2, σ1)
set_option maxRecDepth 20000 in
theorem kX2_boardOfName {X : Cx} (k0 : Nat) (p1 : Int32) (hk0 : k0 < cnt 2) (σ : St) : Kon X 1 yX2_boardOfName cX2_boardOfName 2 (some .int) gI [.ref (adr X 2 k0), .int p1] σ (fX2_boardOfName k0 p1 σ) := by
  refine konJ (own := RX2) (fun _ => gI) (fun a b => [.ref (a 2 k0), .int p1]) (by decide +kernel) rfl (fun _ _ => Nat.le_of_ble_eq_true rfl) (fun Y C M => ?_)
  show V Y gI 0 [(0, .ref (adr Y 2 k0)), (1, .int p1)] [] σ (fX2_boardOfName k0 p1 σ)
  unfold fX2_boardOfName
  refine v_aload_n 0 C dX2_boardOfName_0 rfl ?_
  refine v_aload_n 0 C dX2_boardOfName_1 rfl ?_
  refine v_getc C dX2_boardOfName_2 lf_X2_9 hk0 rfl ?_
  refine v_iload_n 1 C dX2_boardOfName_5 rfl ?_
  refine v_cV2i C dX2_boardOfName_6 lv_X2_60 hk0 (kX2_find k0 23 k0 p1 hk0 (by decide) hk0 _) (by decide) (Nat.le_of_ble_eq_true rfl) (fun r2 σ1 => ?_)
  exact v_iret C M dX2_boardOfName_9
-- OpenLines$Plan boardOfSlot(I)I, depth 1
def fX2_boardOfSlot (k0 : Nat) (p1 : Int32) (σ : St) : Option (Int32 × St) :=
  bd (fX2_find k0 24 k0 p1 σ) fun (r2 : Int32) (σ1 : St) => some (r2, σ1)
set_option maxRecDepth 20000 in
theorem kX2_boardOfSlot {X : Cx} (k0 : Nat) (p1 : Int32) (hk0 : k0 < cnt 2) (σ : St) : Kon X 1 yX2_boardOfSlot cX2_boardOfSlot 2 (some .int) gI [.ref (adr X 2 k0), .int p1] σ (fX2_boardOfSlot k0 p1 σ) := by
  refine konJ (own := RX2) (fun _ => gI) (fun a b => [.ref (a 2 k0), .int p1]) (by decide +kernel) rfl (fun _ _ => Nat.le_of_ble_eq_true rfl) (fun Y C M => ?_)
  show V Y gI 0 [(0, .ref (adr Y 2 k0)), (1, .int p1)] [] σ (fX2_boardOfSlot k0 p1 σ)
  unfold fX2_boardOfSlot
  refine v_aload_n 0 C dX2_boardOfSlot_0 rfl ?_
  refine v_aload_n 0 C dX2_boardOfSlot_1 rfl ?_
  refine v_getc C dX2_boardOfSlot_2 lf_X2_15 hk0 rfl ?_
  refine v_iload_n 1 C dX2_boardOfSlot_5 rfl ?_
  refine v_cV2i C dX2_boardOfSlot_6 lv_X2_60 hk0 (kX2_find k0 24 k0 p1 hk0 (by decide) hk0 _) (by decide) (Nat.le_of_ble_eq_true rfl) (fun r2 σ1 => ?_)
  exact v_iret C M dX2_boardOfSlot_9
-- OpenLines$Plan boardOfCode(I)I, depth 1
def fX2_boardOfCode (k0 : Nat) (p1 : Int32) (σ : St) : Option (Int32 × St) :=
  bd (fX2_find k0 25 k0 p1 σ) fun (r2 : Int32) (σ1 : St) => some (r2, σ1)
set_option maxRecDepth 20000 in
theorem kX2_boardOfCode {X : Cx} (k0 : Nat) (p1 : Int32) (hk0 : k0 < cnt 2) (σ : St) : Kon X 1 yX2_boardOfCode cX2_boardOfCode 2 (some .int) gI [.ref (adr X 2 k0), .int p1] σ (fX2_boardOfCode k0 p1 σ) := by
  refine konJ (own := RX2) (fun _ => gI) (fun a b => [.ref (a 2 k0), .int p1]) (by decide +kernel) rfl (fun _ _ => Nat.le_of_ble_eq_true rfl) (fun Y C M => ?_)
  show V Y gI 0 [(0, .ref (adr Y 2 k0)), (1, .int p1)] [] σ (fX2_boardOfCode k0 p1 σ)
  unfold fX2_boardOfCode
  refine v_aload_n 0 C dX2_boardOfCode_0 rfl ?_
  refine v_aload_n 0 C dX2_boardOfCode_1 rfl ?_
  refine v_getc C dX2_boardOfCode_2 lf_X2_18 hk0 rfl ?_
  refine v_iload_n 1 C dX2_boardOfCode_5 rfl ?_
  refine v_cV2i C dX2_boardOfCode_6 lv_X2_60 hk0 (kX2_find k0 25 k0 p1 hk0 (by decide) hk0 _) (by decide) (Nat.le_of_ble_eq_true rfl) (fun r2 σ1 => ?_)
  exact v_iret C M dX2_boardOfCode_9
-- OpenLines$Plan holds(I)Z, depth 0
def fX2_holds (k0 : Nat) (p1 : Int32) (σ : St) : Option (Int32 × St) :=
  rz (if p1 < 0 then 0 else (if (σ.1 2 k0 3) ≤ p1 then 0 else (if (nI 6) ≤ p1 then 0 else (nI 1)))) σ
set_option maxRecDepth 20000 in
theorem kX2_holds {X : Cx} (k0 : Nat) (p1 : Int32) (hk0 : k0 < cnt 2) (σ : St) : Kon X 0 yX2_holds cX2_holds 2 (some .boolean) gI [.ref (adr X 2 k0), .int p1] σ (fX2_holds k0 p1 σ) := by
  refine konJ (own := RX2) (fun _ => gI) (fun a b => [.ref (a 2 k0), .int p1]) (by decide +kernel) rfl (fun _ _ => Nat.le_of_ble_eq_true rfl) (fun Y C M => ?_)
  show V Y gI 0 [(0, .ref (adr Y 2 k0)), (1, .int p1)] [] σ (fX2_holds k0 p1 σ)
  unfold fX2_holds
  refine v_iload_n 1 C dX2_holds_0 rfl ?_
  refine v_cut (pcJ := 23) (lv := [(0, .ref (adr Y 2 k0)), (1, .int p1)]) (st := .int (if p1 < 0 then 0 else (if (σ.1 2 k0 3) ≤ p1 then 0 else (if (nI 6) ≤ p1 then 0 else (nI 1)))) :: []) ?_ (fun hj1 => ?_)
  rotate_left
  · skip
    refine v_if_lt_b (tgt := 22) C dX2_holds_1 (by decide) (fun h2 => ?_) (fun h2 => ?_)
    · have hj3 := v_jpos h2 hj1
      refine v_iconst C dX2_holds_22 kc_iconst_0 ?_
      exact hj3
    · have hj3 := v_jneg h2 hj1
      refine v_iload_n 1 C dX2_holds_4 rfl ?_
      refine v_aload_n 0 C dX2_holds_5 rfl ?_
      refine v_geti C dX2_holds_6 lf_X2_46 hk0 (by decide) ?_
      refine v_icmp_ge_b (tgt := 22) C dX2_holds_9 (by decide) (fun h4 => ?_) (fun h4 => ?_)
      · have hj5 := v_jpos h4 hj3
        refine v_iconst C dX2_holds_22 kc_iconst_0 ?_
        exact hj5
      · have hj5 := v_jneg h4 hj3
        refine v_iload_n 1 C dX2_holds_12 rfl ?_
        refine v_bipush C dX2_holds_13 kc_bipush_6 ?_
        refine v_icmp_ge_b (tgt := 22) C dX2_holds_15 (by decide) (fun h6 => ?_) (fun h6 => ?_)
        · have hj7 := v_jpos h6 hj5
          refine v_iconst C dX2_holds_22 kc_iconst_0 ?_
          exact hj7
        · have hj7 := v_jneg h6 hj5
          refine v_iconst C dX2_holds_18 kc_iconst_1 ?_
          refine v_goto (tgt := 23) C dX2_holds_19 (by decide) ?_
          exact hj7
  exact v_zretg C M dX2_holds_23
-- OpenLines$Plan boardFact(II)I, depth 1
def fX2_boardFact (k0 : Nat) (p1 : Int32) (p2 : Int32) (σ : St) : Option (Int32 × St) :=
  bd (fX2_holds k0 p1 σ) fun (r2 : Int32) (σ1 : St) => (if r2 = 0 then some ((-1), σ1) else (if p2 = 0 then gi p1 6 <| some (σ1.1 24 k0 p1.toNatClampNeg, σ1) else (if p2 = (nI 1) then gi p1 6 <| some (σ1.1 25 k0 p1.toNatClampNeg, σ1) else gi p1 6 <| some (σ1.1 26 k0 p1.toNatClampNeg, σ1))))
set_option maxRecDepth 20000 in
theorem kX2_boardFact {X : Cx} (k0 : Nat) (p1 : Int32) (p2 : Int32) (hk0 : k0 < cnt 2) (σ : St) : Kon X 1 yX2_boardFact cX2_boardFact 3 (some .int) gI [.ref (adr X 2 k0), .int p1, .int p2] σ (fX2_boardFact k0 p1 p2 σ) := by
  refine konJ (own := RX2) (fun _ => gI) (fun a b => [.ref (a 2 k0), .int p1, .int p2]) (by decide +kernel) rfl (fun _ _ => Nat.le_of_ble_eq_true rfl) (fun Y C M => ?_)
  show V Y gI 0 [(0, .ref (adr Y 2 k0)), (1, .int p1), (2, .int p2)] [] σ (fX2_boardFact k0 p1 p2 σ)
  unfold fX2_boardFact
  refine v_aload_n 0 C dX2_boardFact_0 rfl ?_
  refine v_iload_n 1 C dX2_boardFact_1 rfl ?_
  refine v_cV1i C dX2_boardFact_2 lv_X2_64 hk0 (kX2_holds k0 p1 hk0 _) (by decide) (Nat.le_of_ble_eq_true rfl) (fun r2 σ1 => ?_)
  refine v_if_ne (tgt := 10) C dX2_boardFact_5 (by decide) ?_ ?_
  · skip
    refine v_iload_n 2 C dX2_boardFact_10 rfl ?_
    refine v_if_ne (tgt := 23) C dX2_boardFact_11 (by decide) ?_ ?_
    · skip
      refine v_iload_n 2 C dX2_boardFact_23 rfl ?_
      refine v_iconst C dX2_boardFact_24 kc_iconst_1 ?_
      refine v_icmp_ne (tgt := 37) C dX2_boardFact_25 (by decide) ?_ ?_
      · skip
        refine v_aload_n 0 C dX2_boardFact_37 rfl ?_
        refine v_getc C dX2_boardFact_38 lf_X2_21 hk0 rfl ?_
        refine v_iload_n 1 C dX2_boardFact_41 rfl ?_
        refine v_iaload C dX2_boardFact_42 hk0 (by decide) rfl ?_
        exact v_iret C M dX2_boardFact_43
      · skip
        refine v_aload_n 0 C dX2_boardFact_28 rfl ?_
        refine v_getc C dX2_boardFact_29 lf_X2_18 hk0 rfl ?_
        refine v_iload_n 1 C dX2_boardFact_32 rfl ?_
        refine v_iaload C dX2_boardFact_33 hk0 (by decide) rfl ?_
        refine v_goto (tgt := 43) C dX2_boardFact_34 (by decide) ?_
        exact v_iret C M dX2_boardFact_43
    · skip
      refine v_aload_n 0 C dX2_boardFact_14 rfl ?_
      refine v_getc C dX2_boardFact_15 lf_X2_15 hk0 rfl ?_
      refine v_iload_n 1 C dX2_boardFact_18 rfl ?_
      refine v_iaload C dX2_boardFact_19 hk0 (by decide) rfl ?_
      refine v_goto (tgt := 43) C dX2_boardFact_20 (by decide) ?_
      exact v_iret C M dX2_boardFact_43
  · skip
    refine v_iconst C dX2_boardFact_8 kc_iconst_m1 ?_
    exact v_iret C M dX2_boardFact_9
end
