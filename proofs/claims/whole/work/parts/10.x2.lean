noncomputable section
-- OpenLines$Run hurtLines()I, depth 1
def fX4_hurtLines (k0 : Nat) (σ : St) : Option (Int32 × St) :=
  bd (fX4_linesThat k0 0 σ) fun (r2 : Int32) (σ1 : St) => bd (fJ6_bitCount_0f7a4 r2 σ1) fun (r4 : Int32) (σ3 : St) => some ((nI 6) - r4, σ3)
set_option maxRecDepth 20000 in
theorem kX4_hurtLines {X : Cx} (k0 : Nat) (hk0 : k0 < cnt 4) (σ : St) : Kon X 1 yX4_hurtLines cX4_hurtLines 1 (some .int) gI [.ref (adr X 4 k0)] σ (fX4_hurtLines k0 σ) := by
  refine konJ (own := RX4) (fun _ => gI) (fun a b => [.ref (a 4 k0)]) (by decide +kernel) rfl (fun _ _ => Nat.le_of_ble_eq_true rfl) (fun Y C M => ?_)
  show V Y gI 0 [(0, .ref (adr Y 4 k0))] [] σ (fX4_hurtLines k0 σ)
  unfold fX4_hurtLines
  refine v_bipush C dX4_hurtLines_0 kc_bipush_6 ?_
  refine v_aload_n 0 C dX4_hurtLines_2 rfl ?_
  refine v_iconst C dX4_hurtLines_3 kc_iconst_0 ?_
  refine v_cV1i C dX4_hurtLines_4 lv_X4_200 hk0 (kX4_linesThat k0 0 hk0 _) (by decide) (Nat.le_of_ble_eq_true rfl) (fun r2 σ1 => ?_)
  refine v_cS1i C dX4_hurtLines_7 ls_X4_203 (kJ6_bitCount_0f7a4 r2 _) (by decide) (Nat.le_of_ble_eq_true rfl) (fun r4 σ3 => ?_)
  refine v_isub C dX4_hurtLines_10 ?_
  exact v_iret C M dX4_hurtLines_11
-- OpenLines$Run advance(ILOpenLines$Arbiter;)V, depth 6
def LX4_advance_2 (k0 : Nat) (a1 : Int32) (ke : St → Option (Unit × St)) : Nat → Int32 → St → Option (Unit × St)
  | 0, _, _ => none
  | n + 1, b3, σ => (if a1 ≤ b3 then ke σ else bd (fX4_tick k0 σ) fun _ (σ1 : St) => LX4_advance_2 k0 a1 ke n (b3 + nI 1) σ1)
def fX4_advance (k0 : Nat) (p1 : Int32) (σ : St) : Option (Unit × St) :=
  (LX4_advance_2 k0 p1 (fun (σ2 : St) => some ((), σ2)) FU 0 σ)
set_option maxRecDepth 20000 in
theorem vLX4_advance_2 {Y : Cx} (k0 : Nat) (a1 : Int32) (hk0 : k0 < cnt 4) (C : Ok Y RX4 cX4_advance 4 6) (M : OkM Y none) (ke : St → Option (Unit × St)) (hke : ∀ (σ : St), V Y gV 18 [] [] σ (ke σ)) : ∀ (n : Nat) (b3 : Int32) (σ : St), V Y gV 2 [(0, .ref (adr Y 4 k0)), (1, .int a1), (2, .ref (adr Y 0 0)), (3, .int b3)] [] σ (LX4_advance_2 k0 a1 ke n b3 σ) := by
  intro n
  induction n with
  | zero => intros; exact v_none
  | succ n ih =>
    intro b3 σ
    rw [LX4_advance_2]
    refine v_iload_n 3 C dX4_advance_2 rfl ?_
    refine v_iload_n 1 C dX4_advance_3 rfl ?_
    refine v_icmp_ge (tgt := 18) C dX4_advance_4 (by decide) ?_ ?_
    · skip
      exact v_lv (hke σ) [] rfl
    · skip
      refine v_aload_n 0 C dX4_advance_7 rfl ?_
      refine v_aload_n 2 C dX4_advance_8 rfl ?_
      refine v_cV1v C dX4_advance_9 lv_X4_89 hk0 (kX4_tick k0 hk0 _) (by decide) (Nat.le_of_ble_eq_true rfl) (fun _ σ1 => ?_)
      refine v_iinc (lv' := [(3, .int (b3 + nI 1)), (0, .ref (adr Y 4 k0)), (1, .int a1), (2, .ref (adr Y 0 0))]) 3 C dX4_advance_12 rfl (congrArg (b3 + ·) kc_iconst_1) (by decide) rfl ?_
      refine v_goto (tgt := 2) C dX4_advance_15 (by decide) ?_
      exact v_lv (ih (b3 + nI 1) σ1) [1, 2, 3, 0] rfl
set_option maxRecDepth 20000 in
theorem kX4_advance {X : Cx} (k0 : Nat) (p1 : Int32) (hk0 : k0 < cnt 4) (σ : St) : Kon X 6 yX4_advance cX4_advance 4 none gV [.ref (adr X 4 k0), .int p1, .ref (adr X 0 0)] σ (fX4_advance k0 p1 σ) := by
  refine konJ (own := RX4) (fun _ => gV) (fun a b => [.ref (a 4 k0), .int p1, .ref (a 0 0)]) (by decide +kernel) rfl (fun _ _ => Nat.le_of_ble_eq_true rfl) (fun Y C M => ?_)
  show V Y gV 0 [(0, .ref (adr Y 4 k0)), (1, .int p1), (2, .ref (adr Y 0 0))] [] σ (fX4_advance k0 p1 σ)
  unfold fX4_advance
  refine v_iconst C dX4_advance_0 kc_iconst_0 ?_
  refine v_istore_n (lv' := [(3, .int 0), (0, .ref (adr Y 4 k0)), (1, .int p1), (2, .ref (adr Y 0 0))]) C dX4_advance_1 rfl (by decide) rfl ?_
  refine v_lv (vLX4_advance_2 _ _ hk0 C M _ (fun σ2 => ?_) FU _ _) [1, 2, 3, 0] rfl
  exact v_vret C M dX4_advance_18
-- OpenLines$Run asksToCome()I, depth 0
def LX4_asksToCome_4 (k0 : Nat) (ke : Int32 → St → Option (Int32 × St)) : Nat → Int32 → Int32 → St → Option (Int32 × St)
  | 0, _, _, _ => none
  | n + 1, b1, b2, σ => gd (σ.2.2 4 k0 1 < 6) <| (if (σ.1 2 (σ.2.2 4 k0 1) 4) ≤ b2 then ke b1 σ else (if (nI 12) ≤ b2 then ke b1 σ else gd (σ.2.2 4 k0 1 < 6) <| gi b2 12 <| (jn (fun (x4 : Int32) (σ3 : St) => LX4_asksToCome_4 k0 ke n x4 (b2 + nI 1) σ3) fun j40 => if (σ.1 28 (σ.2.2 4 k0 1) b2.toNatClampNeg) ≤ (σ.1 4 k0 2) then j40 b1 σ else j40 (b1 + nI 1) σ)))
def fX4_asksToCome (k0 : Nat) (σ : St) : Option (Int32 × St) :=
  (LX4_asksToCome_4 k0 (fun (x5 : Int32) (σ6 : St) => some (x5, σ6)) FU 0 0 σ)
set_option maxRecDepth 20000 in
theorem vLX4_asksToCome_4 {Y : Cx} (k0 : Nat) (hk0 : k0 < cnt 4) (C : Ok Y RX4 cX4_asksToCome 3 0) (M : OkM Y (some .int)) (ke : Int32 → St → Option (Int32 × St)) (hke : ∀ (b1 : Int32) (σ : St), V Y gI 46 [(1, .int b1)] [] σ (ke b1 σ)) : ∀ (n : Nat) (b1 : Int32) (b2 : Int32) (σ : St), V Y gI 4 [(0, .ref (adr Y 4 k0)), (1, .int b1), (2, .int b2)] [] σ (LX4_asksToCome_4 k0 ke n b1 b2 σ) := by
  intro n
  induction n with
  | zero => intros; exact v_none
  | succ n ih =>
    intro b1 b2 σ
    rw [LX4_asksToCome_4]
    refine v_iload_n 2 C dX4_asksToCome_4 rfl ?_
    refine v_aload_n 0 C dX4_asksToCome_5 rfl ?_
    refine v_getr C dX4_asksToCome_6 lf_X4_21 hk0 rfl rfl (fun hq1 => ?_)
    refine v_geti C dX4_asksToCome_9 lf_X4_117 hq1 (by decide) ?_
    refine v_icmp_ge (tgt := 46) C dX4_asksToCome_12 (by decide) ?_ ?_
    · skip
      exact v_lv (hke b1 σ) [1] rfl
    · skip
      refine v_iload_n 2 C dX4_asksToCome_15 rfl ?_
      refine v_bipush C dX4_asksToCome_16 kc_bipush_12 ?_
      refine v_icmp_ge (tgt := 46) C dX4_asksToCome_18 (by decide) ?_ ?_
      · skip
        exact v_lv (hke b1 σ) [1] rfl
      · skip
        refine v_aload_n 0 C dX4_asksToCome_21 rfl ?_
        refine v_getr C dX4_asksToCome_22 lf_X4_21 hk0 rfl rfl (fun hq2 => ?_)
        refine v_getc C dX4_asksToCome_25 lf_X4_120 hq2 rfl ?_
        refine v_iload_n 2 C dX4_asksToCome_28 rfl ?_
        refine v_iaload C dX4_asksToCome_29 hq2 (by decide) rfl ?_
        refine v_aload_n 0 C dX4_asksToCome_30 rfl ?_
        refine v_geti C dX4_asksToCome_31 lf_X4_44 hk0 (by decide) ?_
        refine v_jn (fun j40 => ∀ (x4 : Int32) (σ3 : St), V Y gI 40 [(0, .ref (adr Y 4 k0)), (1, .int x4), (2, .int b2)] [] σ3 (j40 x4 σ3)) ?_ ?_
        · intro x4 σ3
          refine v_iinc (lv' := [(2, .int (b2 + nI 1)), (0, .ref (adr Y 4 k0)), (1, .int x4)]) 2 C dX4_asksToCome_40 rfl (congrArg (b2 + ·) kc_iconst_1) (by decide) rfl ?_
          refine v_goto (tgt := 4) C dX4_asksToCome_43 (by decide) ?_
          exact v_lv (ih x4 (b2 + nI 1) σ3) [1, 2, 0] rfl
        · intro j40 hj40
          refine v_icmp_le (tgt := 40) C dX4_asksToCome_34 (by decide) ?_ ?_
          · skip
            exact v_lv (hj40 b1 σ) [0, 1, 2] rfl
          · skip
            refine v_iinc (lv' := [(1, .int (b1 + nI 1)), (0, .ref (adr Y 4 k0)), (2, .int b2)]) 1 C dX4_asksToCome_37 rfl (congrArg (b1 + ·) kc_iconst_1) (by decide) rfl ?_
            exact v_lv (hj40 (b1 + nI 1) σ) [1, 0, 2] rfl
set_option maxRecDepth 20000 in
theorem kX4_asksToCome {X : Cx} (k0 : Nat) (hk0 : k0 < cnt 4) (σ : St) : Kon X 0 yX4_asksToCome cX4_asksToCome 3 (some .int) gI [.ref (adr X 4 k0)] σ (fX4_asksToCome k0 σ) := by
  refine konJ (own := RX4) (fun _ => gI) (fun a b => [.ref (a 4 k0)]) (by decide +kernel) rfl (fun _ _ => Nat.le_of_ble_eq_true rfl) (fun Y C M => ?_)
  show V Y gI 0 [(0, .ref (adr Y 4 k0))] [] σ (fX4_asksToCome k0 σ)
  unfold fX4_asksToCome
  refine v_iconst C dX4_asksToCome_0 kc_iconst_0 ?_
  refine v_istore_n (lv' := [(1, .int 0), (0, .ref (adr Y 4 k0))]) C dX4_asksToCome_1 rfl (by decide) rfl ?_
  refine v_iconst C dX4_asksToCome_2 kc_iconst_0 ?_
  refine v_istore_n (lv' := [(2, .int 0), (1, .int 0), (0, .ref (adr Y 4 k0))]) C dX4_asksToCome_3 rfl (by decide) rfl ?_
  refine v_lv (vLX4_asksToCome_4 _ hk0 C M _ (fun x5 σ6 => ?_) FU _ _ _) [2, 1, 0] rfl
  refine v_iload_n 0 C dX4_asksToCome_46 rfl ?_
  exact v_iret C M dX4_asksToCome_47
-- OpenLines$Run letLine(II)I, depth 1
def fX4_letLine (k0 : Nat) (p1 : Int32) (p2 : Int32) (σ : St) : Option (Int32 × St) :=
  (if (fX7_isBelow p1 (nI 6)) = 0 then some ((-1), σ) else gi p1 6 <| lt (σ.1 33 k0 p1.toNatClampNeg) fun (x1 : Int32) => gi p1 6 <| lt (wI σ 33 k0 p1.toNatClampNeg p2) fun (σ2 : St) => some (x1, σ2))
set_option maxRecDepth 20000 in
theorem kX4_letLine {X : Cx} (k0 : Nat) (p1 : Int32) (p2 : Int32) (hk0 : k0 < cnt 4) (σ : St) : Kon X 1 yX4_letLine cX4_letLine 4 (some .int) gI [.ref (adr X 4 k0), .int p1, .int p2] σ (fX4_letLine k0 p1 p2 σ) := by
  refine konJ (own := RX4) (fun _ => gI) (fun a b => [.ref (a 4 k0), .int p1, .int p2]) (by decide +kernel) rfl (fun _ _ => Nat.le_of_ble_eq_true rfl) (fun Y C M => ?_)
  show V Y gI 0 [(0, .ref (adr Y 4 k0)), (1, .int p1), (2, .int p2)] [] σ (fX4_letLine k0 p1 p2 σ)
  unfold fX4_letLine
  refine v_iload_n 1 C dX4_letLine_0 rfl ?_
  refine v_bipush C dX4_letLine_1 kc_bipush_6 ?_
  refine v_cN2p C dX4_letLine_3 ln_X4_208 (kX7_isBelow p1 (nI 6) _) (by decide) (Nat.le_of_ble_eq_true rfl) ?_
  refine v_if_ne (tgt := 11) C dX4_letLine_6 (by decide) ?_ ?_
  · skip
    refine v_aload_n 0 C dX4_letLine_11 rfl ?_
    refine v_getc C dX4_letLine_12 lf_X4_32 hk0 rfl ?_
    refine v_iload_n 1 C dX4_letLine_15 rfl ?_
    refine v_iaload C dX4_letLine_16 hk0 (by decide) rfl ?_
    refine v_istore_nL (lv0 := [(0, .ref (adr Y 4 k0)), (1, .int p1), (2, .int p2)]) C dX4_letLine_17 rfl (by decide) rfl (fun x1 => ?_)
    refine v_aload_n 1 C dX4_letLine_18 rfl ?_
    refine v_getc C dX4_letLine_19 lf_X4_32 hk0 rfl ?_
    refine v_iload_n 2 C dX4_letLine_22 rfl ?_
    refine v_iload_n 3 C dX4_letLine_23 rfl ?_
    refine v_iastoreL C dX4_letLine_24 hk0 (by decide) rfl (fun σ2 => ?_)
    refine v_iload_n 0 C dX4_letLine_25 rfl ?_
    exact v_iret C M dX4_letLine_26
  · skip
    refine v_iconst C dX4_letLine_9 kc_iconst_m1 ?_
    exact v_iret C M dX4_letLine_10
-- OpenLines$Run neverMaster(I)I, depth 3
def LX4_neverMaster_4 (k0 : Nat) (ke : St → Option (Int32 × St)) : Nat → Int32 → Int32 → St → Option (Int32 × St)
  | 0, _, _, _ => none
  | n + 1, b2, b3, σ => (if (nI 10) ≤ b3 then ke σ else gd (σ.2.2 4 k0 1 < 6) <| bd (fX2_boardOfSlot (σ.2.2 4 k0 1) b3 σ) fun (r3 : Int32) (σ2 : St) => gd (σ2.2.2 4 k0 1 < 6) <| bd (fX2_holds (σ2.2.2 4 k0 1) r3 σ2) fun (r6 : Int32) (σ5 : St) => (jn (fun (x8 : Int32) (σ7 : St) => LX4_neverMaster_4 k0 ke n x8 (b3 + nI 1) σ7) fun j55 => if r6 = 0 then j55 b2 σ5 else bd (fX5_account k0 r3 0 σ5) fun (r10 : Int32) (σ9 : St) => (if r10 = 0 then (if b2 = 0 then some (r3, σ9) else j55 (b2 + (-1)) σ9) else j55 b2 σ9)))
def fX4_neverMaster (k0 : Nat) (p1 : Int32) (σ : St) : Option (Int32 × St) :=
  (LX4_neverMaster_4 k0 (fun (σ11 : St) => some ((-1), σ11)) FU p1 0 σ)
set_option maxRecDepth 20000 in
theorem vLX4_neverMaster_4 {Y : Cx} (k0 : Nat) (hk0 : k0 < cnt 4) (C : Ok Y RX4 cX4_neverMaster 5 3) (M : OkM Y (some .int)) (ke : St → Option (Int32 × St)) (hke : ∀ (σ : St), V Y gI 61 [] [] σ (ke σ)) : ∀ (n : Nat) (b2 : Int32) (b3 : Int32) (σ : St), V Y gI 4 [(0, .ref (adr Y 4 k0)), (2, .int b2), (3, .int b3)] [] σ (LX4_neverMaster_4 k0 ke n b2 b3 σ) := by
  intro n
  induction n with
  | zero => intros; exact v_none
  | succ n ih =>
    intro b2 b3 σ
    rw [LX4_neverMaster_4]
    refine v_iload_n 2 C dX4_neverMaster_4 rfl ?_
    refine v_bipush C dX4_neverMaster_5 kc_bipush_10 ?_
    refine v_icmp_ge (tgt := 61) C dX4_neverMaster_7 (by decide) ?_ ?_
    · skip
      exact v_lv (hke σ) [] rfl
    · skip
      refine v_aload_n 0 C dX4_neverMaster_10 rfl ?_
      refine v_getr C dX4_neverMaster_11 lf_X4_21 hk0 rfl rfl (fun hq1 => ?_)
      refine v_iload_n 2 C dX4_neverMaster_14 rfl ?_
      refine v_cV1i C dX4_neverMaster_15 lv_X4_211 hq1 (kX2_boardOfSlot (σ.2.2 4 k0 1) b3 hq1 _) (by decide) (Nat.le_of_ble_eq_true rfl) (fun r3 σ2 => ?_)
      refine v_istore (lv' := [(4, .int r3), (0, .ref (adr Y 4 k0)), (2, .int b2), (3, .int b3)]) C dX4_neverMaster_18 (by decide) rfl ?_
      refine v_aload_n 1 C dX4_neverMaster_20 rfl ?_
      refine v_getr C dX4_neverMaster_21 lf_X4_21 hk0 rfl rfl (fun hq4 => ?_)
      refine v_iload 0 C dX4_neverMaster_24 rfl ?_
      refine v_cV1i C dX4_neverMaster_26 lv_X4_133 hq4 (kX2_holds (σ2.2.2 4 k0 1) r3 hq4 _) (by decide) (Nat.le_of_ble_eq_true rfl) (fun r6 σ5 => ?_)
      refine v_jn (fun j55 => ∀ (x8 : Int32) (σ7 : St), V Y gI 55 [(0, .ref (adr Y 4 k0)), (2, .int x8), (3, .int b3)] [] σ7 (j55 x8 σ7)) ?_ ?_
      · intro x8 σ7
        refine v_iinc (lv' := [(3, .int (b3 + nI 1)), (0, .ref (adr Y 4 k0)), (2, .int x8)]) 2 C dX4_neverMaster_55 rfl (congrArg (b3 + ·) kc_iconst_1) (by decide) rfl ?_
        refine v_goto (tgt := 4) C dX4_neverMaster_58 (by decide) ?_
        exact v_lv (ih x8 (b3 + nI 1) σ7) [1, 2, 0] rfl
      · intro j55 hj55
        refine v_if_eq (tgt := 55) C dX4_neverMaster_29 (by decide) ?_ ?_
        · skip
          exact v_lv (hj55 b2 σ5) [1, 2, 3] rfl
        · skip
          refine v_aload_n 1 C dX4_neverMaster_32 rfl ?_
          refine v_getc C dX4_neverMaster_33 lf_X4_12 hk0 rfl ?_
          refine v_iload 0 C dX4_neverMaster_36 rfl ?_
          refine v_iconst C dX4_neverMaster_38 kc_iconst_0 ?_
          refine v_cV2i C dX4_neverMaster_39 lv_X4_93 hk0 (kX5_account k0 r3 0 hk0 _) (by decide) (Nat.le_of_ble_eq_true rfl) (fun r10 σ9 => ?_)
          refine v_if_ne (tgt := 55) C dX4_neverMaster_42 (by decide) ?_ ?_
          · skip
            exact v_lv (hj55 b2 σ9) [1, 2, 3] rfl
          · skip
            refine v_iload_n 2 C dX4_neverMaster_45 rfl ?_
            refine v_if_ne (tgt := 52) C dX4_neverMaster_46 (by decide) ?_ ?_
            · skip
              refine v_iinc (lv' := [(2, .int (b2 + (-1))), (4, .int r3), (0, .ref (adr Y 4 k0)), (3, .int b3)]) 2 C dX4_neverMaster_52 rfl (congrArg (b2 + ·) kc_iconst_m1) (by decide) rfl ?_
              exact v_lv (hj55 (b2 + (-1)) σ9) [2, 0, 3] rfl
            · skip
              refine v_iload 0 C dX4_neverMaster_49 rfl ?_
              exact v_iret C M dX4_neverMaster_51
set_option maxRecDepth 20000 in
theorem kX4_neverMaster {X : Cx} (k0 : Nat) (p1 : Int32) (hk0 : k0 < cnt 4) (σ : St) : Kon X 3 yX4_neverMaster cX4_neverMaster 5 (some .int) gI [.ref (adr X 4 k0), .int p1] σ (fX4_neverMaster k0 p1 σ) := by
  refine konJ (own := RX4) (fun _ => gI) (fun a b => [.ref (a 4 k0), .int p1]) (by decide +kernel) rfl (fun _ _ => Nat.le_of_ble_eq_true rfl) (fun Y C M => ?_)
  show V Y gI 0 [(0, .ref (adr Y 4 k0)), (1, .int p1)] [] σ (fX4_neverMaster k0 p1 σ)
  unfold fX4_neverMaster
  refine v_iload_n 1 C dX4_neverMaster_0 rfl ?_
  refine v_istore_n (lv' := [(2, .int p1), (0, .ref (adr Y 4 k0)), (1, .int p1)]) C dX4_neverMaster_1 rfl (by decide) rfl ?_
  refine v_iconst C dX4_neverMaster_2 kc_iconst_0 ?_
  refine v_istore_n (lv' := [(3, .int 0), (2, .int p1), (0, .ref (adr Y 4 k0)), (1, .int p1)]) C dX4_neverMaster_3 rfl (by decide) rfl ?_
  refine v_lv (vLX4_neverMaster_4 _ hk0 C M _ (fun σ11 => ?_) FU _ _ _) [2, 1, 0] rfl
  refine v_iconst C dX4_neverMaster_61 kc_iconst_m1 ?_
  exact v_iret C M dX4_neverMaster_62
-- OpenLines$Tally total(I)I, depth 0
def fX5_total (k0 : Nat) (p1 : Int32) (σ : St) : Option (Int32 × St) :=
  (if p1 = nI 6 then some (σ.1 5 k0 0, σ) else if p1 = nI 7 then some (σ.1 5 k0 1, σ) else if p1 = nI 8 then some (σ.1 5 k0 2, σ) else if p1 = nI 9 then some (σ.1 5 k0 3, σ) else some (σ.1 5 k0 4, σ))
set_option maxRecDepth 20000 in
theorem kX5_total {X : Cx} (k0 : Nat) (p1 : Int32) (hk0 : k0 < cnt 5) (σ : St) : Kon X 0 yX5_total cX5_total 2 (some .int) gI [.ref (adr X 5 k0), .int p1] σ (fX5_total k0 p1 σ) := by
  refine konJ (own := RX5) (fun _ => gI) (fun a b => [.ref (a 5 k0), .int p1]) (by decide +kernel) rfl (fun _ _ => Nat.le_of_ble_eq_true rfl) (fun Y C M => ?_)
  show V Y gI 0 [(0, .ref (adr Y 5 k0)), (1, .int p1)] [] σ (fX5_total k0 p1 σ)
  unfold fX5_total
  refine v_iload_n 1 C dX5_total_0 rfl ?_
  refine v_swK (k := nI 6) (tgt := 32) C dX5_total_1 (by decide) rfl (by decide) ?_ (fun h1 => ?_)
  · skip
    refine v_aload_n 0 C dX5_total_32 rfl ?_
    refine v_geti C dX5_total_33 lf_X5_23 hk0 (by decide) ?_
    exact v_iret C M dX5_total_36
  refine v_swK (k := nI 7) (tgt := 37) C dX5_total_1 (by decide) rfl (by decide) ?_ (fun h2 => ?_)
  · skip
    refine v_aload_n 0 C dX5_total_37 rfl ?_
    refine v_geti C dX5_total_38 lf_X5_27 hk0 (by decide) ?_
    exact v_iret C M dX5_total_41
  refine v_swK (k := nI 8) (tgt := 42) C dX5_total_1 (by decide) rfl (by decide) ?_ (fun h3 => ?_)
  · skip
    refine v_aload_n 0 C dX5_total_42 rfl ?_
    refine v_geti C dX5_total_43 lf_X5_30 hk0 (by decide) ?_
    exact v_iret C M dX5_total_46
  refine v_swK (k := nI 9) (tgt := 47) C dX5_total_1 (by decide) rfl (by decide) ?_ (fun h4 => ?_)
  · skip
    refine v_aload_n 0 C dX5_total_47 rfl ?_
    refine v_geti C dX5_total_48 lf_X5_33 hk0 (by decide) ?_
    exact v_iret C M dX5_total_51
  refine v_swOut (tgt := 52) C dX5_total_1 (by have qh1 := lv_neT (a := 6) h1 (by decide); have qh2 := lv_neT (a := 7) h2 (by decide); have qh3 := lv_neT (a := 8) h3 (by decide); have qh4 := lv_neT (a := 9) h4 (by decide); omega) (by decide) ?_
  refine v_aload_n 0 C dX5_total_52 rfl ?_
  refine v_geti C dX5_total_53 lf_X5_36 hk0 (by decide) ?_
  exact v_iret C M dX5_total_56
-- OpenLines$Run state(I)I, depth 1
def fX4_state (k0 : Nat) (p1 : Int32) (σ : St) : Option (Int32 × St) :=
  (if p1 = 0 then some (σ.1 4 k0 3, σ) else if p1 = nI 1 then some (σ.1 4 k0 4, σ) else if p1 = nI 2 then some (σ.1 4 k0 5, σ) else if p1 = nI 3 then some (σ.1 4 k0 6, σ) else if p1 = nI 4 then some (σ.1 4 k0 7, σ) else if p1 = nI 5 then bd (fX4_askers k0 σ) fun (r8 : Int32) (σ7 : St) => some (r8, σ7) else bd (fX5_total k0 p1 σ) fun (r10 : Int32) (σ9 : St) => some (r10, σ9))
set_option maxRecDepth 20000 in
theorem kX4_state {X : Cx} (k0 : Nat) (p1 : Int32) (hk0 : k0 < cnt 4) (σ : St) : Kon X 1 yX4_state cX4_state 2 (some .int) gI [.ref (adr X 4 k0), .int p1] σ (fX4_state k0 p1 σ) := by
  refine konJ (own := RX4) (fun _ => gI) (fun a b => [.ref (a 4 k0), .int p1]) (by decide +kernel) rfl (fun _ _ => Nat.le_of_ble_eq_true rfl) (fun Y C M => ?_)
  show V Y gI 0 [(0, .ref (adr Y 4 k0)), (1, .int p1)] [] σ (fX4_state k0 p1 σ)
  unfold fX4_state
  refine v_iload_n 1 C dX4_state_0 rfl ?_
  refine v_swK (k := 0) (tgt := 40) C dX4_state_1 (by decide) rfl (by decide) ?_ (fun h1 => ?_)
  · skip
    refine v_aload_n 0 C dX4_state_40 rfl ?_
    refine v_geti C dX4_state_41 lf_X4_48 hk0 (by decide) ?_
    exact v_iret C M dX4_state_44
  refine v_swK (k := nI 1) (tgt := 45) C dX4_state_1 (by decide) rfl (by decide) ?_ (fun h2 => ?_)
  · skip
    refine v_aload_n 0 C dX4_state_45 rfl ?_
    refine v_geti C dX4_state_46 lf_X4_51 hk0 (by decide) ?_
    exact v_iret C M dX4_state_49
  refine v_swK (k := nI 2) (tgt := 50) C dX4_state_1 (by decide) rfl (by decide) ?_ (fun h3 => ?_)
  · skip
    refine v_aload_n 0 C dX4_state_50 rfl ?_
    refine v_geti C dX4_state_51 lf_X4_54 hk0 (by decide) ?_
    exact v_iret C M dX4_state_54
  refine v_swK (k := nI 3) (tgt := 55) C dX4_state_1 (by decide) rfl (by decide) ?_ (fun h4 => ?_)
  · skip
    refine v_aload_n 0 C dX4_state_55 rfl ?_
    refine v_geti C dX4_state_56 lf_X4_57 hk0 (by decide) ?_
    exact v_iret C M dX4_state_59
  refine v_swK (k := nI 4) (tgt := 60) C dX4_state_1 (by decide) rfl (by decide) ?_ (fun h5 => ?_)
  · skip
    refine v_aload_n 0 C dX4_state_60 rfl ?_
    refine v_geti C dX4_state_61 lf_X4_60 hk0 (by decide) ?_
    exact v_iret C M dX4_state_64
  refine v_swK (k := nI 5) (tgt := 65) C dX4_state_1 (by decide) rfl (by decide) ?_ (fun h6 => ?_)
  · skip
    refine v_aload_n 0 C dX4_state_65 rfl ?_
    refine v_cV0i C dX4_state_66 lv_X4_169 hk0 (kX4_askers k0 hk0 _) (by decide) (Nat.le_of_ble_eq_true rfl) (fun r8 σ7 => ?_)
    exact v_iret C M dX4_state_69
  refine v_swOut (tgt := 70) C dX4_state_1 (by have qh1 := lv_neT (a := 0) h1 (by decide); have qh2 := lv_neT (a := 1) h2 (by decide); have qh3 := lv_neT (a := 2) h3 (by decide); have qh4 := lv_neT (a := 3) h4 (by decide); have qh5 := lv_neT (a := 4) h5 (by decide); have qh6 := lv_neT (a := 5) h6 (by decide); omega) (by decide) ?_
  refine v_aload_n 0 C dX4_state_70 rfl ?_
  refine v_getc C dX4_state_71 lf_X4_12 hk0 rfl ?_
  refine v_iload_n 1 C dX4_state_74 rfl ?_
  refine v_cV1i C dX4_state_75 lv_X4_214 hk0 (kX5_total k0 p1 hk0 _) (by decide) (Nat.le_of_ble_eq_true rfl) (fun r10 σ9 => ?_)
  exact v_iret C M dX4_state_78
-- OpenLines$Tally logged()I, depth 1
def fX5_logged (k0 : Nat) (σ : St) : Option (Int32 × St) :=
  some (if (nI 16) < (σ.1 5 k0 1) then (nI 16) else (σ.1 5 k0 1), σ)
set_option maxRecDepth 20000 in
theorem kX5_logged {X : Cx} (k0 : Nat) (hk0 : k0 < cnt 5) (σ : St) : Kon X 1 yX5_logged cX5_logged 1 (some .int) gI [.ref (adr X 5 k0)] σ (fX5_logged k0 σ) := by
  refine konJ (own := RX5) (fun _ => gI) (fun a b => [.ref (a 5 k0)]) (by decide +kernel) rfl (fun _ _ => Nat.le_of_ble_eq_true rfl) (fun Y C M => ?_)
  show V Y gI 0 [(0, .ref (adr Y 5 k0))] [] σ (fX5_logged k0 σ)
  unfold fX5_logged
  refine v_aload_n 0 C dX5_logged_0 rfl ?_
  refine v_geti C dX5_logged_1 lf_X5_27 hk0 (by decide) ?_
  refine v_bipush C dX5_logged_4 kc_bipush_16 ?_
  refine v_mmin C dX5_logged_6 mt_X5_83 wSt_min wMath wCd_min (by decide) (Nat.le_of_ble_eq_true rfl) ?_
  exact v_iret C M dX5_logged_9
-- OpenLines$Tally masterAt(I)I, depth 1
def fX5_masterAt (k0 : Nat) (p1 : Int32) (σ : St) : Option (Int32 × St) :=
  (if p1 < (nI 1) then some ((-2), σ) else bd (fJ9_floorMod_7cf53 p1 (nI 64) σ) fun (r2 : Int32) (σ1 : St) => gi r2 64 <| some (σ1.1 41 k0 r2.toNatClampNeg, σ1))
set_option maxRecDepth 20000 in
theorem kX5_masterAt {X : Cx} (k0 : Nat) (p1 : Int32) (hk0 : k0 < cnt 5) (σ : St) : Kon X 1 yX5_masterAt cX5_masterAt 2 (some .int) gI [.ref (adr X 5 k0), .int p1] σ (fX5_masterAt k0 p1 σ) := by
  refine konJ (own := RX5) (fun _ => gI) (fun a b => [.ref (a 5 k0), .int p1]) (by decide +kernel) rfl (fun _ _ => Nat.le_of_ble_eq_true rfl) (fun Y C M => ?_)
  show V Y gI 0 [(0, .ref (adr Y 5 k0)), (1, .int p1)] [] σ (fX5_masterAt k0 p1 σ)
  unfold fX5_masterAt
  refine v_iload_n 1 C dX5_masterAt_0 rfl ?_
  refine v_iconst C dX5_masterAt_1 kc_iconst_1 ?_
  refine v_icmp_lt (tgt := 19) C dX5_masterAt_2 (by decide) ?_ ?_
  · skip
    refine v_bipush C dX5_masterAt_19 kc_bipush_m2 ?_
    exact v_iret C M dX5_masterAt_21
  · skip
    refine v_aload_n 0 C dX5_masterAt_5 rfl ?_
    refine v_getc C dX5_masterAt_6 lf_X5_19 hk0 rfl ?_
    refine v_iload_n 1 C dX5_masterAt_9 rfl ?_
    refine v_bipush C dX5_masterAt_10 kc_bipush_64 ?_
    refine v_cS2i C dX5_masterAt_12 ls_X5_68 (kJ9_floorMod_7cf53 p1 (nI 64) _) (by decide) (Nat.le_of_ble_eq_true rfl) (fun r2 σ1 => ?_)
    refine v_iaload C dX5_masterAt_15 hk0 (by decide) rfl ?_
    refine v_goto (tgt := 21) C dX5_masterAt_16 (by decide) ?_
    exact v_iret C M dX5_masterAt_21
-- OpenLines$Tally idleTicks(I)I, depth 2
def LX5_idleTicks_4 (k0 : Nat) (a1 : Int32) (ke : Int32 → St → Option (Int32 × St)) : Nat → Int32 → Int32 → St → Option (Int32 × St)
  | 0, _, _, _ => none
  | n + 1, b2, b3, σ => (if (nI 64) ≤ b3 then ke b2 σ else (if a1 ≤ b3 then ke b2 σ else bd (fX5_masterAt k0 (a1 - b3) σ) fun (r2 : Int32) (σ1 : St) => (jn (fun (x4 : Int32) (σ3 : St) => LX5_idleTicks_4 k0 a1 ke n x4 (b3 + nI 1) σ3) fun j30 => if r2 = (-2) then j30 (b2 + nI 1) σ1 else j30 b2 σ1)))
def fX5_idleTicks (k0 : Nat) (p1 : Int32) (σ : St) : Option (Int32 × St) :=
  (LX5_idleTicks_4 k0 p1 (fun (x5 : Int32) (σ6 : St) => some (x5, σ6)) FU 0 0 σ)
set_option maxRecDepth 20000 in
theorem vLX5_idleTicks_4 {Y : Cx} (k0 : Nat) (a1 : Int32) (hk0 : k0 < cnt 5) (C : Ok Y RX5 cX5_idleTicks 4 2) (M : OkM Y (some .int)) (ke : Int32 → St → Option (Int32 × St)) (hke : ∀ (b2 : Int32) (σ : St), V Y gI 36 [(2, .int b2)] [] σ (ke b2 σ)) : ∀ (n : Nat) (b2 : Int32) (b3 : Int32) (σ : St), V Y gI 4 [(0, .ref (adr Y 5 k0)), (1, .int a1), (2, .int b2), (3, .int b3)] [] σ (LX5_idleTicks_4 k0 a1 ke n b2 b3 σ) := by
  intro n
  induction n with
  | zero => intros; exact v_none
  | succ n ih =>
    intro b2 b3 σ
    rw [LX5_idleTicks_4]
    refine v_iload_n 3 C dX5_idleTicks_4 rfl ?_
    refine v_bipush C dX5_idleTicks_5 kc_bipush_64 ?_
    refine v_icmp_ge (tgt := 36) C dX5_idleTicks_7 (by decide) ?_ ?_
    · skip
      exact v_lv (hke b2 σ) [2] rfl
    · skip
      refine v_iload_n 3 C dX5_idleTicks_10 rfl ?_
      refine v_iload_n 1 C dX5_idleTicks_11 rfl ?_
      refine v_icmp_ge (tgt := 36) C dX5_idleTicks_12 (by decide) ?_ ?_
      · skip
        exact v_lv (hke b2 σ) [2] rfl
      · skip
        refine v_aload_n 0 C dX5_idleTicks_15 rfl ?_
        refine v_iload_n 1 C dX5_idleTicks_16 rfl ?_
        refine v_iload_n 3 C dX5_idleTicks_17 rfl ?_
        refine v_isub C dX5_idleTicks_18 ?_
        refine v_cV1i C dX5_idleTicks_19 lv_X5_90 hk0 (kX5_masterAt k0 (a1 - b3) hk0 _) (by decide) (Nat.le_of_ble_eq_true rfl) (fun r2 σ1 => ?_)
        refine v_bipush C dX5_idleTicks_22 kc_bipush_m2 ?_
        refine v_jn (fun j30 => ∀ (x4 : Int32) (σ3 : St), V Y gI 30 [(0, .ref (adr Y 5 k0)), (1, .int a1), (2, .int x4), (3, .int b3)] [] σ3 (j30 x4 σ3)) ?_ ?_
        · intro x4 σ3
          refine v_iinc (lv' := [(3, .int (b3 + nI 1)), (0, .ref (adr Y 5 k0)), (1, .int a1), (2, .int x4)]) 3 C dX5_idleTicks_30 rfl (congrArg (b3 + ·) kc_iconst_1) (by decide) rfl ?_
          refine v_goto (tgt := 4) C dX5_idleTicks_33 (by decide) ?_
          exact v_lv (ih x4 (b3 + nI 1) σ3) [1, 2, 3, 0] rfl
        · intro j30 hj30
          refine v_icmp_ne (tgt := 30) C dX5_idleTicks_24 (by decide) ?_ ?_
          · skip
            exact v_lv (hj30 b2 σ1) [0, 1, 2, 3] rfl
          · skip
            refine v_iinc (lv' := [(2, .int (b2 + nI 1)), (0, .ref (adr Y 5 k0)), (1, .int a1), (3, .int b3)]) 2 C dX5_idleTicks_27 rfl (congrArg (b2 + ·) kc_iconst_1) (by decide) rfl ?_
            exact v_lv (hj30 (b2 + nI 1) σ1) [1, 2, 0, 3] rfl
set_option maxRecDepth 20000 in
theorem kX5_idleTicks {X : Cx} (k0 : Nat) (p1 : Int32) (hk0 : k0 < cnt 5) (σ : St) : Kon X 2 yX5_idleTicks cX5_idleTicks 4 (some .int) gI [.ref (adr X 5 k0), .int p1] σ (fX5_idleTicks k0 p1 σ) := by
  refine konJ (own := RX5) (fun _ => gI) (fun a b => [.ref (a 5 k0), .int p1]) (by decide +kernel) rfl (fun _ _ => Nat.le_of_ble_eq_true rfl) (fun Y C M => ?_)
  show V Y gI 0 [(0, .ref (adr Y 5 k0)), (1, .int p1)] [] σ (fX5_idleTicks k0 p1 σ)
  unfold fX5_idleTicks
  refine v_iconst C dX5_idleTicks_0 kc_iconst_0 ?_
  refine v_istore_n (lv' := [(2, .int 0), (0, .ref (adr Y 5 k0)), (1, .int p1)]) C dX5_idleTicks_1 rfl (by decide) rfl ?_
  refine v_iconst C dX5_idleTicks_2 kc_iconst_0 ?_
  refine v_istore_n (lv' := [(3, .int 0), (2, .int 0), (0, .ref (adr Y 5 k0)), (1, .int p1)]) C dX5_idleTicks_3 rfl (by decide) rfl ?_
  refine v_lv (vLX5_idleTicks_4 _ _ hk0 C M _ (fun x5 σ6 => ?_) FU _ _ _) [2, 3, 1, 0] rfl
  refine v_iload_n 0 C dX5_idleTicks_36 rfl ?_
  exact v_iret C M dX5_idleTicks_37
-- OpenLines$Tally entry(II)I, depth 2
def fX5_entry (k0 : Nat) (p1 : Int32) (p2 : Int32) (σ : St) : Option (Int32 × St) :=
  bd (fX5_logged k0 σ) fun (r2 : Int32) (σ1 : St) => (if (fX7_isBelow p1 r2) = 0 then some ((-1), σ1) else (if (fX7_isBelow p2 (nI 6)) = 0 then some ((-1), σ1) else bd (fJ9_floorMod_7cf53 (((σ1.1 5 k0 1) - (nI 1)) - p1) (nI 16) σ1) fun (r4 : Int32) (σ3 : St) => gi r4 16 <| gi p2 6 <| some (σ3.1 40 (16 * k0 + r4.toNatClampNeg) p2.toNatClampNeg, σ3)))
set_option maxRecDepth 20000 in
theorem kX5_entry {X : Cx} (k0 : Nat) (p1 : Int32) (p2 : Int32) (hk0 : k0 < cnt 5) (σ : St) : Kon X 2 yX5_entry cX5_entry 3 (some .int) gI [.ref (adr X 5 k0), .int p1, .int p2] σ (fX5_entry k0 p1 p2 σ) := by
  refine konJ (own := RX5) (fun _ => gI) (fun a b => [.ref (a 5 k0), .int p1, .int p2]) (by decide +kernel) rfl (fun _ _ => Nat.le_of_ble_eq_true rfl) (fun Y C M => ?_)
  show V Y gI 0 [(0, .ref (adr Y 5 k0)), (1, .int p1), (2, .int p2)] [] σ (fX5_entry k0 p1 p2 σ)
  unfold fX5_entry
  refine v_iload_n 1 C dX5_entry_0 rfl ?_
  refine v_aload_n 0 C dX5_entry_1 rfl ?_
  refine v_cV0i C dX5_entry_2 lv_X5_86 hk0 (kX5_logged k0 hk0 _) (by decide) (Nat.le_of_ble_eq_true rfl) (fun r2 σ1 => ?_)
  refine v_cN2p C dX5_entry_5 ln_X5_55 (kX7_isBelow p1 r2 _) (by decide) (Nat.le_of_ble_eq_true rfl) ?_
  refine v_if_eq (tgt := 20) C dX5_entry_8 (by decide) ?_ ?_
  · skip
    refine v_iconst C dX5_entry_20 kc_iconst_m1 ?_
    exact v_iret C M dX5_entry_21
  · skip
    refine v_iload_n 2 C dX5_entry_11 rfl ?_
    refine v_bipush C dX5_entry_12 kc_bipush_6 ?_
    refine v_cN2p C dX5_entry_14 ln_X5_55 (kX7_isBelow p2 (nI 6) _) (by decide) (Nat.le_of_ble_eq_true rfl) ?_
    refine v_if_ne (tgt := 22) C dX5_entry_17 (by decide) ?_ ?_
    · skip
      refine v_aload_n 0 C dX5_entry_22 rfl ?_
      refine v_getc C dX5_entry_23 lf_X5_16 hk0 rfl ?_
      refine v_aload_n 0 C dX5_entry_26 rfl ?_
      refine v_geti C dX5_entry_27 lf_X5_27 hk0 (by decide) ?_
      refine v_iconst C dX5_entry_30 kc_iconst_1 ?_
      refine v_isub C dX5_entry_31 ?_
      refine v_iload_n 1 C dX5_entry_32 rfl ?_
      refine v_isub C dX5_entry_33 ?_
      refine v_bipush C dX5_entry_34 kc_bipush_16 ?_
      refine v_cS2i C dX5_entry_36 ls_X5_68 (kJ9_floorMod_7cf53 (((σ1.1 5 k0 1) - (nI 1)) - p1) (nI 16) _) (by decide) (Nat.le_of_ble_eq_true rfl) (fun r4 σ3 => ?_)
      refine v_aaloadK C dX5_entry_39 hk0 (by decide) rfl rfl (fun hq5 => ?_)
      refine v_iload_n 2 C dX5_entry_40 rfl ?_
      refine v_iaload C dX5_entry_41 (row_lt (m := 3) hk0 hq5 rfl) (by decide) rfl ?_
      exact v_iret C M dX5_entry_42
    · skip
      refine v_iconst C dX5_entry_20 kc_iconst_m1 ?_
      exact v_iret C M dX5_entry_21
-- OpenLines$Tape hasRoom(I)Z, depth 0
def fX6_hasRoom (p1 : Int32) (σ : St) : Option (Int32 × St) :=
  rz (if (nI 700) < ((σ.1 6 0 1) + p1) then 0 else (nI 1)) σ
set_option maxRecDepth 20000 in
theorem kX6_hasRoom {X : Cx} (p1 : Int32) (σ : St) : Kon X 0 yX6_hasRoom cX6_hasRoom 2 (some .boolean) gI [.ref (adr X 6 0), .int p1] σ (fX6_hasRoom p1 σ) := by
  refine konJ (own := RX6) (fun _ => gI) (fun a b => [.ref (a 6 0), .int p1]) (by decide +kernel) rfl (fun _ _ => Nat.le_of_ble_eq_true rfl) (fun Y C M => ?_)
  show V Y gI 0 [(0, .ref (adr Y 6 0)), (1, .int p1)] [] σ (fX6_hasRoom p1 σ)
  unfold fX6_hasRoom
  refine v_aload_n 0 C dX6_hasRoom_0 rfl ?_
  refine v_geti C dX6_hasRoom_1 lf_X6_15 ck_6 (by decide) ?_
  refine v_iload_n 1 C dX6_hasRoom_4 rfl ?_
  refine v_iadd C dX6_hasRoom_5 ?_
  refine v_sipush C dX6_hasRoom_6 kc_sipush_700 ?_
  refine v_cut (pcJ := 17) (lv := [(0, .ref (adr Y 6 0)), (1, .int p1)]) (st := .int (if (nI 700) < ((σ.1 6 0 1) + p1) then 0 else (nI 1)) :: []) ?_ (fun hj1 => ?_)
  rotate_left
  · skip
    refine v_icmp_gt_b (tgt := 16) C dX6_hasRoom_9 (by decide) (fun h2 => ?_) (fun h2 => ?_)
    · have hj3 := v_jpos h2 hj1
      refine v_iconst C dX6_hasRoom_16 kc_iconst_0 ?_
      exact hj3
    · have hj3 := v_jneg h2 hj1
      refine v_iconst C dX6_hasRoom_12 kc_iconst_1 ?_
      refine v_goto (tgt := 17) C dX6_hasRoom_13 (by decide) ?_
      exact hj3
  exact v_zretg C M dX6_hasRoom_17
-- OpenLines$Tape clear()V, depth 0
def fX6_clear (σ : St) : Option (Unit × St) :=
  lt (wI σ 6 0 1 0) fun (σ1 : St) => some ((), σ1)
set_option maxRecDepth 20000 in
theorem kX6_clear {X : Cx} (σ : St) : Kon X 0 yX6_clear cX6_clear 1 none gV [.ref (adr X 6 0)] σ (fX6_clear σ) := by
  refine konJ (own := RX6) (fun _ => gV) (fun a b => [.ref (a 6 0)]) (by decide +kernel) rfl (fun _ _ => Nat.le_of_ble_eq_true rfl) (fun Y C M => ?_)
  show V Y gV 0 [(0, .ref (adr Y 6 0))] [] σ (fX6_clear σ)
  unfold fX6_clear
  refine v_aload_n 0 C dX6_clear_0 rfl ?_
  refine v_iconst C dX6_clear_1 kc_iconst_0 ?_
  refine v_putiL C dX6_clear_2 lp_X6_15 ck_6 (by decide) (fun σ1 => ?_)
  exact v_vret C M dX6_clear_5
-- OpenLines$Tape append(I)V, depth 0
def LX6_append_3 (a1 : Int32) (ke : St → Option (Unit × St)) : Nat → Int32 → St → Option (Unit × St)
  | 0, _, _ => none
  | n + 1, b2, σ => (if b2 < 0 then ke σ else (if (nI 700) ≤ (σ.1 6 0 1) then ke σ else gi (σ.1 6 0 1) 700 <| lt (wI σ 42 0 (σ.1 6 0 1).toNatClampNeg ((((a1.toUInt32 >>> (b2.toUInt32 &&& Int32.toUInt32 31)).toInt32).toInt8.toInt32).toInt8.toInt32)) fun (σ1 : St) => lt (wI σ1 6 0 1 ((σ1.1 6 0 1) + (nI 1))) fun (σ2 : St) => LX6_append_3 a1 ke n (b2 + (-8)) σ2))
def fX6_append (p1 : Int32) (σ : St) : Option (Unit × St) :=
  (LX6_append_3 p1 (fun (σ3 : St) => some ((), σ3)) FU (nI 24) σ)
set_option maxRecDepth 20000 in
theorem vLX6_append_3 {Y : Cx} (a1 : Int32) (C : Ok Y RX6 cX6_append 3 0) (M : OkM Y none) (ke : St → Option (Unit × St)) (hke : ∀ (σ : St), V Y gV 46 [] [] σ (ke σ)) : ∀ (n : Nat) (b2 : Int32) (σ : St), V Y gV 3 [(0, .ref (adr Y 6 0)), (1, .int a1), (2, .int b2)] [] σ (LX6_append_3 a1 ke n b2 σ) := by
  intro n
  induction n with
  | zero => intros; exact v_none
  | succ n ih =>
    intro b2 σ
    rw [LX6_append_3]
    refine v_iload_n 2 C dX6_append_3 rfl ?_
    refine v_if_lt (tgt := 46) C dX6_append_4 (by decide) ?_ ?_
    · skip
      exact v_lv (hke σ) [] rfl
    · skip
      refine v_aload_n 0 C dX6_append_7 rfl ?_
      refine v_geti C dX6_append_8 lf_X6_15 ck_6 (by decide) ?_
      refine v_sipush C dX6_append_11 kc_sipush_700 ?_
      refine v_icmp_ge (tgt := 46) C dX6_append_14 (by decide) ?_ ?_
      · skip
        exact v_lv (hke σ) [] rfl
      · skip
        refine v_aload_n 0 C dX6_append_17 rfl ?_
        refine v_getc C dX6_append_18 lf_X6_9 ck_6 rfl ?_
        refine v_aload_n 0 C dX6_append_21 rfl ?_
        refine v_geti C dX6_append_22 lf_X6_15 ck_6 (by decide) ?_
        refine v_iload_n 1 C dX6_append_25 rfl ?_
        refine v_iload_n 2 C dX6_append_26 rfl ?_
        refine v_iushr C dX6_append_27 ?_
        refine v_i2b C dX6_append_28 ?_
        refine v_bastoreL C dX6_append_29 ck_42 (by decide) rfl (fun σ1 => ?_)
        refine v_aload_n 0 C dX6_append_30 rfl ?_
        refine v_dup C dX6_append_31 rfl ?_
        refine v_geti C dX6_append_32 lf_X6_15 ck_6 (by decide) ?_
        refine v_iconst C dX6_append_35 kc_iconst_1 ?_
        refine v_iadd C dX6_append_36 ?_
        refine v_putiL C dX6_append_37 lp_X6_15 ck_6 (by decide) (fun σ2 => ?_)
        refine v_iinc (lv' := [(2, .int (b2 + (-8))), (0, .ref (adr Y 6 0)), (1, .int a1)]) 2 C dX6_append_40 rfl (congrArg (b2 + ·) kc_iconst_m8) (by decide) rfl ?_
        refine v_goto (tgt := 3) C dX6_append_43 (by decide) ?_
        exact v_lv (ih (b2 + (-8)) σ2) [1, 2, 0] rfl
set_option maxRecDepth 20000 in
theorem kX6_append {X : Cx} (p1 : Int32) (σ : St) : Kon X 0 yX6_append cX6_append 3 none gV [.ref (adr X 6 0), .int p1] σ (fX6_append p1 σ) := by
  refine konJ (own := RX6) (fun _ => gV) (fun a b => [.ref (a 6 0), .int p1]) (by decide +kernel) rfl (fun _ _ => Nat.le_of_ble_eq_true rfl) (fun Y C M => ?_)
  show V Y gV 0 [(0, .ref (adr Y 6 0)), (1, .int p1)] [] σ (fX6_append p1 σ)
  unfold fX6_append
  refine v_bipush C dX6_append_0 kc_bipush_24 ?_
  refine v_istore_n (lv' := [(2, .int (nI 24)), (0, .ref (adr Y 6 0)), (1, .int p1)]) C dX6_append_2 rfl (by decide) rfl ?_
  refine v_lv (vLX6_append_3 _ C M _ (fun σ3 => ?_) FU _ _) [1, 2, 0] rfl
  exact v_vret C M dX6_append_46
-- OpenLines feed(IIIII)I, depth 1
def fX7_feed (p1 : Int32) (p2 : Int32) (p3 : Int32) (p4 : Int32) (p5 : Int32) (σ : St) : Option (Int32 × St) :=
  bd (fX6_hasRoom (nI 20) σ) fun (r2 : Int32) (σ1 : St) => (if r2 = 0 then some ((-1), σ1) else bd (fX6_append p1 σ1) fun _ (σ3 : St) => bd (fX6_append p2 σ3) fun _ (σ4 : St) => bd (fX6_append p3 σ4) fun _ (σ5 : St) => bd (fX6_append p4 σ5) fun _ (σ6 : St) => bd (fX6_append p5 σ6) fun _ (σ7 : St) => some (σ7.1 6 0 1, σ7))
set_option maxRecDepth 20000 in
theorem kX7_feed {X : Cx} (p1 : Int32) (p2 : Int32) (p3 : Int32) (p4 : Int32) (p5 : Int32) (σ : St) : Kon X 1 yX7_feed cX7_feed 6 (some .int) gI [.ref (adr X 7 0), .int p1, .int p2, .int p3, .int p4, .int p5] σ (fX7_feed p1 p2 p3 p4 p5 σ) := by
  refine konJ (own := RX7) (fun _ => gI) (fun a b => [.ref (a 7 0), .int p1, .int p2, .int p3, .int p4, .int p5]) (by decide +kernel) rfl (fun _ _ => Nat.le_of_ble_eq_true rfl) (fun Y C M => ?_)
  show V Y gI 0 [(0, .ref (adr Y 7 0)), (1, .int p1), (2, .int p2), (3, .int p3), (4, .int p4), (5, .int p5)] [] σ (fX7_feed p1 p2 p3 p4 p5 σ)
  unfold fX7_feed
  refine v_aload_n 0 C dX7_feed_0 rfl ?_
  refine v_getk C dX7_feed_1 lf_X7_10 ck_7 rfl ?_
  refine v_bipush C dX7_feed_4 kc_bipush_20 ?_
  refine v_cV1i C dX7_feed_6 lv_X7_55 ck_6 (kX6_hasRoom (nI 20) _) (by decide) (Nat.le_of_ble_eq_true rfl) (fun r2 σ1 => ?_)
  refine v_if_ne (tgt := 14) C dX7_feed_9 (by decide) ?_ ?_
  · skip
    refine v_aload_n 0 C dX7_feed_14 rfl ?_
    refine v_getk C dX7_feed_15 lf_X7_10 ck_7 rfl ?_
    refine v_iload_n 1 C dX7_feed_18 rfl ?_
    refine v_cV1v C dX7_feed_19 lv_X7_59 ck_6 (kX6_append p1 _) (by decide) (Nat.le_of_ble_eq_true rfl) (fun _ σ3 => ?_)
    refine v_aload_n 0 C dX7_feed_22 rfl ?_
    refine v_getk C dX7_feed_23 lf_X7_10 ck_7 rfl ?_
    refine v_iload_n 2 C dX7_feed_26 rfl ?_
    refine v_cV1v C dX7_feed_27 lv_X7_59 ck_6 (kX6_append p2 _) (by decide) (Nat.le_of_ble_eq_true rfl) (fun _ σ4 => ?_)
    refine v_aload_n 0 C dX7_feed_30 rfl ?_
    refine v_getk C dX7_feed_31 lf_X7_10 ck_7 rfl ?_
    refine v_iload_n 3 C dX7_feed_34 rfl ?_
    refine v_cV1v C dX7_feed_35 lv_X7_59 ck_6 (kX6_append p3 _) (by decide) (Nat.le_of_ble_eq_true rfl) (fun _ σ5 => ?_)
    refine v_aload_n 0 C dX7_feed_38 rfl ?_
    refine v_getk C dX7_feed_39 lf_X7_10 ck_7 rfl ?_
    refine v_iload 4 C dX7_feed_42 rfl ?_
    refine v_cV1v C dX7_feed_44 lv_X7_59 ck_6 (kX6_append p4 _) (by decide) (Nat.le_of_ble_eq_true rfl) (fun _ σ6 => ?_)
    refine v_aload_n 0 C dX7_feed_47 rfl ?_
    refine v_getk C dX7_feed_48 lf_X7_10 ck_7 rfl ?_
    refine v_iload 5 C dX7_feed_51 rfl ?_
    refine v_cV1v C dX7_feed_53 lv_X7_59 ck_6 (kX6_append p5 _) (by decide) (Nat.le_of_ble_eq_true rfl) (fun _ σ7 => ?_)
    refine v_aload_n 0 C dX7_feed_56 rfl ?_
    refine v_getk C dX7_feed_57 lf_X7_10 ck_7 rfl ?_
    refine v_geti C dX7_feed_60 lf_X7_63 ck_6 (by decide) ?_
    exact v_iret C M dX7_feed_63
  · skip
    refine v_iconst C dX7_feed_12 kc_iconst_m1 ?_
    exact v_iret C M dX7_feed_13
-- OpenLines fault()I, depth 0
def fX7_fault (σ : St) : Option (Int32 × St) :=
  some (σ.1 7 0 11, σ)
set_option maxRecDepth 20000 in
theorem kX7_fault {X : Cx} (σ : St) : Kon X 0 yX7_fault cX7_fault 1 (some .int) gI [.ref (adr X 7 0)] σ (fX7_fault σ) := by
  refine konJ (own := RX7) (fun _ => gI) (fun a b => [.ref (a 7 0)]) (by decide +kernel) rfl (fun _ _ => Nat.le_of_ble_eq_true rfl) (fun Y C M => ?_)
  show V Y gI 0 [(0, .ref (adr Y 7 0))] [] σ (fX7_fault σ)
  unfold fX7_fault
  refine v_aload_n 0 C dX7_fault_0 rfl ?_
  refine v_geti C dX7_fault_1 lf_X7_75 ck_7 (by decide) ?_
  exact v_iret C M dX7_fault_4
-- OpenLines where()I, depth 0
def fX7_where (σ : St) : Option (Int32 × St) :=
  some (if (σ.1 7 0 10) = (nI 4) then (σ.1 7 0 12) else (-1), σ)
set_option maxRecDepth 20000 in
theorem kX7_where {X : Cx} (σ : St) : Kon X 0 yX7_where cX7_where 1 (some .int) gI [.ref (adr X 7 0)] σ (fX7_where σ) := by
  refine konJ (own := RX7) (fun _ => gI) (fun a b => [.ref (a 7 0)]) (by decide +kernel) rfl (fun _ _ => Nat.le_of_ble_eq_true rfl) (fun Y C M => ?_)
  show V Y gI 0 [(0, .ref (adr Y 7 0))] [] σ (fX7_where σ)
  unfold fX7_where
  refine v_aload_n 0 C dX7_where_0 rfl ?_
  refine v_geti C dX7_where_1 lf_X7_102 ck_7 (by decide) ?_
  refine v_iconst C dX7_where_4 kc_iconst_4 ?_
  refine v_cut (pcJ := 16) (lv := [(0, .ref (adr Y 7 0))]) (st := .int (if (σ.1 7 0 10) = (nI 4) then (σ.1 7 0 12) else (-1)) :: []) ?_ (fun hj1 => ?_)
  rotate_left
  · skip
    refine v_icmp_ne_b (tgt := 15) C dX7_where_5 (by decide) (fun h2 => ?_) (fun h2 => ?_)
    · have hj3 := v_jneg h2 hj1
      refine v_iconst C dX7_where_15 kc_iconst_m1 ?_
      exact hj3
    · have hj3 := v_jpos h2 hj1
      refine v_aload_n 0 C dX7_where_8 rfl ?_
      refine v_geti C dX7_where_9 lf_X7_84 ck_7 (by decide) ?_
      refine v_goto (tgt := 16) C dX7_where_12 (by decide) ?_
      exact hj3
  exact v_iret C M dX7_where_16
-- OpenLines refused(I)I, depth 0
def fX7_refused (p1 : Int32) (σ : St) : Option (Int32 × St) :=
  lt (wI σ 7 0 10 p1) fun (σ1 : St) => some ((-1), σ1)
set_option maxRecDepth 20000 in
theorem kX7_refused {X : Cx} (p1 : Int32) (σ : St) : Kon X 0 yX7_refused cX7_refused 2 (some .int) gI [.ref (adr X 7 0), .int p1] σ (fX7_refused p1 σ) := by
  refine konJ (own := RX7) (fun _ => gI) (fun a b => [.ref (a 7 0), .int p1]) (by decide +kernel) rfl (fun _ _ => Nat.le_of_ble_eq_true rfl) (fun Y C M => ?_)
  show V Y gI 0 [(0, .ref (adr Y 7 0)), (1, .int p1)] [] σ (fX7_refused p1 σ)
  unfold fX7_refused
  refine v_aload_n 0 C dX7_refused_0 rfl ?_
  refine v_iload_n 1 C dX7_refused_1 rfl ?_
  refine v_putiL C dX7_refused_2 lp_X7_102 ck_7 (by decide) (fun σ1 => ?_)
  refine v_iconst C dX7_refused_5 kc_iconst_m1 ?_
  exact v_iret C M dX7_refused_6
-- OpenLines accepted(I)I, depth 0
def fX7_accepted (p1 : Int32) (σ : St) : Option (Int32 × St) :=
  lt (wI σ 7 0 10 0) fun (σ1 : St) => some (p1, σ1)
set_option maxRecDepth 20000 in
theorem kX7_accepted {X : Cx} (p1 : Int32) (σ : St) : Kon X 0 yX7_accepted cX7_accepted 2 (some .int) gI [.ref (adr X 7 0), .int p1] σ (fX7_accepted p1 σ) := by
  refine konJ (own := RX7) (fun _ => gI) (fun a b => [.ref (a 7 0), .int p1]) (by decide +kernel) rfl (fun _ _ => Nat.le_of_ble_eq_true rfl) (fun Y C M => ?_)
  show V Y gI 0 [(0, .ref (adr Y 7 0)), (1, .int p1)] [] σ (fX7_accepted p1 σ)
  unfold fX7_accepted
  refine v_aload_n 0 C dX7_accepted_0 rfl ?_
  refine v_iconst C dX7_accepted_1 kc_iconst_0 ?_
  refine v_putiL C dX7_accepted_2 lp_X7_102 ck_7 (by decide) (fun σ1 => ?_)
  refine v_iload_n 1 C dX7_accepted_5 rfl ?_
  exact v_iret C M dX7_accepted_6
-- OpenLines about(I)I, depth 1
def fX7_about (p1 : Int32) (σ : St) : Option (Int32 × St) :=
  (jn (fun (σ1 : St) => bd (fX7_refused (nI 1) σ1) fun (r3 : Int32) (σ2 : St) => some (r3, σ2)) fun j16 => if (σ.1 7 0 8) = 0 then j16 σ else (if (fX7_isBelow p1 (nI 6)) = 0 then j16 σ else (jn (fun (x5 : Int32) (σ4 : St) => bd (fX7_accepted x5 σ4) fun (r7 : Int32) (σ6 : St) => some (r7, σ6)) fun j46 => if p1 = (nI 5) then j46 (σ.1 4 0 2) σ else gd (σ.2.2 7 0 6 < 6) <| bd (fX2_fact (σ.2.2 7 0 6) p1 σ) fun (r10 : Int32) (σ9 : St) => j46 r10 σ9)))
set_option maxRecDepth 20000 in
theorem kX7_about {X : Cx} (p1 : Int32) (σ : St) : Kon X 1 yX7_about cX7_about 2 (some .int) gI [.ref (adr X 7 0), .int p1] σ (fX7_about p1 σ) := by
  refine konJ (own := RX7) (fun _ => gI) (fun a b => [.ref (a 7 0), .int p1]) (by decide +kernel) rfl (fun _ _ => Nat.le_of_ble_eq_true rfl) (fun Y C M => ?_)
  show V Y gI 0 [(0, .ref (adr Y 7 0)), (1, .int p1)] [] σ (fX7_about p1 σ)
  unfold fX7_about
  refine v_aload_n 0 C dX7_about_0 rfl ?_
  refine v_geti C dX7_about_1 lf_X7_89 ck_7 (by decide) ?_
  refine v_jn (fun j16 => ∀ (σ1 : St), V Y gI 16 [(0, .ref (adr Y 7 0))] [] σ1 (j16 σ1)) ?_ ?_
  · intro σ1
    refine v_aload_n 0 C dX7_about_16 rfl ?_
    refine v_iconst C dX7_about_17 kc_iconst_1 ?_
    refine v_cV1i C dX7_about_18 lv_X7_67 ck_7 (kX7_refused (nI 1) _) (by decide) (Nat.le_of_ble_eq_true rfl) (fun r3 σ2 => ?_)
    exact v_iret C M dX7_about_21
  · intro j16 hj16
    refine v_if_eq (tgt := 16) C dX7_about_4 (by decide) ?_ ?_
    · skip
      exact v_lv (hj16 σ) [0] rfl
    · skip
      refine v_iload_n 1 C dX7_about_7 rfl ?_
      refine v_bipush C dX7_about_8 kc_bipush_6 ?_
      refine v_cS2p C dX7_about_10 ls_X7_105 (kX7_isBelow p1 (nI 6) _) (by decide) (Nat.le_of_ble_eq_true rfl) ?_
      refine v_if_ne (tgt := 22) C dX7_about_13 (by decide) ?_ ?_
      · skip
        refine v_aload_n 0 C dX7_about_22 rfl ?_
        refine v_iload_n 1 C dX7_about_23 rfl ?_
        refine v_iconst C dX7_about_24 kc_iconst_5 ?_
        refine v_jn (fun j46 => ∀ (x5 : Int32) (σ4 : St), V Y gI 46 [] [.int x5, .ref (adr Y 7 0)] σ4 (j46 x5 σ4)) ?_ ?_
        · intro x5 σ4
          refine v_cV1i C dX7_about_46 lv_X7_99 ck_7 (kX7_accepted x5 _) (by decide) (Nat.le_of_ble_eq_true rfl) (fun r7 σ6 => ?_)
          exact v_iret C M dX7_about_49
        · intro j46 hj46
          refine v_icmp_ne (tgt := 38) C dX7_about_25 (by decide) ?_ ?_
          · skip
            refine v_aload_n 0 C dX7_about_38 rfl ?_
            refine v_getr C dX7_about_39 lf_X7_48 ck_7 rfl rfl (fun hq8 => ?_)
            refine v_iload_n 1 C dX7_about_42 rfl ?_
            refine v_cV1i C dX7_about_43 lv_X7_112 hq8 (kX2_fact (σ.2.2 7 0 6) p1 hq8 _) (by decide) (Nat.le_of_ble_eq_true rfl) (fun r10 σ9 => ?_)
            exact v_lv (hj46 r10 σ9) [] rfl
          · skip
            refine v_aload_n 0 C dX7_about_28 rfl ?_
            refine v_getk C dX7_about_29 lf_X7_35 ck_7 rfl ?_
            refine v_geti C dX7_about_32 lf_X7_109 ck_4 (by decide) ?_
            refine v_goto (tgt := 46) C dX7_about_35 (by decide) ?_
            exact v_lv (hj46 (σ.1 4 0 2) σ) [] rfl
      · skip
        exact v_lv (hj16 σ) [0] rfl
-- OpenLines hasBoard(I)Z, depth 1
def fX7_hasBoard (p1 : Int32) (σ : St) : Option (Int32 × St) :=
  (if (σ.1 7 0 8) = 0 then some (0, σ) else gd (σ.2.2 7 0 6 < 6) <| bd (fX2_holds (σ.2.2 7 0 6) p1 σ) fun (r3 : Int32) (σ2 : St) => rz (if r3 = 0 then 0 else (nI 1)) σ2)
set_option maxRecDepth 20000 in
theorem kX7_hasBoard {X : Cx} (p1 : Int32) (σ : St) : Kon X 1 yX7_hasBoard cX7_hasBoard 2 (some .boolean) gI [.ref (adr X 7 0), .int p1] σ (fX7_hasBoard p1 σ) := by
  refine konJ (own := RX7) (fun _ => gI) (fun a b => [.ref (a 7 0), .int p1]) (by decide +kernel) rfl (fun _ _ => Nat.le_of_ble_eq_true rfl) (fun Y C M => ?_)
  show V Y gI 0 [(0, .ref (adr Y 7 0)), (1, .int p1)] [] σ (fX7_hasBoard p1 σ)
  unfold fX7_hasBoard
  refine v_aload_n 0 C dX7_hasBoard_0 rfl ?_
  refine v_geti C dX7_hasBoard_1 lf_X7_89 ck_7 (by decide) ?_
  refine v_if_eq (tgt := 22) C dX7_hasBoard_4 (by decide) ?_ ?_
  · skip
    refine v_iconst C dX7_hasBoard_22 kc_iconst_0 ?_
    exact v_zret C M (by decide) dX7_hasBoard_23
  · skip
    refine v_aload_n 0 C dX7_hasBoard_7 rfl ?_
    refine v_getr C dX7_hasBoard_8 lf_X7_48 ck_7 rfl rfl (fun hq1 => ?_)
    refine v_iload_n 1 C dX7_hasBoard_11 rfl ?_
    refine v_cV1i C dX7_hasBoard_12 lv_X7_305 hq1 (kX2_holds (σ.2.2 7 0 6) p1 hq1 _) (by decide) (Nat.le_of_ble_eq_true rfl) (fun r3 σ2 => ?_)
    refine v_cut (pcJ := 23) (lv := [(0, .ref (adr Y 7 0)), (1, .int p1)]) (st := .int (if r3 = 0 then 0 else (nI 1)) :: []) ?_ (fun hj4 => ?_)
    rotate_left
    · skip
      refine v_if_eq_b (tgt := 22) C dX7_hasBoard_15 (by decide) (fun h5 => ?_) (fun h5 => ?_)
      · have hj6 := v_jpos h5 hj4
        refine v_iconst C dX7_hasBoard_22 kc_iconst_0 ?_
        exact hj6
      · have hj6 := v_jneg h5 hj4
        refine v_iconst C dX7_hasBoard_18 kc_iconst_1 ?_
        refine v_goto (tgt := 23) C dX7_hasBoard_19 (by decide) ?_
        exact hj6
    exact v_zretg C M dX7_hasBoard_23
-- OpenLines board(II)I, depth 3
def fX7_board (p1 : Int32) (p2 : Int32) (σ : St) : Option (Int32 × St) :=
  bd (fX7_hasBoard p1 σ) fun (r2 : Int32) (σ1 : St) => (jn (fun (σ3 : St) => bd (fX7_refused (nI 1) σ3) fun (r5 : Int32) (σ4 : St) => some (r5, σ4)) fun j17 => if r2 = 0 then j17 σ1 else (if (fX7_isBelow p2 (nI 7)) = 0 then j17 σ1 else (jn (fun (x7 : Int32) (σ6 : St) => bd (fX7_accepted x7 σ6) fun (r9 : Int32) (σ8 : St) => some (r9, σ8)) fun j50 => if (nI 3) ≤ p2 then bd (fX4_boardState 0 p1 p2 σ1) fun (r11 : Int32) (σ10 : St) => j50 r11 σ10 else gd (σ1.2.2 7 0 6 < 6) <| bd (fX2_boardFact (σ1.2.2 7 0 6) p1 p2 σ1) fun (r14 : Int32) (σ13 : St) => j50 r14 σ13)))
set_option maxRecDepth 20000 in
theorem kX7_board {X : Cx} (p1 : Int32) (p2 : Int32) (σ : St) : Kon X 3 yX7_board cX7_board 3 (some .int) gI [.ref (adr X 7 0), .int p1, .int p2] σ (fX7_board p1 p2 σ) := by
  refine konJ (own := RX7) (fun _ => gI) (fun a b => [.ref (a 7 0), .int p1, .int p2]) (by decide +kernel) rfl (fun _ _ => Nat.le_of_ble_eq_true rfl) (fun Y C M => ?_)
  show V Y gI 0 [(0, .ref (adr Y 7 0)), (1, .int p1), (2, .int p2)] [] σ (fX7_board p1 p2 σ)
  unfold fX7_board
  refine v_aload_n 0 C dX7_board_0 rfl ?_
  refine v_iload_n 1 C dX7_board_1 rfl ?_
  refine v_cV1i C dX7_board_2 lv_X7_115 ck_7 (kX7_hasBoard p1 _) (by decide) (Nat.le_of_ble_eq_true rfl) (fun r2 σ1 => ?_)
  refine v_jn (fun j17 => ∀ (σ3 : St), V Y gI 17 [(0, .ref (adr Y 7 0))] [] σ3 (j17 σ3)) ?_ ?_
  · intro σ3
    refine v_aload_n 0 C dX7_board_17 rfl ?_
    refine v_iconst C dX7_board_18 kc_iconst_1 ?_
    refine v_cV1i C dX7_board_19 lv_X7_67 ck_7 (kX7_refused (nI 1) _) (by decide) (Nat.le_of_ble_eq_true rfl) (fun r5 σ4 => ?_)
    exact v_iret C M dX7_board_22
  · intro j17 hj17
    refine v_if_eq (tgt := 17) C dX7_board_5 (by decide) ?_ ?_
    · skip
      exact v_lv (hj17 σ1) [0] rfl
    · skip
      refine v_iload_n 2 C dX7_board_8 rfl ?_
      refine v_bipush C dX7_board_9 kc_bipush_7 ?_
      refine v_cS2p C dX7_board_11 ls_X7_105 (kX7_isBelow p2 (nI 7) _) (by decide) (Nat.le_of_ble_eq_true rfl) ?_
      refine v_if_ne (tgt := 23) C dX7_board_14 (by decide) ?_ ?_
      · skip
        refine v_aload_n 0 C dX7_board_23 rfl ?_
        refine v_iload_n 2 C dX7_board_24 rfl ?_
        refine v_iconst C dX7_board_25 kc_iconst_3 ?_
        refine v_jn (fun j50 => ∀ (x7 : Int32) (σ6 : St), V Y gI 50 [] [.int x7, .ref (adr Y 7 0)] σ6 (j50 x7 σ6)) ?_ ?_
        · intro x7 σ6
          refine v_cV1i C dX7_board_50 lv_X7_99 ck_7 (kX7_accepted x7 _) (by decide) (Nat.le_of_ble_eq_true rfl) (fun r9 σ8 => ?_)
          exact v_iret C M dX7_board_53
        · intro j50 hj50
          refine v_icmp_ge (tgt := 41) C dX7_board_26 (by decide) ?_ ?_
          · skip
            refine v_aload_n 0 C dX7_board_41 rfl ?_
            refine v_getk C dX7_board_42 lf_X7_35 ck_7 rfl ?_
            refine v_iload_n 1 C dX7_board_45 rfl ?_
            refine v_iload_n 2 C dX7_board_46 rfl ?_
            refine v_cV2i C dX7_board_47 lv_X7_122 ck_4 (kX4_boardState 0 p1 p2 ck_4 _) (by decide) (Nat.le_of_ble_eq_true rfl) (fun r11 σ10 => ?_)
            exact v_lv (hj50 r11 σ10) [] rfl
          · skip
            refine v_aload_n 0 C dX7_board_29 rfl ?_
            refine v_getr C dX7_board_30 lf_X7_48 ck_7 rfl rfl (fun hq12 => ?_)
            refine v_iload_n 1 C dX7_board_33 rfl ?_
            refine v_iload_n 2 C dX7_board_34 rfl ?_
            refine v_cV2i C dX7_board_35 lv_X7_118 hq12 (kX2_boardFact (σ1.2.2 7 0 6) p1 p2 hq12 _) (by decide) (Nat.le_of_ble_eq_true rfl) (fun r14 σ13 => ?_)
            refine v_goto (tgt := 50) C dX7_board_38 (by decide) ?_
            exact v_lv (hj50 r14 σ13) [] rfl
      · skip
        exact v_lv (hj17 σ1) [0] rfl
-- OpenLines named(I)I, depth 2
def fX7_named (p1 : Int32) (σ : St) : Option (Int32 × St) :=
  (jn (fun (x2 : Int32) (σ1 : St) => (if x2 = (-1) then bd (fX7_refused (nI 1) σ1) fun (r6 : Int32) (σ5 : St) => some (r6, σ5) else bd (fX7_accepted x2 σ1) fun (r4 : Int32) (σ3 : St) => some (r4, σ3))) fun j19 => if (σ.1 7 0 8) = 0 then j19 (-1) σ else gd (σ.2.2 7 0 6 < 6) <| bd (fX2_boardOfCode (σ.2.2 7 0 6) p1 σ) fun (r9 : Int32) (σ8 : St) => j19 r9 σ8)
set_option maxRecDepth 20000 in
theorem kX7_named {X : Cx} (p1 : Int32) (σ : St) : Kon X 2 yX7_named cX7_named 3 (some .int) gI [.ref (adr X 7 0), .int p1] σ (fX7_named p1 σ) := by
  refine konJ (own := RX7) (fun _ => gI) (fun a b => [.ref (a 7 0), .int p1]) (by decide +kernel) rfl (fun _ _ => Nat.le_of_ble_eq_true rfl) (fun Y C M => ?_)
  show V Y gI 0 [(0, .ref (adr Y 7 0)), (1, .int p1)] [] σ (fX7_named p1 σ)
  unfold fX7_named
  refine v_aload_n 0 C dX7_named_0 rfl ?_
  refine v_geti C dX7_named_1 lf_X7_89 ck_7 (by decide) ?_
  refine v_jn (fun j19 => ∀ (x2 : Int32) (σ1 : St), V Y gI 19 [(0, .ref (adr Y 7 0))] [.int x2] σ1 (j19 x2 σ1)) ?_ ?_
  · intro x2 σ1
    refine v_istore_n (lv' := [(2, .int x2), (0, .ref (adr Y 7 0))]) C dX7_named_19 rfl (by decide) rfl ?_
    refine v_iload_n 0 C dX7_named_20 rfl ?_
    refine v_iconst C dX7_named_21 kc_iconst_m1 ?_
    refine v_icmp_ne (tgt := 33) C dX7_named_22 (by decide) ?_ ?_
    · skip
      refine v_aload_n 1 C dX7_named_33 rfl ?_
      refine v_iload_n 0 C dX7_named_34 rfl ?_
      refine v_cV1i C dX7_named_35 lv_X7_99 ck_7 (kX7_accepted x2 _) (by decide) (Nat.le_of_ble_eq_true rfl) (fun r4 σ3 => ?_)
      exact v_iret C M dX7_named_38
    · skip
      refine v_aload_n 1 C dX7_named_25 rfl ?_
      refine v_iconst C dX7_named_26 kc_iconst_1 ?_
      refine v_cV1i C dX7_named_27 lv_X7_67 ck_7 (kX7_refused (nI 1) _) (by decide) (Nat.le_of_ble_eq_true rfl) (fun r6 σ5 => ?_)
      refine v_goto (tgt := 38) C dX7_named_30 (by decide) ?_
      exact v_iret C M dX7_named_38
  · intro j19 hj19
    refine v_if_eq (tgt := 18) C dX7_named_4 (by decide) ?_ ?_
    · skip
      refine v_iconst C dX7_named_18 kc_iconst_m1 ?_
      exact v_lv (hj19 (-1) σ) [0] rfl
    · skip
      refine v_aload_n 0 C dX7_named_7 rfl ?_
      refine v_getr C dX7_named_8 lf_X7_48 ck_7 rfl rfl (fun hq7 => ?_)
      refine v_iload_n 1 C dX7_named_11 rfl ?_
      refine v_cV1i C dX7_named_12 lv_X7_125 hq7 (kX2_boardOfCode (σ.2.2 7 0 6) p1 hq7 _) (by decide) (Nat.le_of_ble_eq_true rfl) (fun r9 σ8 => ?_)
      refine v_goto (tgt := 19) C dX7_named_15 (by decide) ?_
      exact v_lv (hj19 r9 σ8) [0] rfl
-- OpenLines word(II)I, depth 3
def fX7_word (p1 : Int32) (p2 : Int32) (σ : St) : Option (Int32 × St) :=
  bd (fX7_hasBoard p1 σ) fun (r2 : Int32) (σ1 : St) => (if r2 = 0 then bd (fX7_refused (nI 1) σ1) fun (r12 : Int32) (σ11 : St) => some (r12, σ11) else (if (fX7_isPass p2) = 0 then bd (fX7_refused (nI 2) σ1) fun (r10 : Int32) (σ9 : St) => some (r10, σ9) else (jn (fun (x4 : Int32) (σ3 : St) => bd (fX7_accepted x4 σ3) fun (r6 : Int32) (σ5 : St) => some (r6, σ5)) fun j54 => if p2 = (nI 1) then bd (fX4_rankWords 0 σ1) fun _ (σ8 : St) => gi p1 6 <| j54 (σ8.1 31 0 p1.toNatClampNeg) σ8 else gd (σ1.2.2 7 0 6 < 6) <| gi p1 6 <| j54 (σ1.1 27 (σ1.2.2 7 0 6) p1.toNatClampNeg) σ1)))
set_option maxRecDepth 20000 in
theorem kX7_word {X : Cx} (p1 : Int32) (p2 : Int32) (σ : St) : Kon X 3 yX7_word cX7_word 3 (some .int) gI [.ref (adr X 7 0), .int p1, .int p2] σ (fX7_word p1 p2 σ) := by
  refine konJ (own := RX7) (fun _ => gI) (fun a b => [.ref (a 7 0), .int p1, .int p2]) (by decide +kernel) rfl (fun _ _ => Nat.le_of_ble_eq_true rfl) (fun Y C M => ?_)
  show V Y gI 0 [(0, .ref (adr Y 7 0)), (1, .int p1), (2, .int p2)] [] σ (fX7_word p1 p2 σ)
  unfold fX7_word
  refine v_aload_n 0 C dX7_word_0 rfl ?_
  refine v_iload_n 1 C dX7_word_1 rfl ?_
  refine v_cV1i C dX7_word_2 lv_X7_115 ck_7 (kX7_hasBoard p1 _) (by decide) (Nat.le_of_ble_eq_true rfl) (fun r2 σ1 => ?_)
  refine v_if_ne (tgt := 14) C dX7_word_5 (by decide) ?_ ?_
  · skip
    refine v_iload_n 2 C dX7_word_14 rfl ?_
    refine v_cS1p C dX7_word_15 ls_X7_128 (kX7_isPass p2 _) (by decide) (Nat.le_of_ble_eq_true rfl) ?_
    refine v_if_ne (tgt := 27) C dX7_word_18 (by decide) ?_ ?_
    · skip
      refine v_aload_n 0 C dX7_word_27 rfl ?_
      refine v_iload_n 2 C dX7_word_28 rfl ?_
      refine v_iconst C dX7_word_29 kc_iconst_1 ?_
      refine v_jn (fun j54 => ∀ (x4 : Int32) (σ3 : St), V Y gI 54 [] [.int x4, .ref (adr Y 7 0)] σ3 (j54 x4 σ3)) ?_ ?_
      · intro x4 σ3
        refine v_cV1i C dX7_word_54 lv_X7_99 ck_7 (kX7_accepted x4 _) (by decide) (Nat.le_of_ble_eq_true rfl) (fun r6 σ5 => ?_)
        exact v_iret C M dX7_word_57
      · intro j54 hj54
        refine v_icmp_ne (tgt := 45) C dX7_word_30 (by decide) ?_ ?_
        · skip
          refine v_aload_n 0 C dX7_word_45 rfl ?_
          refine v_getr C dX7_word_46 lf_X7_48 ck_7 rfl rfl (fun hq7 => ?_)
          refine v_getc C dX7_word_49 lf_X7_135 hq7 rfl ?_
          refine v_iload_n 1 C dX7_word_52 rfl ?_
          refine v_iaload C dX7_word_53 hq7 (by decide) rfl ?_
          exact v_lv (hj54 (σ1.1 27 (σ1.2.2 7 0 6) p1.toNatClampNeg) σ1) [] rfl
        · skip
          refine v_aload_n 0 C dX7_word_33 rfl ?_
          refine v_getk C dX7_word_34 lf_X7_35 ck_7 rfl ?_
          refine v_cV0u C dX7_word_37 lv_X7_131 ck_4 (kX4_rankWords 0 ck_4 _) (by decide) (Nat.le_of_ble_eq_true rfl) (fun _ σ8 => ?_)
          refine v_iload_n 1 C dX7_word_40 rfl ?_
          refine v_iaload C dX7_word_41 ck_4 (by decide) rfl ?_
          refine v_goto (tgt := 54) C dX7_word_42 (by decide) ?_
          exact v_lv (hj54 (σ8.1 31 0 p1.toNatClampNeg) σ8) [] rfl
    · skip
      refine v_aload_n 0 C dX7_word_21 rfl ?_
      refine v_iconst C dX7_word_22 kc_iconst_2 ?_
      refine v_cV1i C dX7_word_23 lv_X7_67 ck_7 (kX7_refused (nI 2) _) (by decide) (Nat.le_of_ble_eq_true rfl) (fun r10 σ9 => ?_)
      exact v_iret C M dX7_word_26
  · skip
    refine v_aload_n 0 C dX7_word_8 rfl ?_
    refine v_iconst C dX7_word_9 kc_iconst_1 ?_
    refine v_cV1i C dX7_word_10 lv_X7_67 ck_7 (kX7_refused (nI 1) _) (by decide) (Nat.le_of_ble_eq_true rfl) (fun r12 σ11 => ?_)
    exact v_iret C M dX7_word_13
-- OpenLines isSet(I)Z, depth 1
def fX7_isSet (p1 : Int32) (σ : St) : Option (Int32 × St) :=
  (if p1 < (nI 1) then some (0, σ) else gd (σ.2.2 7 0 6 < 6) <| bd (fX2_sets (σ.2.2 7 0 6) σ) fun (r3 : Int32) (σ2 : St) => rz (if r3 ≤ p1 then 0 else (nI 1)) σ2)
set_option maxRecDepth 20000 in
theorem kX7_isSet {X : Cx} (p1 : Int32) (σ : St) : Kon X 1 yX7_isSet cX7_isSet 2 (some .boolean) gI [.ref (adr X 7 0), .int p1] σ (fX7_isSet p1 σ) := by
  refine konJ (own := RX7) (fun _ => gI) (fun a b => [.ref (a 7 0), .int p1]) (by decide +kernel) rfl (fun _ _ => Nat.le_of_ble_eq_true rfl) (fun Y C M => ?_)
  show V Y gI 0 [(0, .ref (adr Y 7 0)), (1, .int p1)] [] σ (fX7_isSet p1 σ)
  unfold fX7_isSet
  refine v_iload_n 1 C dX7_isSet_0 rfl ?_
  refine v_iconst C dX7_isSet_1 kc_iconst_1 ?_
  refine v_icmp_lt (tgt := 20) C dX7_isSet_2 (by decide) ?_ ?_
  · skip
    refine v_iconst C dX7_isSet_20 kc_iconst_0 ?_
    exact v_zret C M (by decide) dX7_isSet_21
  · skip
    refine v_iload_n 1 C dX7_isSet_5 rfl ?_
    refine v_aload_n 0 C dX7_isSet_6 rfl ?_
    refine v_getr C dX7_isSet_7 lf_X7_48 ck_7 rfl rfl (fun hq1 => ?_)
    refine v_cV0i C dX7_isSet_10 lv_X7_200 hq1 (kX2_sets (σ.2.2 7 0 6) hq1 _) (by decide) (Nat.le_of_ble_eq_true rfl) (fun r3 σ2 => ?_)
    refine v_cut (pcJ := 21) (lv := [(0, .ref (adr Y 7 0)), (1, .int p1)]) (st := .int (if r3 ≤ p1 then 0 else (nI 1)) :: []) ?_ (fun hj4 => ?_)
    rotate_left
    · skip
      refine v_icmp_ge_b (tgt := 20) C dX7_isSet_13 (by decide) (fun h5 => ?_) (fun h5 => ?_)
      · have hj6 := v_jpos h5 hj4
        refine v_iconst C dX7_isSet_20 kc_iconst_0 ?_
        exact hj6
      · have hj6 := v_jneg h5 hj4
        refine v_iconst C dX7_isSet_16 kc_iconst_1 ?_
        refine v_goto (tgt := 21) C dX7_isSet_17 (by decide) ?_
        exact hj6
    exact v_zretg C M dX7_isSet_21
-- OpenLines isContest(II)Z, depth 2
def fX7_isContest (p1 : Int32) (p2 : Int32) (σ : St) : Option (Int32 × St) :=
  (if (fX7_isPass p1) = 0 then some (0, σ) else bd (fX7_isSet p2 σ) fun (r2 : Int32) (σ1 : St) => rz (if r2 = 0 then 0 else (nI 1)) σ1)
set_option maxRecDepth 20000 in
theorem kX7_isContest {X : Cx} (p1 : Int32) (p2 : Int32) (σ : St) : Kon X 2 yX7_isContest cX7_isContest 3 (some .boolean) gI [.ref (adr X 7 0), .int p1, .int p2] σ (fX7_isContest p1 p2 σ) := by
  refine konJ (own := RX7) (fun _ => gI) (fun a b => [.ref (a 7 0), .int p1, .int p2]) (by decide +kernel) rfl (fun _ _ => Nat.le_of_ble_eq_true rfl) (fun Y C M => ?_)
  show V Y gI 0 [(0, .ref (adr Y 7 0)), (1, .int p1), (2, .int p2)] [] σ (fX7_isContest p1 p2 σ)
  unfold fX7_isContest
  refine v_iload_n 1 C dX7_isContest_0 rfl ?_
  refine v_cS1p C dX7_isContest_1 ls_X7_128 (kX7_isPass p1 _) (by decide) (Nat.le_of_ble_eq_true rfl) ?_
  refine v_if_eq (tgt := 19) C dX7_isContest_4 (by decide) ?_ ?_
  · skip
    refine v_iconst C dX7_isContest_19 kc_iconst_0 ?_
    exact v_zret C M (by decide) dX7_isContest_20
  · skip
    refine v_aload_n 0 C dX7_isContest_7 rfl ?_
    refine v_iload_n 2 C dX7_isContest_8 rfl ?_
    refine v_cV1i C dX7_isContest_9 lv_X7_211 ck_7 (kX7_isSet p2 _) (by decide) (Nat.le_of_ble_eq_true rfl) (fun r2 σ1 => ?_)
    refine v_cut (pcJ := 20) (lv := [(0, .ref (adr Y 7 0)), (1, .int p1), (2, .int p2)]) (st := .int (if r2 = 0 then 0 else (nI 1)) :: []) ?_ (fun hj3 => ?_)
    rotate_left
    · skip
      refine v_if_eq_b (tgt := 19) C dX7_isContest_12 (by decide) (fun h4 => ?_) (fun h4 => ?_)
      · have hj5 := v_jpos h4 hj3
        refine v_iconst C dX7_isContest_19 kc_iconst_0 ?_
        exact hj5
      · have hj5 := v_jneg h4 hj3
        refine v_iconst C dX7_isContest_15 kc_iconst_1 ?_
        refine v_goto (tgt := 20) C dX7_isContest_16 (by decide) ?_
        exact hj5
    exact v_zretg C M dX7_isContest_20
-- OpenLines accepts(ZZ)Z, depth 0
def fX7_accepts (p1 : Int32) (p2 : Int32) (σ : St) : Option (Int32 × St) :=
  lt (wI σ 7 0 10 (if p1 = 0 then (nI 1) else (if p2 = 0 then (nI 2) else 0))) fun (σ6 : St) => rz (if (σ6.1 7 0 10) = 0 then (nI 1) else 0) σ6
set_option maxRecDepth 20000 in
theorem kX7_accepts {X : Cx} (p1 : Int32) (p2 : Int32) (σ : St) : Kon X 0 yX7_accepts cX7_accepts 3 (some .boolean) gI [.ref (adr X 7 0), .int p1, .int p2] σ (fX7_accepts p1 p2 σ) := by
  refine konJ (own := RX7) (fun _ => gI) (fun a b => [.ref (a 7 0), .int p1, .int p2]) (by decide +kernel) rfl (fun _ _ => Nat.le_of_ble_eq_true rfl) (fun Y C M => ?_)
  show V Y gI 0 [(0, .ref (adr Y 7 0)), (1, .int p1), (2, .int p2)] [] σ (fX7_accepts p1 p2 σ)
  unfold fX7_accepts
  refine v_aload_n 0 C dX7_accepts_0 rfl ?_
  refine v_iload_n 1 C dX7_accepts_1 rfl ?_
  refine v_cut (pcJ := 18) (lv := [(0, .ref (adr Y 7 0)), (1, .int p1), (2, .int p2)]) (st := .int (if p1 = 0 then (nI 1) else (if p2 = 0 then (nI 2) else 0)) :: [.ref (adr Y 7 0)]) ?_ (fun hj1 => ?_)
  rotate_left
  · skip
    refine v_if_ne_b (tgt := 9) C dX7_accepts_2 (by decide) (fun h2 => ?_) (fun h2 => ?_)
    · have hj3 := v_jneg h2 hj1
      refine v_iload_n 2 C dX7_accepts_9 rfl ?_
      refine v_if_ne_b (tgt := 17) C dX7_accepts_10 (by decide) (fun h4 => ?_) (fun h4 => ?_)
      · have hj5 := v_jneg h4 hj3
        refine v_iconst C dX7_accepts_17 kc_iconst_0 ?_
        exact hj5
      · have hj5 := v_jpos h4 hj3
        refine v_iconst C dX7_accepts_13 kc_iconst_2 ?_
        refine v_goto (tgt := 18) C dX7_accepts_14 (by decide) ?_
        exact hj5
    · have hj3 := v_jpos h2 hj1
      refine v_iconst C dX7_accepts_5 kc_iconst_1 ?_
      refine v_goto (tgt := 18) C dX7_accepts_6 (by decide) ?_
      exact hj3
  refine v_putiL C dX7_accepts_18 lp_X7_102 ck_7 (by decide) (fun σ6 => ?_)
  refine v_aload_n 0 C dX7_accepts_21 rfl ?_
  refine v_geti C dX7_accepts_22 lf_X7_102 ck_7 (by decide) ?_
  refine v_cut (pcJ := 33) (lv := [(0, .ref (adr Y 7 0)), (1, .int p1), (2, .int p2)]) (st := .int (if (σ6.1 7 0 10) = 0 then (nI 1) else 0) :: []) ?_ (fun hj7 => ?_)
  rotate_left
  · skip
    refine v_if_ne_b (tgt := 32) C dX7_accepts_25 (by decide) (fun h8 => ?_) (fun h8 => ?_)
    · have hj9 := v_jneg h8 hj7
      refine v_iconst C dX7_accepts_32 kc_iconst_0 ?_
      exact hj9
    · have hj9 := v_jpos h8 hj7
      refine v_iconst C dX7_accepts_28 kc_iconst_1 ?_
      refine v_goto (tgt := 33) C dX7_accepts_29 (by decide) ?_
      exact hj9
  exact v_zretg C M dX7_accepts_33
-- OpenLines laid(I)LOpenLines$Pass;, depth 3
def fX7_laid (p1 : Int32) (σ : St) : Option (Unit × St) :=
  gd (σ.2.2 7 0 6 < 6) <| bd (fX4_linesThat 0 (nI 1) σ) fun (r3 : Int32) (σ2 : St) => bd (fX4_linesThat 0 (nI 2) σ2) fun (r5 : Int32) (σ4 : St) => bd (fX1_wire (σ.2.2 7 0 6) r3 r5 σ4) fun _ (σ6 : St) => (jn (fun (c8 : Nat) (k9 : Nat) (σ7 : St) => gd (¬ (0 : Int32) < 0 ∧ ¬ (0 : Int32) < 0 ∧ ¬ ((nI 6) : Int32) < 0 ∧ (0 : Int32).toNatClampNeg + (nI 6).toNatClampNeg ≤ 6 ∧ (0 : Int32).toNatClampNeg + (nI 6).toNatClampNeg ≤ 6) <| lt (wA σ7 10 0 (va_cpy (σ7.1 c8 k9) (σ7.1 10 0) ((0 : Int32).toNatClampNeg) ((0 : Int32).toNatClampNeg) ((nI 6).toNatClampNeg))) fun (σ13 : St) => some ((), σ13)) fun j54 => if p1 = (nI 1) then bd (fX4_rankWords 0 σ6) fun _ (σ15 : St) => j54 31 0 σ15 else gd (σ6.2.2 7 0 6 < 6) <| j54 27 (σ6.2.2 7 0 6) σ6)
set_option maxRecDepth 20000 in
theorem kX7_laid {X : Cx} (p1 : Int32) (σ : St) : Kon X 3 yX7_laid cX7_laid 3 (some (.object "OpenLines$Pass")) (fun _ => some (.ref (adr X 1 0))) [.ref (adr X 7 0), .int p1] σ (fX7_laid p1 σ) := by
  refine konJ (own := RX7) (fun a _ => some (.ref (a 1 0))) (fun a b => [.ref (a 7 0), .int p1]) (by decide +kernel) rfl (fun _ _ => Nat.le_of_ble_eq_true rfl) (fun Y C M => ?_)
  show V Y (fun _ => some (.ref (adr Y 1 0))) 0 [(0, .ref (adr Y 7 0)), (1, .int p1)] [] σ (fX7_laid p1 σ)
  unfold fX7_laid
  refine v_aload_n 0 C dX7_laid_0 rfl ?_
  refine v_getk C dX7_laid_1 lf_X7_28 ck_7 rfl ?_
  refine v_getc C dX7_laid_4 lf_X7_308 ck_0 rfl ?_
  refine v_astore_n (lv' := [(2, .ref (adr Y 1 0)), (0, .ref (adr Y 7 0)), (1, .int p1)]) C dX7_laid_7 rfl (by decide) rfl ?_
  refine v_aload_n 0 C dX7_laid_8 rfl ?_
  refine v_aload_n 1 C dX7_laid_9 rfl ?_
  refine v_getr C dX7_laid_10 lf_X7_48 ck_7 rfl rfl (fun hq1 => ?_)
  refine v_aload_n 1 C dX7_laid_13 rfl ?_
  refine v_getk C dX7_laid_14 lf_X7_35 ck_7 rfl ?_
  refine v_iconst C dX7_laid_17 kc_iconst_1 ?_
  refine v_cV1i C dX7_laid_18 lv_X7_312 ck_4 (kX4_linesThat 0 (nI 1) ck_4 _) (by decide) (Nat.le_of_ble_eq_true rfl) (fun r3 σ2 => ?_)
  refine v_aload_n 1 C dX7_laid_21 rfl ?_
  refine v_getk C dX7_laid_22 lf_X7_35 ck_7 rfl ?_
  refine v_iconst C dX7_laid_25 kc_iconst_2 ?_
  refine v_cV1i C dX7_laid_26 lv_X7_312 ck_4 (kX4_linesThat 0 (nI 2) ck_4 _) (by decide) (Nat.le_of_ble_eq_true rfl) (fun r5 σ4 => ?_)
  refine v_cV3v C dX7_laid_29 lv_X7_315 ck_1 (kX1_wire (σ.2.2 7 0 6) r3 r5 hq1 _) (by decide) (Nat.le_of_ble_eq_true rfl) (fun _ σ6 => ?_)
  refine v_iload_n 2 C dX7_laid_32 rfl ?_
  refine v_iconst C dX7_laid_33 kc_iconst_1 ?_
  refine v_jn (fun j54 => ∀ (c8 : Nat) (k9 : Nat) (σ7 : St), akd c8 = 1 → k9 < cnt c8 → aln c8 = 6 → V Y (fun _ => some (.ref (adr Y 1 0))) 54 [(2, .ref (adr Y 1 0))] [.ref (adr Y c8 k9)] σ7 (j54 c8 k9 σ7)) ?_ ?_
  · intro c8 k9 σ7 ha10 hk11 hn12
    refine v_iconst C dX7_laid_54 kc_iconst_0 ?_
    refine v_aload_n 0 C dX7_laid_55 rfl ?_
    refine v_getc C dX7_laid_56 lf_X7_319 ck_1 rfl ?_
    refine v_iconst C dX7_laid_59 kc_iconst_0 ?_
    refine v_bipush C dX7_laid_60 kc_bipush_6 ?_
    refine v_acopyL C dX7_laid_62 ac_X7_322 (by decide) (Nat.le_of_ble_eq_true rfl) hk11 ha10 hn12 ck_10 (by decide) rfl (fun σ13 => ?_)
    refine v_aload_n 0 C dX7_laid_65 rfl ?_
    exact v_aretU C M (by first | exact Or.inl ⟨_, rfl⟩ | exact Or.inr ⟨_, rfl⟩) dX7_laid_66
  · intro j54 hj54
    refine v_icmp_ne (tgt := 47) C dX7_laid_34 (by decide) ?_ ?_
    · skip
      refine v_aload_n 1 C dX7_laid_47 rfl ?_
      refine v_getr C dX7_laid_48 lf_X7_48 ck_7 rfl rfl (fun hq14 => ?_)
      refine v_getc C dX7_laid_51 lf_X7_135 hq14 rfl ?_
      exact v_lv (hj54 27 (σ6.2.2 7 0 6) σ6 (by decide) hq14 rfl) [0] rfl
    · skip
      refine v_aload_n 1 C dX7_laid_37 rfl ?_
      refine v_getk C dX7_laid_38 lf_X7_35 ck_7 rfl ?_
      refine v_cV0u C dX7_laid_41 lv_X7_131 ck_4 (kX4_rankWords 0 ck_4 _) (by decide) (Nat.le_of_ble_eq_true rfl) (fun _ σ15 => ?_)
      refine v_goto (tgt := 54) C dX7_laid_44 (by decide) ?_
      exact v_lv (hj54 31 0 σ15 (by decide) ck_4 rfl) [0] rfl
-- OpenLines played(II)LOpenLines$Pass;, depth 4
def fX7_played (p1 : Int32) (p2 : Int32) (σ : St) : Option (Unit × St) :=
  bd (fX7_laid p1 σ) fun _ (σ1 : St) => gd (σ1.2.2 7 0 6 < 6) <| bd (fX1_play p2 (σ1.1 2 (σ1.2.2 7 0 6) 1) (nI 400) σ1) fun _ (σ3 : St) => some ((), σ3)
set_option maxRecDepth 20000 in
theorem kX7_played {X : Cx} (p1 : Int32) (p2 : Int32) (σ : St) : Kon X 4 yX7_played cX7_played 4 (some (.object "OpenLines$Pass")) (fun _ => some (.ref (adr X 1 0))) [.ref (adr X 7 0), .int p1, .int p2] σ (fX7_played p1 p2 σ) := by
  refine konJ (own := RX7) (fun a _ => some (.ref (a 1 0))) (fun a b => [.ref (a 7 0), .int p1, .int p2]) (by decide +kernel) rfl (fun _ _ => Nat.le_of_ble_eq_true rfl) (fun Y C M => ?_)
  show V Y (fun _ => some (.ref (adr Y 1 0))) 0 [(0, .ref (adr Y 7 0)), (1, .int p1), (2, .int p2)] [] σ (fX7_played p1 p2 σ)
  unfold fX7_played
  refine v_aload_n 0 C dX7_played_0 rfl ?_
  refine v_iload_n 1 C dX7_played_1 rfl ?_
  refine v_cV1u C dX7_played_2 lv_X7_177 ck_7 (kX7_laid p1 _) (by decide) (Nat.le_of_ble_eq_true rfl) (fun _ σ1 => ?_)
  refine v_astore_n (lv' := [(3, .ref (adr Y 1 0)), (0, .ref (adr Y 7 0)), (1, .int p1), (2, .int p2)]) C dX7_played_5 rfl (by decide) rfl ?_
  refine v_aload_n 0 C dX7_played_6 rfl ?_
  refine v_iload_n 3 C dX7_played_7 rfl ?_
  refine v_aload_n 1 C dX7_played_8 rfl ?_
  refine v_getr C dX7_played_9 lf_X7_48 ck_7 rfl rfl (fun hq2 => ?_)
  refine v_geti C dX7_played_12 lf_X7_203 hq2 (by decide) ?_
  refine v_sipush C dX7_played_15 kc_sipush_400 ?_
  refine v_cV3v C dX7_played_18 lv_X7_193 ck_1 (kX1_play p2 (σ1.1 2 (σ1.2.2 7 0 6) 1) (nI 400) _) (by decide) (Nat.le_of_ble_eq_true rfl) (fun _ σ3 => ?_)
  refine v_aload_n 0 C dX7_played_21 rfl ?_
  exact v_aretU C M (by first | exact Or.inl ⟨_, rfl⟩ | exact Or.inr ⟨_, rfl⟩) dX7_played_22
-- OpenLines drives(IIII)I, depth 5
def fX7_drives (p1 : Int32) (p2 : Int32) (p3 : Int32) (p4 : Int32) (σ : St) : Option (Int32 × St) :=
  bd (fX7_hasBoard p3 σ) fun (r2 : Int32) (σ1 : St) => bd (fX7_isContest p1 p2 σ1) fun (r4 : Int32) (σ3 : St) => bd (fX7_accepts r2 (if r4 = 0 then 0 else (if (fX7_isTick p4) = 0 then 0 else (nI 1))) σ3) fun (r11 : Int32) (σ10 : St) => (if r11 = 0 then some ((-1), σ10) else bd (fX7_played p1 p2 σ10) fun _ (σ12 : St) => bd (fX1_drivenAt p3 p4 σ12) fun (r14 : Int32) (σ13 : St) => some (r14, σ13))
set_option maxRecDepth 20000 in
theorem kX7_drives {X : Cx} (p1 : Int32) (p2 : Int32) (p3 : Int32) (p4 : Int32) (σ : St) : Kon X 5 yX7_drives cX7_drives 5 (some .int) gI [.ref (adr X 7 0), .int p1, .int p2, .int p3, .int p4] σ (fX7_drives p1 p2 p3 p4 σ) := by
  refine konJ (own := RX7) (fun _ => gI) (fun a b => [.ref (a 7 0), .int p1, .int p2, .int p3, .int p4]) (by decide +kernel) rfl (fun _ _ => Nat.le_of_ble_eq_true rfl) (fun Y C M => ?_)
  show V Y gI 0 [(0, .ref (adr Y 7 0)), (1, .int p1), (2, .int p2), (3, .int p3), (4, .int p4)] [] σ (fX7_drives p1 p2 p3 p4 σ)
  unfold fX7_drives
  refine v_aload_n 0 C dX7_drives_0 rfl ?_
  refine v_aload_n 0 C dX7_drives_1 rfl ?_
  refine v_iload_n 3 C dX7_drives_2 rfl ?_
  refine v_cV1i C dX7_drives_3 lv_X7_115 ck_7 (kX7_hasBoard p3 _) (by decide) (Nat.le_of_ble_eq_true rfl) (fun r2 σ1 => ?_)
  refine v_aload_n 0 C dX7_drives_6 rfl ?_
  refine v_iload_n 1 C dX7_drives_7 rfl ?_
  refine v_iload_n 2 C dX7_drives_8 rfl ?_
  refine v_cV2i C dX7_drives_9 lv_X7_139 ck_7 (kX7_isContest p1 p2 _) (by decide) (Nat.le_of_ble_eq_true rfl) (fun r4 σ3 => ?_)
  refine v_cut (pcJ := 28) (lv := [(0, .ref (adr Y 7 0)), (1, .int p1), (2, .int p2), (3, .int p3), (4, .int p4)]) (st := .int (if r4 = 0 then 0 else (if (fX7_isTick p4) = 0 then 0 else (nI 1))) :: [.int r2, .ref (adr Y 7 0)]) ?_ (fun hj5 => ?_)
  rotate_left
  · skip
    refine v_if_eq_b (tgt := 27) C dX7_drives_12 (by decide) (fun h6 => ?_) (fun h6 => ?_)
    · have hj7 := v_jpos h6 hj5
      refine v_iconst C dX7_drives_27 kc_iconst_0 ?_
      exact hj7
    · have hj7 := v_jneg h6 hj5
      refine v_iload 4 C dX7_drives_15 rfl ?_
      refine v_cS1p C dX7_drives_17 ls_X7_142 (kX7_isTick p4 _) (by decide) (Nat.le_of_ble_eq_true rfl) ?_
      refine v_if_eq_b (tgt := 27) C dX7_drives_20 (by decide) (fun h8 => ?_) (fun h8 => ?_)
      · have hj9 := v_jpos h8 hj7
        refine v_iconst C dX7_drives_27 kc_iconst_0 ?_
        exact hj9
      · have hj9 := v_jneg h8 hj7
        refine v_iconst C dX7_drives_23 kc_iconst_1 ?_
        refine v_goto (tgt := 28) C dX7_drives_24 (by decide) ?_
        exact hj9
  refine v_cV2i C dX7_drives_28 lv_X7_145 ck_7 (kX7_accepts r2 (if r4 = 0 then 0 else (if (fX7_isTick p4) = 0 then 0 else (nI 1))) _) (by decide) (Nat.le_of_ble_eq_true rfl) (fun r11 σ10 => ?_)
  refine v_if_ne (tgt := 36) C dX7_drives_31 (by decide) ?_ ?_
  · skip
    refine v_aload_n 0 C dX7_drives_36 rfl ?_
    refine v_iload_n 1 C dX7_drives_37 rfl ?_
    refine v_iload_n 2 C dX7_drives_38 rfl ?_
    refine v_cV2u C dX7_drives_39 lv_X7_149 ck_7 (kX7_played p1 p2 _) (by decide) (Nat.le_of_ble_eq_true rfl) (fun _ σ12 => ?_)
    refine v_iload_n 3 C dX7_drives_42 rfl ?_
    refine v_iload 4 C dX7_drives_43 rfl ?_
    refine v_cV2i C dX7_drives_45 lv_X7_153 ck_1 (kX1_drivenAt p3 p4 _) (by decide) (Nat.le_of_ble_eq_true rfl) (fun r14 σ13 => ?_)
    exact v_iret C M dX7_drives_48
  · skip
    refine v_iconst C dX7_drives_34 kc_iconst_m1 ?_
    exact v_iret C M dX7_drives_35
-- OpenLines seen(IIII)I, depth 5
def fX7_seen (p1 : Int32) (p2 : Int32) (p3 : Int32) (p4 : Int32) (σ : St) : Option (Int32 × St) :=
  bd (fX7_hasBoard p3 σ) fun (r2 : Int32) (σ1 : St) => bd (fX7_isContest p1 p2 σ1) fun (r4 : Int32) (σ3 : St) => bd (fX7_accepts r2 (if r4 = 0 then 0 else (if (fX7_isTick p4) = 0 then 0 else (nI 1))) σ3) fun (r11 : Int32) (σ10 : St) => (if r11 = 0 then some ((-1), σ10) else bd (fX7_played p1 p2 σ10) fun _ (σ12 : St) => bd (fX1_sightAt p3 p4 σ12) fun (r14 : Int32) (σ13 : St) => some (r14, σ13))
set_option maxRecDepth 20000 in
theorem kX7_seen {X : Cx} (p1 : Int32) (p2 : Int32) (p3 : Int32) (p4 : Int32) (σ : St) : Kon X 5 yX7_seen cX7_seen 5 (some .int) gI [.ref (adr X 7 0), .int p1, .int p2, .int p3, .int p4] σ (fX7_seen p1 p2 p3 p4 σ) := by
  refine konJ (own := RX7) (fun _ => gI) (fun a b => [.ref (a 7 0), .int p1, .int p2, .int p3, .int p4]) (by decide +kernel) rfl (fun _ _ => Nat.le_of_ble_eq_true rfl) (fun Y C M => ?_)
  show V Y gI 0 [(0, .ref (adr Y 7 0)), (1, .int p1), (2, .int p2), (3, .int p3), (4, .int p4)] [] σ (fX7_seen p1 p2 p3 p4 σ)
  unfold fX7_seen
  refine v_aload_n 0 C dX7_seen_0 rfl ?_
  refine v_aload_n 0 C dX7_seen_1 rfl ?_
  refine v_iload_n 3 C dX7_seen_2 rfl ?_
  refine v_cV1i C dX7_seen_3 lv_X7_115 ck_7 (kX7_hasBoard p3 _) (by decide) (Nat.le_of_ble_eq_true rfl) (fun r2 σ1 => ?_)
  refine v_aload_n 0 C dX7_seen_6 rfl ?_
  refine v_iload_n 1 C dX7_seen_7 rfl ?_
  refine v_iload_n 2 C dX7_seen_8 rfl ?_
  refine v_cV2i C dX7_seen_9 lv_X7_139 ck_7 (kX7_isContest p1 p2 _) (by decide) (Nat.le_of_ble_eq_true rfl) (fun r4 σ3 => ?_)
  refine v_cut (pcJ := 28) (lv := [(0, .ref (adr Y 7 0)), (1, .int p1), (2, .int p2), (3, .int p3), (4, .int p4)]) (st := .int (if r4 = 0 then 0 else (if (fX7_isTick p4) = 0 then 0 else (nI 1))) :: [.int r2, .ref (adr Y 7 0)]) ?_ (fun hj5 => ?_)
  rotate_left
  · skip
    refine v_if_eq_b (tgt := 27) C dX7_seen_12 (by decide) (fun h6 => ?_) (fun h6 => ?_)
    · have hj7 := v_jpos h6 hj5
      refine v_iconst C dX7_seen_27 kc_iconst_0 ?_
      exact hj7
    · have hj7 := v_jneg h6 hj5
      refine v_iload 4 C dX7_seen_15 rfl ?_
      refine v_cS1p C dX7_seen_17 ls_X7_142 (kX7_isTick p4 _) (by decide) (Nat.le_of_ble_eq_true rfl) ?_
      refine v_if_eq_b (tgt := 27) C dX7_seen_20 (by decide) (fun h8 => ?_) (fun h8 => ?_)
      · have hj9 := v_jpos h8 hj7
        refine v_iconst C dX7_seen_27 kc_iconst_0 ?_
        exact hj9
      · have hj9 := v_jneg h8 hj7
        refine v_iconst C dX7_seen_23 kc_iconst_1 ?_
        refine v_goto (tgt := 28) C dX7_seen_24 (by decide) ?_
        exact hj9
  refine v_cV2i C dX7_seen_28 lv_X7_145 ck_7 (kX7_accepts r2 (if r4 = 0 then 0 else (if (fX7_isTick p4) = 0 then 0 else (nI 1))) _) (by decide) (Nat.le_of_ble_eq_true rfl) (fun r11 σ10 => ?_)
  refine v_if_ne (tgt := 36) C dX7_seen_31 (by decide) ?_ ?_
  · skip
    refine v_aload_n 0 C dX7_seen_36 rfl ?_
    refine v_iload_n 1 C dX7_seen_37 rfl ?_
    refine v_iload_n 2 C dX7_seen_38 rfl ?_
    refine v_cV2u C dX7_seen_39 lv_X7_149 ck_7 (kX7_played p1 p2 _) (by decide) (Nat.le_of_ble_eq_true rfl) (fun _ σ12 => ?_)
    refine v_iload_n 3 C dX7_seen_42 rfl ?_
    refine v_iload 4 C dX7_seen_43 rfl ?_
    refine v_cV2i C dX7_seen_45 lv_X7_158 ck_1 (kX1_sightAt p3 p4 _) (by decide) (Nat.le_of_ble_eq_true rfl) (fun r14 σ13 => ?_)
    exact v_iret C M dX7_seen_48
  · skip
    refine v_iconst C dX7_seen_34 kc_iconst_m1 ?_
    exact v_iret C M dX7_seen_35
-- OpenLines taken(IIII)I, depth 5
def fX7_taken (p1 : Int32) (p2 : Int32) (p3 : Int32) (p4 : Int32) (σ : St) : Option (Int32 × St) :=
  bd (fX7_hasBoard p3 σ) fun (r2 : Int32) (σ1 : St) => bd (fX7_isContest p1 p2 σ1) fun (r4 : Int32) (σ3 : St) => bd (fX7_accepts r2 (if r4 = 0 then 0 else (if (fX7_isTick p4) = 0 then 0 else (nI 1))) σ3) fun (r11 : Int32) (σ10 : St) => (if r11 = 0 then some ((-1), σ10) else bd (fX7_played p1 p2 σ10) fun _ (σ12 : St) => bd (fX1_believedAt p3 p4 σ12) fun (r14 : Int32) (σ13 : St) => some (r14, σ13))
set_option maxRecDepth 20000 in
theorem kX7_taken {X : Cx} (p1 : Int32) (p2 : Int32) (p3 : Int32) (p4 : Int32) (σ : St) : Kon X 5 yX7_taken cX7_taken 5 (some .int) gI [.ref (adr X 7 0), .int p1, .int p2, .int p3, .int p4] σ (fX7_taken p1 p2 p3 p4 σ) := by
  refine konJ (own := RX7) (fun _ => gI) (fun a b => [.ref (a 7 0), .int p1, .int p2, .int p3, .int p4]) (by decide +kernel) rfl (fun _ _ => Nat.le_of_ble_eq_true rfl) (fun Y C M => ?_)
  show V Y gI 0 [(0, .ref (adr Y 7 0)), (1, .int p1), (2, .int p2), (3, .int p3), (4, .int p4)] [] σ (fX7_taken p1 p2 p3 p4 σ)
  unfold fX7_taken
  refine v_aload_n 0 C dX7_taken_0 rfl ?_
  refine v_aload_n 0 C dX7_taken_1 rfl ?_
  refine v_iload_n 3 C dX7_taken_2 rfl ?_
  refine v_cV1i C dX7_taken_3 lv_X7_115 ck_7 (kX7_hasBoard p3 _) (by decide) (Nat.le_of_ble_eq_true rfl) (fun r2 σ1 => ?_)
  refine v_aload_n 0 C dX7_taken_6 rfl ?_
  refine v_iload_n 1 C dX7_taken_7 rfl ?_
  refine v_iload_n 2 C dX7_taken_8 rfl ?_
  refine v_cV2i C dX7_taken_9 lv_X7_139 ck_7 (kX7_isContest p1 p2 _) (by decide) (Nat.le_of_ble_eq_true rfl) (fun r4 σ3 => ?_)
  refine v_cut (pcJ := 28) (lv := [(0, .ref (adr Y 7 0)), (1, .int p1), (2, .int p2), (3, .int p3), (4, .int p4)]) (st := .int (if r4 = 0 then 0 else (if (fX7_isTick p4) = 0 then 0 else (nI 1))) :: [.int r2, .ref (adr Y 7 0)]) ?_ (fun hj5 => ?_)
  rotate_left
  · skip
    refine v_if_eq_b (tgt := 27) C dX7_taken_12 (by decide) (fun h6 => ?_) (fun h6 => ?_)
    · have hj7 := v_jpos h6 hj5
      refine v_iconst C dX7_taken_27 kc_iconst_0 ?_
      exact hj7
    · have hj7 := v_jneg h6 hj5
      refine v_iload 4 C dX7_taken_15 rfl ?_
      refine v_cS1p C dX7_taken_17 ls_X7_142 (kX7_isTick p4 _) (by decide) (Nat.le_of_ble_eq_true rfl) ?_
      refine v_if_eq_b (tgt := 27) C dX7_taken_20 (by decide) (fun h8 => ?_) (fun h8 => ?_)
      · have hj9 := v_jpos h8 hj7
        refine v_iconst C dX7_taken_27 kc_iconst_0 ?_
        exact hj9
      · have hj9 := v_jneg h8 hj7
        refine v_iconst C dX7_taken_23 kc_iconst_1 ?_
        refine v_goto (tgt := 28) C dX7_taken_24 (by decide) ?_
        exact hj9
  refine v_cV2i C dX7_taken_28 lv_X7_145 ck_7 (kX7_accepts r2 (if r4 = 0 then 0 else (if (fX7_isTick p4) = 0 then 0 else (nI 1))) _) (by decide) (Nat.le_of_ble_eq_true rfl) (fun r11 σ10 => ?_)
  refine v_if_ne (tgt := 36) C dX7_taken_31 (by decide) ?_ ?_
  · skip
    refine v_aload_n 0 C dX7_taken_36 rfl ?_
    refine v_iload_n 1 C dX7_taken_37 rfl ?_
    refine v_iload_n 2 C dX7_taken_38 rfl ?_
    refine v_cV2u C dX7_taken_39 lv_X7_149 ck_7 (kX7_played p1 p2 _) (by decide) (Nat.le_of_ble_eq_true rfl) (fun _ σ12 => ?_)
    refine v_iload_n 3 C dX7_taken_42 rfl ?_
    refine v_iload 4 C dX7_taken_43 rfl ?_
    refine v_cV2i C dX7_taken_45 lv_X7_161 ck_1 (kX1_believedAt p3 p4 _) (by decide) (Nat.le_of_ble_eq_true rfl) (fun r14 σ13 => ?_)
    exact v_iret C M dX7_taken_48
  · skip
    refine v_iconst C dX7_taken_34 kc_iconst_m1 ?_
    exact v_iret C M dX7_taken_35
-- OpenLines withdrawn(IIII)I, depth 5
def fX7_withdrawn (p1 : Int32) (p2 : Int32) (p3 : Int32) (p4 : Int32) (σ : St) : Option (Int32 × St) :=
  bd (fX7_hasBoard p3 σ) fun (r2 : Int32) (σ1 : St) => bd (fX7_isContest p1 p2 σ1) fun (r4 : Int32) (σ3 : St) => bd (fX7_accepts r2 (if r4 = 0 then 0 else (if (fX7_isTick p4) = 0 then 0 else (nI 1))) σ3) fun (r11 : Int32) (σ10 : St) => (if r11 = 0 then some ((-1), σ10) else bd (fX7_played p1 p2 σ10) fun _ (σ12 : St) => bd (fX1_yieldedAt p3 p4 σ12) fun (r14 : Int32) (σ13 : St) => some (r14, σ13))
set_option maxRecDepth 20000 in
theorem kX7_withdrawn {X : Cx} (p1 : Int32) (p2 : Int32) (p3 : Int32) (p4 : Int32) (σ : St) : Kon X 5 yX7_withdrawn cX7_withdrawn 5 (some .int) gI [.ref (adr X 7 0), .int p1, .int p2, .int p3, .int p4] σ (fX7_withdrawn p1 p2 p3 p4 σ) := by
  refine konJ (own := RX7) (fun _ => gI) (fun a b => [.ref (a 7 0), .int p1, .int p2, .int p3, .int p4]) (by decide +kernel) rfl (fun _ _ => Nat.le_of_ble_eq_true rfl) (fun Y C M => ?_)
  show V Y gI 0 [(0, .ref (adr Y 7 0)), (1, .int p1), (2, .int p2), (3, .int p3), (4, .int p4)] [] σ (fX7_withdrawn p1 p2 p3 p4 σ)
  unfold fX7_withdrawn
  refine v_aload_n 0 C dX7_withdrawn_0 rfl ?_
  refine v_aload_n 0 C dX7_withdrawn_1 rfl ?_
  refine v_iload_n 3 C dX7_withdrawn_2 rfl ?_
  refine v_cV1i C dX7_withdrawn_3 lv_X7_115 ck_7 (kX7_hasBoard p3 _) (by decide) (Nat.le_of_ble_eq_true rfl) (fun r2 σ1 => ?_)
  refine v_aload_n 0 C dX7_withdrawn_6 rfl ?_
  refine v_iload_n 1 C dX7_withdrawn_7 rfl ?_
  refine v_iload_n 2 C dX7_withdrawn_8 rfl ?_
  refine v_cV2i C dX7_withdrawn_9 lv_X7_139 ck_7 (kX7_isContest p1 p2 _) (by decide) (Nat.le_of_ble_eq_true rfl) (fun r4 σ3 => ?_)
  refine v_cut (pcJ := 28) (lv := [(0, .ref (adr Y 7 0)), (1, .int p1), (2, .int p2), (3, .int p3), (4, .int p4)]) (st := .int (if r4 = 0 then 0 else (if (fX7_isTick p4) = 0 then 0 else (nI 1))) :: [.int r2, .ref (adr Y 7 0)]) ?_ (fun hj5 => ?_)
  rotate_left
  · skip
    refine v_if_eq_b (tgt := 27) C dX7_withdrawn_12 (by decide) (fun h6 => ?_) (fun h6 => ?_)
    · have hj7 := v_jpos h6 hj5
      refine v_iconst C dX7_withdrawn_27 kc_iconst_0 ?_
      exact hj7
    · have hj7 := v_jneg h6 hj5
      refine v_iload 4 C dX7_withdrawn_15 rfl ?_
      refine v_cS1p C dX7_withdrawn_17 ls_X7_142 (kX7_isTick p4 _) (by decide) (Nat.le_of_ble_eq_true rfl) ?_
      refine v_if_eq_b (tgt := 27) C dX7_withdrawn_20 (by decide) (fun h8 => ?_) (fun h8 => ?_)
      · have hj9 := v_jpos h8 hj7
        refine v_iconst C dX7_withdrawn_27 kc_iconst_0 ?_
        exact hj9
      · have hj9 := v_jneg h8 hj7
        refine v_iconst C dX7_withdrawn_23 kc_iconst_1 ?_
        refine v_goto (tgt := 28) C dX7_withdrawn_24 (by decide) ?_
        exact hj9
  refine v_cV2i C dX7_withdrawn_28 lv_X7_145 ck_7 (kX7_accepts r2 (if r4 = 0 then 0 else (if (fX7_isTick p4) = 0 then 0 else (nI 1))) _) (by decide) (Nat.le_of_ble_eq_true rfl) (fun r11 σ10 => ?_)
  refine v_if_ne (tgt := 36) C dX7_withdrawn_31 (by decide) ?_ ?_
  · skip
    refine v_aload_n 0 C dX7_withdrawn_36 rfl ?_
    refine v_iload_n 1 C dX7_withdrawn_37 rfl ?_
    refine v_iload_n 2 C dX7_withdrawn_38 rfl ?_
    refine v_cV2u C dX7_withdrawn_39 lv_X7_149 ck_7 (kX7_played p1 p2 _) (by decide) (Nat.le_of_ble_eq_true rfl) (fun _ σ12 => ?_)
    refine v_iload_n 3 C dX7_withdrawn_42 rfl ?_
    refine v_iload 4 C dX7_withdrawn_43 rfl ?_
    refine v_cV2i C dX7_withdrawn_45 lv_X7_164 ck_1 (kX1_yieldedAt p3 p4 _) (by decide) (Nat.le_of_ble_eq_true rfl) (fun r14 σ13 => ?_)
    exact v_iret C M dX7_withdrawn_48
  · skip
    refine v_iconst C dX7_withdrawn_34 kc_iconst_m1 ?_
    exact v_iret C M dX7_withdrawn_35
-- OpenLines winners(III)I, depth 5
def fX7_winners (p1 : Int32) (p2 : Int32) (p3 : Int32) (σ : St) : Option (Int32 × St) :=
  bd (fX7_isContest p1 p2 σ) fun (r2 : Int32) (σ1 : St) => bd (fX7_accepts (σ.1 7 0 8) (if r2 = 0 then 0 else (if (fX7_isTick p3) = 0 then 0 else (nI 1))) σ1) fun (r9 : Int32) (σ8 : St) => (if r9 = 0 then some ((-1), σ8) else bd (fX7_played p1 p2 σ8) fun _ (σ10 : St) => bd (fX1_winnersAt p3 σ10) fun (r12 : Int32) (σ11 : St) => some (r12, σ11))
set_option maxRecDepth 20000 in
theorem kX7_winners {X : Cx} (p1 : Int32) (p2 : Int32) (p3 : Int32) (σ : St) : Kon X 5 yX7_winners cX7_winners 4 (some .int) gI [.ref (adr X 7 0), .int p1, .int p2, .int p3] σ (fX7_winners p1 p2 p3 σ) := by
  refine konJ (own := RX7) (fun _ => gI) (fun a b => [.ref (a 7 0), .int p1, .int p2, .int p3]) (by decide +kernel) rfl (fun _ _ => Nat.le_of_ble_eq_true rfl) (fun Y C M => ?_)
  show V Y gI 0 [(0, .ref (adr Y 7 0)), (1, .int p1), (2, .int p2), (3, .int p3)] [] σ (fX7_winners p1 p2 p3 σ)
  unfold fX7_winners
  refine v_aload_n 0 C dX7_winners_0 rfl ?_
  refine v_aload_n 0 C dX7_winners_1 rfl ?_
  refine v_geti C dX7_winners_2 lf_X7_89 ck_7 (by decide) ?_
  refine v_aload_n 0 C dX7_winners_5 rfl ?_
  refine v_iload_n 1 C dX7_winners_6 rfl ?_
  refine v_iload_n 2 C dX7_winners_7 rfl ?_
  refine v_cV2i C dX7_winners_8 lv_X7_139 ck_7 (kX7_isContest p1 p2 _) (by decide) (Nat.le_of_ble_eq_true rfl) (fun r2 σ1 => ?_)
  refine v_cut (pcJ := 26) (lv := [(0, .ref (adr Y 7 0)), (1, .int p1), (2, .int p2), (3, .int p3)]) (st := .int (if r2 = 0 then 0 else (if (fX7_isTick p3) = 0 then 0 else (nI 1))) :: [.int (σ.1 7 0 8), .ref (adr Y 7 0)]) ?_ (fun hj3 => ?_)
  rotate_left
  · skip
    refine v_if_eq_b (tgt := 25) C dX7_winners_11 (by decide) (fun h4 => ?_) (fun h4 => ?_)
    · have hj5 := v_jpos h4 hj3
      refine v_iconst C dX7_winners_25 kc_iconst_0 ?_
      exact hj5
    · have hj5 := v_jneg h4 hj3
      refine v_iload_n 3 C dX7_winners_14 rfl ?_
      refine v_cS1p C dX7_winners_15 ls_X7_142 (kX7_isTick p3 _) (by decide) (Nat.le_of_ble_eq_true rfl) ?_
      refine v_if_eq_b (tgt := 25) C dX7_winners_18 (by decide) (fun h6 => ?_) (fun h6 => ?_)
      · have hj7 := v_jpos h6 hj5
        refine v_iconst C dX7_winners_25 kc_iconst_0 ?_
        exact hj7
      · have hj7 := v_jneg h6 hj5
        refine v_iconst C dX7_winners_21 kc_iconst_1 ?_
        refine v_goto (tgt := 26) C dX7_winners_22 (by decide) ?_
        exact hj7
  refine v_cV2i C dX7_winners_26 lv_X7_145 ck_7 (kX7_accepts (σ.1 7 0 8) (if r2 = 0 then 0 else (if (fX7_isTick p3) = 0 then 0 else (nI 1))) _) (by decide) (Nat.le_of_ble_eq_true rfl) (fun r9 σ8 => ?_)
  refine v_if_ne (tgt := 34) C dX7_winners_29 (by decide) ?_ ?_
  · skip
    refine v_aload_n 0 C dX7_winners_34 rfl ?_
    refine v_iload_n 1 C dX7_winners_35 rfl ?_
    refine v_iload_n 2 C dX7_winners_36 rfl ?_
    refine v_cV2u C dX7_winners_37 lv_X7_149 ck_7 (kX7_played p1 p2 _) (by decide) (Nat.le_of_ble_eq_true rfl) (fun _ σ10 => ?_)
    refine v_iload_n 3 C dX7_winners_40 rfl ?_
    refine v_cV1i C dX7_winners_41 lv_X7_167 ck_1 (kX1_winnersAt p3 _) (by decide) (Nat.le_of_ble_eq_true rfl) (fun r12 σ11 => ?_)
    exact v_iret C M dX7_winners_44
  · skip
    refine v_iconst C dX7_winners_32 kc_iconst_m1 ?_
    exact v_iret C M dX7_winners_33
-- OpenLines settles(II)I, depth 5
def fX7_settles (p1 : Int32) (p2 : Int32) (σ : St) : Option (Int32 × St) :=
  bd (fX7_isContest p1 p2 σ) fun (r2 : Int32) (σ1 : St) => bd (fX7_accepts (σ.1 7 0 8) r2 σ1) fun (r4 : Int32) (σ3 : St) => (if r4 = 0 then some ((-1), σ3) else bd (fX7_played p1 p2 σ3) fun _ (σ5 : St) => some (σ5.1 1 0 15, σ5))
set_option maxRecDepth 20000 in
theorem kX7_settles {X : Cx} (p1 : Int32) (p2 : Int32) (σ : St) : Kon X 5 yX7_settles cX7_settles 3 (some .int) gI [.ref (adr X 7 0), .int p1, .int p2] σ (fX7_settles p1 p2 σ) := by
  refine konJ (own := RX7) (fun _ => gI) (fun a b => [.ref (a 7 0), .int p1, .int p2]) (by decide +kernel) rfl (fun _ _ => Nat.le_of_ble_eq_true rfl) (fun Y C M => ?_)
  show V Y gI 0 [(0, .ref (adr Y 7 0)), (1, .int p1), (2, .int p2)] [] σ (fX7_settles p1 p2 σ)
  unfold fX7_settles
  refine v_aload_n 0 C dX7_settles_0 rfl ?_
  refine v_aload_n 0 C dX7_settles_1 rfl ?_
  refine v_geti C dX7_settles_2 lf_X7_89 ck_7 (by decide) ?_
  refine v_aload_n 0 C dX7_settles_5 rfl ?_
  refine v_iload_n 1 C dX7_settles_6 rfl ?_
  refine v_iload_n 2 C dX7_settles_7 rfl ?_
  refine v_cV2i C dX7_settles_8 lv_X7_139 ck_7 (kX7_isContest p1 p2 _) (by decide) (Nat.le_of_ble_eq_true rfl) (fun r2 σ1 => ?_)
  refine v_cV2i C dX7_settles_11 lv_X7_145 ck_7 (kX7_accepts (σ.1 7 0 8) r2 _) (by decide) (Nat.le_of_ble_eq_true rfl) (fun r4 σ3 => ?_)
  refine v_if_ne (tgt := 19) C dX7_settles_14 (by decide) ?_ ?_
  · skip
    refine v_aload_n 0 C dX7_settles_19 rfl ?_
    refine v_iload_n 1 C dX7_settles_20 rfl ?_
    refine v_iload_n 2 C dX7_settles_21 rfl ?_
    refine v_cV2u C dX7_settles_22 lv_X7_149 ck_7 (kX7_played p1 p2 _) (by decide) (Nat.le_of_ble_eq_true rfl) (fun _ σ5 => ?_)
    refine v_geti C dX7_settles_25 lf_X7_170 ck_1 (by decide) ?_
    exact v_iret C M dX7_settles_28
  · skip
    refine v_iconst C dX7_settles_17 kc_iconst_m1 ?_
    exact v_iret C M dX7_settles_18
end
