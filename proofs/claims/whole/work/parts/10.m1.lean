noncomputable section
-- OpenLinesModel bitsOf(I)I, depth 0
def LX8_bitsOf_4 (ke : Int32 → St → Option (Int32 × St)) : Nat → Int32 → Int32 → St → Option (Int32 × St)
  | 0, _, _, _ => none
  | n + 1, b1, b2, σ => (if b2 = 0 then ke b1 σ else lt (b2 &&& (b2 - (nI 1))) fun (x1 : Int32) => LX8_bitsOf_4 ke n (b1 + nI 1) x1 σ)
def fX8_bitsOf (p0 : Int32) (σ : St) : Option (Int32 × St) :=
  (LX8_bitsOf_4 (fun (x2 : Int32) (σ3 : St) => some (x2, σ3)) FU 0 p0 σ)
set_option maxRecDepth 20000 in
theorem vLX8_bitsOf_4 {Y : Cx} (C : Ok Y RX8 cX8_bitsOf 3 0) (M : OkM Y (some .int)) (ke : Int32 → St → Option (Int32 × St)) (hke : ∀ (b1 : Int32) (σ : St), V Y gI 20 [(1, .int b1)] [] σ (ke b1 σ)) : ∀ (n : Nat) (b1 : Int32) (b2 : Int32) (σ : St), V Y gI 4 [(1, .int b1), (2, .int b2)] [] σ (LX8_bitsOf_4 ke n b1 b2 σ) := by
  intro n
  induction n with
  | zero => intros; exact v_none
  | succ n ih =>
    intro b1 b2 σ
    rw [LX8_bitsOf_4]
    refine v_iload_n 1 C dX8_bitsOf_4 rfl ?_
    refine v_if_eq (tgt := 20) C dX8_bitsOf_5 (by decide) ?_ ?_
    · skip
      exact v_lv (hke b1 σ) [0] rfl
    · skip
      refine v_iinc (lv' := [(1, .int (b1 + nI 1)), (2, .int b2)]) 0 C dX8_bitsOf_8 rfl (congrArg (b1 + ·) kc_iconst_1) (by decide) rfl ?_
      refine v_iload_n 1 C dX8_bitsOf_11 rfl ?_
      refine v_iload_n 1 C dX8_bitsOf_12 rfl ?_
      refine v_iconst C dX8_bitsOf_13 kc_iconst_1 ?_
      refine v_isub C dX8_bitsOf_14 ?_
      refine v_iand C dX8_bitsOf_15 ?_
      refine v_istore_nL (lv0 := [(1, .int (b1 + nI 1))]) C dX8_bitsOf_16 rfl (by decide) rfl (fun x1 => ?_)
      refine v_goto (tgt := 4) C dX8_bitsOf_17 (by decide) ?_
      exact v_lv (ih (b1 + nI 1) x1 σ) [1, 0] rfl
set_option maxRecDepth 20000 in
theorem kX8_bitsOf {X : Cx} (p0 : Int32) (σ : St) : Kon X 0 yX8_bitsOf cX8_bitsOf 3 (some .int) gI [.int p0] σ (fX8_bitsOf p0 σ) := by
  refine konJ (own := RX8) (fun _ => gI) (fun a b => [.int p0]) (by decide +kernel) rfl (fun _ _ => Nat.le_of_ble_eq_true rfl) (fun Y C M => ?_)
  show V Y gI 0 [(0, .int p0)] [] σ (fX8_bitsOf p0 σ)
  unfold fX8_bitsOf
  refine v_iconst C dX8_bitsOf_0 kc_iconst_0 ?_
  refine v_istore_n (lv' := [(1, .int 0), (0, .int p0)]) C dX8_bitsOf_1 rfl (by decide) rfl ?_
  refine v_iload_n 1 C dX8_bitsOf_2 rfl ?_
  refine v_istore_n (lv' := [(2, .int p0), (1, .int 0), (0, .int p0)]) C dX8_bitsOf_3 rfl (by decide) rfl ?_
  refine v_lv (vLX8_bitsOf_4 C M _ (fun x2 σ3 => ?_) FU _ _ _) [1, 0] rfl
  refine v_iload_n 0 C dX8_bitsOf_20 rfl ?_
  exact v_iret C M dX8_bitsOf_21
-- OpenLinesModel odd(I)I, depth 1
def fX8_odd (p0 : Int32) (σ : St) : Option (Int32 × St) :=
  bd (fX8_bitsOf p0 σ) fun (r2 : Int32) (σ1 : St) => some (if (r2 - r2 / (nI 2) * (nI 2)) = (nI 1) then p0 else (p0 + (nI 1)), σ1)
set_option maxRecDepth 20000 in
theorem kX8_odd {X : Cx} (p0 : Int32) (σ : St) : Kon X 1 yX8_odd cX8_odd 1 (some .int) gI [.int p0] σ (fX8_odd p0 σ) := by
  refine konJ (own := RX8) (fun _ => gI) (fun a b => [.int p0]) (by decide +kernel) rfl (fun _ _ => Nat.le_of_ble_eq_true rfl) (fun Y C M => ?_)
  show V Y gI 0 [(0, .int p0)] [] σ (fX8_odd p0 σ)
  unfold fX8_odd
  refine v_iload_n 0 C dX8_odd_0 rfl ?_
  refine v_cS1i C dX8_odd_1 ls_X8_209 (kX8_bitsOf p0 _) (by decide) (Nat.le_of_ble_eq_true rfl) (fun r2 σ1 => ?_)
  refine v_iconst C dX8_odd_4 kc_iconst_2 ?_
  refine v_irem C dX8_odd_5 (by decide) ?_
  refine v_iconst C dX8_odd_6 kc_iconst_1 ?_
  refine v_cut (pcJ := 17) (lv := [(0, .int p0)]) (st := .int (if (r2 - r2 / (nI 2) * (nI 2)) = (nI 1) then p0 else (p0 + (nI 1))) :: []) ?_ (fun hj3 => ?_)
  rotate_left
  · skip
    refine v_icmp_ne_b (tgt := 14) C dX8_odd_7 (by decide) (fun h4 => ?_) (fun h4 => ?_)
    · have hj5 := v_jneg h4 hj3
      refine v_iload_n 0 C dX8_odd_14 rfl ?_
      refine v_iconst C dX8_odd_15 kc_iconst_1 ?_
      refine v_iadd C dX8_odd_16 ?_
      exact hj5
    · have hj5 := v_jpos h4 hj3
      refine v_iload_n 0 C dX8_odd_10 rfl ?_
      refine v_goto (tgt := 17) C dX8_odd_11 (by decide) ?_
      exact hj5
  exact v_iret C M dX8_odd_17
-- OpenLinesModel wordOf(II)I, depth 3
def fX8_wordOf (p1 : Int32) (p2 : Int32) (σ : St) : Option (Int32 × St) :=
  (if p2 = (nI 1) then bd (fX8_rankOf p1 σ) fun (r4 : Int32) (σ3 : St) => gi (fX8_at p1 (nI 2)) 251 <| bd (fX8_odd (((nI 8) * r4) + ((nI 4) * (σ3.1 47 0 (fX8_at p1 (nI 2)).toNatClampNeg))) σ3) fun (r6 : Int32) (σ5 : St) => some (r6, σ5) else gi ((nI 11) + p1) 59 <| bd (fX8_odd ((nI 2) * (σ.1 44 0 ((nI 11) + p1).toNatClampNeg)) σ) fun (r2 : Int32) (σ1 : St) => some (r2, σ1))
set_option maxRecDepth 20000 in
theorem kX8_wordOf {X : Cx} (p1 : Int32) (p2 : Int32) (σ : St) : Kon X 3 yX8_wordOf cX8_wordOf 3 (some .int) gI [.ref (adr X 8 0), .int p1, .int p2] σ (fX8_wordOf p1 p2 σ) := by
  refine konJ (own := RX8) (fun _ => gI) (fun a b => [.ref (a 8 0), .int p1, .int p2]) (by decide +kernel) rfl (fun _ _ => Nat.le_of_ble_eq_true rfl) (fun Y C M => ?_)
  show V Y gI 0 [(0, .ref (adr Y 8 0)), (1, .int p1), (2, .int p2)] [] σ (fX8_wordOf p1 p2 σ)
  unfold fX8_wordOf
  refine v_iload_n 2 C dX8_wordOf_0 rfl ?_
  refine v_iconst C dX8_wordOf_1 kc_iconst_1 ?_
  refine v_icmp_ne (tgt := 32) C dX8_wordOf_2 (by decide) ?_ ?_
  · skip
    refine v_iconst C dX8_wordOf_32 kc_iconst_2 ?_
    refine v_aload_n 0 C dX8_wordOf_33 rfl ?_
    refine v_getc C dX8_wordOf_34 lf_X8_17 ck_8 rfl ?_
    refine v_bipush C dX8_wordOf_37 kc_bipush_11 ?_
    refine v_iload_n 1 C dX8_wordOf_39 rfl ?_
    refine v_iadd C dX8_wordOf_40 ?_
    refine v_iaload C dX8_wordOf_41 ck_44 (by decide) rfl ?_
    refine v_imul C dX8_wordOf_42 ?_
    refine v_cS1i C dX8_wordOf_43 ls_X8_215 (kX8_odd ((nI 2) * (σ.1 44 0 ((nI 11) + p1).toNatClampNeg)) _) (by decide) (Nat.le_of_ble_eq_true rfl) (fun r2 σ1 => ?_)
    exact v_iret C M dX8_wordOf_46
  · skip
    refine v_bipush C dX8_wordOf_5 kc_bipush_8 ?_
    refine v_aload_n 0 C dX8_wordOf_7 rfl ?_
    refine v_iload_n 1 C dX8_wordOf_8 rfl ?_
    refine v_cV1i C dX8_wordOf_9 lv_X8_212 ck_8 (kX8_rankOf p1 _) (by decide) (Nat.le_of_ble_eq_true rfl) (fun r4 σ3 => ?_)
    refine v_imul C dX8_wordOf_12 ?_
    refine v_iconst C dX8_wordOf_13 kc_iconst_4 ?_
    refine v_aload_n 0 C dX8_wordOf_14 rfl ?_
    refine v_getc C dX8_wordOf_15 lf_X8_27 ck_8 rfl ?_
    refine v_iload_n 1 C dX8_wordOf_18 rfl ?_
    refine v_iconst C dX8_wordOf_19 kc_iconst_2 ?_
    refine v_cS2p C dX8_wordOf_20 ls_X8_201 (kX8_at p1 (nI 2) _) (by decide) (Nat.le_of_ble_eq_true rfl) ?_
    refine v_iaload C dX8_wordOf_23 ck_47 (by decide) rfl ?_
    refine v_imul C dX8_wordOf_24 ?_
    refine v_iadd C dX8_wordOf_25 ?_
    refine v_cS1i C dX8_wordOf_26 ls_X8_215 (kX8_odd (((nI 8) * r4) + ((nI 4) * (σ3.1 47 0 (fX8_at p1 (nI 2)).toNatClampNeg))) _) (by decide) (Nat.le_of_ble_eq_true rfl) (fun r6 σ5 => ?_)
    refine v_goto (tgt := 46) C dX8_wordOf_29 (by decide) ?_
    exact v_iret C M dX8_wordOf_46
-- OpenLinesModel passes(II)V, depth 4
def LX8_passes_2 (a1 : Int32) (a2 : Int32) (ke : St → Option (Unit × St)) : Nat → Int32 → St → Option (Unit × St)
  | 0, _, _ => none
  | n + 1, b3, σ => gi (nI 3) 59 <| (if (σ.1 44 0 (nI 3).toNatClampNeg) ≤ b3 then ke σ else bd (fX8_wordOf b3 a1 σ) fun (r2 : Int32) (σ1 : St) => gi b3 6 <| lt (wI σ1 50 0 b3.toNatClampNeg r2) fun (σ3 : St) => LX8_passes_2 a1 a2 ke n (b3 + nI 1) σ3)
def fX8_passes (p1 : Int32) (p2 : Int32) (σ : St) : Option (Unit × St) :=
  (LX8_passes_2 p1 p2 (fun (σ4 : St) => bd (fX8_laysPass p2 σ4) fun _ (σ5 : St) => some ((), σ5)) FU 0 σ)
set_option maxRecDepth 20000 in
theorem vLX8_passes_2 {Y : Cx} (a1 : Int32) (a2 : Int32) (C : Ok Y RX8 cX8_passes 4 4) (M : OkM Y none) (ke : St → Option (Unit × St)) (hke : ∀ (σ : St), V Y gV 30 [(0, .ref (adr Y 8 0)), (2, .int a2)] [] σ (ke σ)) : ∀ (n : Nat) (b3 : Int32) (σ : St), V Y gV 2 [(0, .ref (adr Y 8 0)), (1, .int a1), (2, .int a2), (3, .int b3)] [] σ (LX8_passes_2 a1 a2 ke n b3 σ) := by
  intro n
  induction n with
  | zero => intros; exact v_none
  | succ n ih =>
    intro b3 σ
    rw [LX8_passes_2]
    refine v_iload_n 3 C dX8_passes_2 rfl ?_
    refine v_aload_n 0 C dX8_passes_3 rfl ?_
    refine v_getc C dX8_passes_4 lf_X8_17 ck_8 rfl ?_
    refine v_iconst C dX8_passes_7 kc_iconst_3 ?_
    refine v_iaload C dX8_passes_8 ck_44 (by decide) rfl ?_
    refine v_icmp_ge (tgt := 30) C dX8_passes_9 (by decide) ?_ ?_
    · skip
      exact v_lv (hke σ) [0, 2] rfl
    · skip
      refine v_aload_n 0 C dX8_passes_12 rfl ?_
      refine v_getc C dX8_passes_13 lf_X8_36 ck_8 rfl ?_
      refine v_iload_n 3 C dX8_passes_16 rfl ?_
      refine v_aload_n 0 C dX8_passes_17 rfl ?_
      refine v_iload_n 3 C dX8_passes_18 rfl ?_
      refine v_iload_n 1 C dX8_passes_19 rfl ?_
      refine v_cV2i C dX8_passes_20 lv_X8_250 ck_8 (kX8_wordOf b3 a1 _) (by decide) (Nat.le_of_ble_eq_true rfl) (fun r2 σ1 => ?_)
      refine v_iastoreL C dX8_passes_23 ck_50 (by decide) rfl (fun σ3 => ?_)
      refine v_iinc (lv' := [(3, .int (b3 + nI 1)), (0, .ref (adr Y 8 0)), (1, .int a1), (2, .int a2)]) 3 C dX8_passes_24 rfl (congrArg (b3 + ·) kc_iconst_1) (by decide) rfl ?_
      refine v_goto (tgt := 2) C dX8_passes_27 (by decide) ?_
      exact v_lv (ih (b3 + nI 1) σ3) [1, 2, 3, 0] rfl
set_option maxRecDepth 20000 in
theorem kX8_passes {X : Cx} (p1 : Int32) (p2 : Int32) (σ : St) : Kon X 4 yX8_passes cX8_passes 4 none gV [.ref (adr X 8 0), .int p1, .int p2] σ (fX8_passes p1 p2 σ) := by
  refine konJ (own := RX8) (fun _ => gV) (fun a b => [.ref (a 8 0), .int p1, .int p2]) (by decide +kernel) rfl (fun _ _ => Nat.le_of_ble_eq_true rfl) (fun Y C M => ?_)
  show V Y gV 0 [(0, .ref (adr Y 8 0)), (1, .int p1), (2, .int p2)] [] σ (fX8_passes p1 p2 σ)
  unfold fX8_passes
  refine v_iconst C dX8_passes_0 kc_iconst_0 ?_
  refine v_istore_n (lv' := [(3, .int 0), (0, .ref (adr Y 8 0)), (1, .int p1), (2, .int p2)]) C dX8_passes_1 rfl (by decide) rfl ?_
  refine v_lv (vLX8_passes_2 _ _ C M _ (fun σ4 => ?_) FU _ _) [1, 2, 3, 0] rfl
  refine v_aload_n 0 C dX8_passes_30 rfl ?_
  refine v_iload_n 1 C dX8_passes_31 rfl ?_
  refine v_cV1v C dX8_passes_32 lv_X8_253 ck_8 (kX8_laysPass p2 _) (by decide) (Nat.le_of_ble_eq_true rfl) (fun _ σ5 => ?_)
  exact v_vret C M dX8_passes_35
-- OpenLinesModel drives(IIII)I, depth 5
def fX8_drives (p1 : Int32) (p2 : Int32) (p3 : Int32) (p4 : Int32) (σ : St) : Option (Int32 × St) :=
  bd (fX8_isBoard p3 σ) fun (r2 : Int32) (σ1 : St) => bd (fX8_passWhy r2 p1 p2 p4 σ1) fun (r4 : Int32) (σ3 : St) => bd (fX8_isRefused r4 σ3) fun (r6 : Int32) (σ5 : St) => (if r6 = 0 then bd (fX8_passes p1 p2 σ5) fun _ (σ7 : St) => gi (fX8_cell p3 p4) 2406 <| some (σ7.1 51 0 (fX8_cell p3 p4).toNatClampNeg, σ7) else some ((-1), σ5))
set_option maxRecDepth 20000 in
theorem kX8_drives {X : Cx} (p1 : Int32) (p2 : Int32) (p3 : Int32) (p4 : Int32) (σ : St) : Kon X 5 yX8_drives cX8_drives 5 (some .int) gI [.ref (adr X 8 0), .int p1, .int p2, .int p3, .int p4] σ (fX8_drives p1 p2 p3 p4 σ) := by
  refine konJ (own := RX8) (fun _ => gI) (fun a b => [.ref (a 8 0), .int p1, .int p2, .int p3, .int p4]) (by decide +kernel) rfl (fun _ _ => Nat.le_of_ble_eq_true rfl) (fun Y C M => ?_)
  show V Y gI 0 [(0, .ref (adr Y 8 0)), (1, .int p1), (2, .int p2), (3, .int p3), (4, .int p4)] [] σ (fX8_drives p1 p2 p3 p4 σ)
  unfold fX8_drives
  refine v_aload_n 0 C dX8_drives_0 rfl ?_
  refine v_aload_n 0 C dX8_drives_1 rfl ?_
  refine v_aload_n 0 C dX8_drives_2 rfl ?_
  refine v_iload_n 3 C dX8_drives_3 rfl ?_
  refine v_cV1i C dX8_drives_4 lv_X8_268 ck_8 (kX8_isBoard p3 _) (by decide) (Nat.le_of_ble_eq_true rfl) (fun r2 σ1 => ?_)
  refine v_iload_n 1 C dX8_drives_7 rfl ?_
  refine v_iload_n 2 C dX8_drives_8 rfl ?_
  refine v_iload 4 C dX8_drives_9 rfl ?_
  refine v_cV4i C dX8_drives_11 lv_X8_271 ck_8 (kX8_passWhy r2 p1 p2 p4 _) (by decide) (Nat.le_of_ble_eq_true rfl) (fun r4 σ3 => ?_)
  refine v_cV1i C dX8_drives_14 lv_X8_180 ck_8 (kX8_isRefused r4 _) (by decide) (Nat.le_of_ble_eq_true rfl) (fun r6 σ5 => ?_)
  refine v_if_eq (tgt := 22) C dX8_drives_17 (by decide) ?_ ?_
  · skip
    refine v_aload_n 0 C dX8_drives_22 rfl ?_
    refine v_iload_n 1 C dX8_drives_23 rfl ?_
    refine v_iload_n 2 C dX8_drives_24 rfl ?_
    refine v_cV2v C dX8_drives_25 lv_X8_275 ck_8 (kX8_passes p1 p2 _) (by decide) (Nat.le_of_ble_eq_true rfl) (fun _ σ7 => ?_)
    refine v_aload_n 0 C dX8_drives_28 rfl ?_
    refine v_getc C dX8_drives_29 lf_X8_39 ck_8 rfl ?_
    refine v_iload_n 3 C dX8_drives_32 rfl ?_
    refine v_iload 4 C dX8_drives_33 rfl ?_
    refine v_cS2p C dX8_drives_35 ls_X8_224 (kX8_cell p3 p4 _) (by decide) (Nat.le_of_ble_eq_true rfl) ?_
    refine v_iaload C dX8_drives_38 ck_51 (by decide) rfl ?_
    exact v_iret C M dX8_drives_39
  · skip
    refine v_iconst C dX8_drives_20 kc_iconst_m1 ?_
    exact v_iret C M dX8_drives_21
-- OpenLinesModel seen(IIII)I, depth 5
def fX8_seen (p1 : Int32) (p2 : Int32) (p3 : Int32) (p4 : Int32) (σ : St) : Option (Int32 × St) :=
  bd (fX8_isBoard p3 σ) fun (r2 : Int32) (σ1 : St) => bd (fX8_passWhy r2 p1 p2 p4 σ1) fun (r4 : Int32) (σ3 : St) => bd (fX8_isRefused r4 σ3) fun (r6 : Int32) (σ5 : St) => (if r6 = 0 then bd (fX8_passes p1 p2 σ5) fun _ (σ7 : St) => gi (fX8_cell p3 p4) 2406 <| some (σ7.1 52 0 (fX8_cell p3 p4).toNatClampNeg, σ7) else some ((-1), σ5))
set_option maxRecDepth 20000 in
theorem kX8_seen {X : Cx} (p1 : Int32) (p2 : Int32) (p3 : Int32) (p4 : Int32) (σ : St) : Kon X 5 yX8_seen cX8_seen 5 (some .int) gI [.ref (adr X 8 0), .int p1, .int p2, .int p3, .int p4] σ (fX8_seen p1 p2 p3 p4 σ) := by
  refine konJ (own := RX8) (fun _ => gI) (fun a b => [.ref (a 8 0), .int p1, .int p2, .int p3, .int p4]) (by decide +kernel) rfl (fun _ _ => Nat.le_of_ble_eq_true rfl) (fun Y C M => ?_)
  show V Y gI 0 [(0, .ref (adr Y 8 0)), (1, .int p1), (2, .int p2), (3, .int p3), (4, .int p4)] [] σ (fX8_seen p1 p2 p3 p4 σ)
  unfold fX8_seen
  refine v_aload_n 0 C dX8_seen_0 rfl ?_
  refine v_aload_n 0 C dX8_seen_1 rfl ?_
  refine v_aload_n 0 C dX8_seen_2 rfl ?_
  refine v_iload_n 3 C dX8_seen_3 rfl ?_
  refine v_cV1i C dX8_seen_4 lv_X8_268 ck_8 (kX8_isBoard p3 _) (by decide) (Nat.le_of_ble_eq_true rfl) (fun r2 σ1 => ?_)
  refine v_iload_n 1 C dX8_seen_7 rfl ?_
  refine v_iload_n 2 C dX8_seen_8 rfl ?_
  refine v_iload 4 C dX8_seen_9 rfl ?_
  refine v_cV4i C dX8_seen_11 lv_X8_271 ck_8 (kX8_passWhy r2 p1 p2 p4 _) (by decide) (Nat.le_of_ble_eq_true rfl) (fun r4 σ3 => ?_)
  refine v_cV1i C dX8_seen_14 lv_X8_180 ck_8 (kX8_isRefused r4 _) (by decide) (Nat.le_of_ble_eq_true rfl) (fun r6 σ5 => ?_)
  refine v_if_eq (tgt := 22) C dX8_seen_17 (by decide) ?_ ?_
  · skip
    refine v_aload_n 0 C dX8_seen_22 rfl ?_
    refine v_iload_n 1 C dX8_seen_23 rfl ?_
    refine v_iload_n 2 C dX8_seen_24 rfl ?_
    refine v_cV2v C dX8_seen_25 lv_X8_275 ck_8 (kX8_passes p1 p2 _) (by decide) (Nat.le_of_ble_eq_true rfl) (fun _ σ7 => ?_)
    refine v_aload_n 0 C dX8_seen_28 rfl ?_
    refine v_getc C dX8_seen_29 lf_X8_42 ck_8 rfl ?_
    refine v_iload_n 3 C dX8_seen_32 rfl ?_
    refine v_iload 4 C dX8_seen_33 rfl ?_
    refine v_cS2p C dX8_seen_35 ls_X8_224 (kX8_cell p3 p4 _) (by decide) (Nat.le_of_ble_eq_true rfl) ?_
    refine v_iaload C dX8_seen_38 ck_52 (by decide) rfl ?_
    exact v_iret C M dX8_seen_39
  · skip
    refine v_iconst C dX8_seen_20 kc_iconst_m1 ?_
    exact v_iret C M dX8_seen_21
-- OpenLinesModel taken(IIII)I, depth 5
def fX8_taken (p1 : Int32) (p2 : Int32) (p3 : Int32) (p4 : Int32) (σ : St) : Option (Int32 × St) :=
  bd (fX8_isBoard p3 σ) fun (r2 : Int32) (σ1 : St) => bd (fX8_passWhy r2 p1 p2 p4 σ1) fun (r4 : Int32) (σ3 : St) => bd (fX8_isRefused r4 σ3) fun (r6 : Int32) (σ5 : St) => (if r6 = 0 then bd (fX8_passes p1 p2 σ5) fun _ (σ7 : St) => gi (fX8_cell p3 p4) 2406 <| some (σ7.1 53 0 (fX8_cell p3 p4).toNatClampNeg, σ7) else some ((-1), σ5))
set_option maxRecDepth 20000 in
theorem kX8_taken {X : Cx} (p1 : Int32) (p2 : Int32) (p3 : Int32) (p4 : Int32) (σ : St) : Kon X 5 yX8_taken cX8_taken 5 (some .int) gI [.ref (adr X 8 0), .int p1, .int p2, .int p3, .int p4] σ (fX8_taken p1 p2 p3 p4 σ) := by
  refine konJ (own := RX8) (fun _ => gI) (fun a b => [.ref (a 8 0), .int p1, .int p2, .int p3, .int p4]) (by decide +kernel) rfl (fun _ _ => Nat.le_of_ble_eq_true rfl) (fun Y C M => ?_)
  show V Y gI 0 [(0, .ref (adr Y 8 0)), (1, .int p1), (2, .int p2), (3, .int p3), (4, .int p4)] [] σ (fX8_taken p1 p2 p3 p4 σ)
  unfold fX8_taken
  refine v_aload_n 0 C dX8_taken_0 rfl ?_
  refine v_aload_n 0 C dX8_taken_1 rfl ?_
  refine v_aload_n 0 C dX8_taken_2 rfl ?_
  refine v_iload_n 3 C dX8_taken_3 rfl ?_
  refine v_cV1i C dX8_taken_4 lv_X8_268 ck_8 (kX8_isBoard p3 _) (by decide) (Nat.le_of_ble_eq_true rfl) (fun r2 σ1 => ?_)
  refine v_iload_n 1 C dX8_taken_7 rfl ?_
  refine v_iload_n 2 C dX8_taken_8 rfl ?_
  refine v_iload 4 C dX8_taken_9 rfl ?_
  refine v_cV4i C dX8_taken_11 lv_X8_271 ck_8 (kX8_passWhy r2 p1 p2 p4 _) (by decide) (Nat.le_of_ble_eq_true rfl) (fun r4 σ3 => ?_)
  refine v_cV1i C dX8_taken_14 lv_X8_180 ck_8 (kX8_isRefused r4 _) (by decide) (Nat.le_of_ble_eq_true rfl) (fun r6 σ5 => ?_)
  refine v_if_eq (tgt := 22) C dX8_taken_17 (by decide) ?_ ?_
  · skip
    refine v_aload_n 0 C dX8_taken_22 rfl ?_
    refine v_iload_n 1 C dX8_taken_23 rfl ?_
    refine v_iload_n 2 C dX8_taken_24 rfl ?_
    refine v_cV2v C dX8_taken_25 lv_X8_275 ck_8 (kX8_passes p1 p2 _) (by decide) (Nat.le_of_ble_eq_true rfl) (fun _ σ7 => ?_)
    refine v_aload_n 0 C dX8_taken_28 rfl ?_
    refine v_getc C dX8_taken_29 lf_X8_45 ck_8 rfl ?_
    refine v_iload_n 3 C dX8_taken_32 rfl ?_
    refine v_iload 4 C dX8_taken_33 rfl ?_
    refine v_cS2p C dX8_taken_35 ls_X8_224 (kX8_cell p3 p4 _) (by decide) (Nat.le_of_ble_eq_true rfl) ?_
    refine v_iaload C dX8_taken_38 ck_53 (by decide) rfl ?_
    exact v_iret C M dX8_taken_39
  · skip
    refine v_iconst C dX8_taken_20 kc_iconst_m1 ?_
    exact v_iret C M dX8_taken_21
-- OpenLinesModel withdrawn(IIII)I, depth 5
def fX8_withdrawn (p1 : Int32) (p2 : Int32) (p3 : Int32) (p4 : Int32) (σ : St) : Option (Int32 × St) :=
  bd (fX8_isBoard p3 σ) fun (r2 : Int32) (σ1 : St) => bd (fX8_passWhy r2 p1 p2 p4 σ1) fun (r4 : Int32) (σ3 : St) => bd (fX8_isRefused r4 σ3) fun (r6 : Int32) (σ5 : St) => (if r6 = 0 then bd (fX8_passes p1 p2 σ5) fun _ (σ7 : St) => gi (fX8_cell p3 p4) 2406 <| some (σ7.1 54 0 (fX8_cell p3 p4).toNatClampNeg, σ7) else some ((-1), σ5))
set_option maxRecDepth 20000 in
theorem kX8_withdrawn {X : Cx} (p1 : Int32) (p2 : Int32) (p3 : Int32) (p4 : Int32) (σ : St) : Kon X 5 yX8_withdrawn cX8_withdrawn 5 (some .int) gI [.ref (adr X 8 0), .int p1, .int p2, .int p3, .int p4] σ (fX8_withdrawn p1 p2 p3 p4 σ) := by
  refine konJ (own := RX8) (fun _ => gI) (fun a b => [.ref (a 8 0), .int p1, .int p2, .int p3, .int p4]) (by decide +kernel) rfl (fun _ _ => Nat.le_of_ble_eq_true rfl) (fun Y C M => ?_)
  show V Y gI 0 [(0, .ref (adr Y 8 0)), (1, .int p1), (2, .int p2), (3, .int p3), (4, .int p4)] [] σ (fX8_withdrawn p1 p2 p3 p4 σ)
  unfold fX8_withdrawn
  refine v_aload_n 0 C dX8_withdrawn_0 rfl ?_
  refine v_aload_n 0 C dX8_withdrawn_1 rfl ?_
  refine v_aload_n 0 C dX8_withdrawn_2 rfl ?_
  refine v_iload_n 3 C dX8_withdrawn_3 rfl ?_
  refine v_cV1i C dX8_withdrawn_4 lv_X8_268 ck_8 (kX8_isBoard p3 _) (by decide) (Nat.le_of_ble_eq_true rfl) (fun r2 σ1 => ?_)
  refine v_iload_n 1 C dX8_withdrawn_7 rfl ?_
  refine v_iload_n 2 C dX8_withdrawn_8 rfl ?_
  refine v_iload 4 C dX8_withdrawn_9 rfl ?_
  refine v_cV4i C dX8_withdrawn_11 lv_X8_271 ck_8 (kX8_passWhy r2 p1 p2 p4 _) (by decide) (Nat.le_of_ble_eq_true rfl) (fun r4 σ3 => ?_)
  refine v_cV1i C dX8_withdrawn_14 lv_X8_180 ck_8 (kX8_isRefused r4 _) (by decide) (Nat.le_of_ble_eq_true rfl) (fun r6 σ5 => ?_)
  refine v_if_eq (tgt := 22) C dX8_withdrawn_17 (by decide) ?_ ?_
  · skip
    refine v_aload_n 0 C dX8_withdrawn_22 rfl ?_
    refine v_iload_n 1 C dX8_withdrawn_23 rfl ?_
    refine v_iload_n 2 C dX8_withdrawn_24 rfl ?_
    refine v_cV2v C dX8_withdrawn_25 lv_X8_275 ck_8 (kX8_passes p1 p2 _) (by decide) (Nat.le_of_ble_eq_true rfl) (fun _ σ7 => ?_)
    refine v_aload_n 0 C dX8_withdrawn_28 rfl ?_
    refine v_getc C dX8_withdrawn_29 lf_X8_48 ck_8 rfl ?_
    refine v_iload_n 3 C dX8_withdrawn_32 rfl ?_
    refine v_iload 4 C dX8_withdrawn_33 rfl ?_
    refine v_cS2p C dX8_withdrawn_35 ls_X8_224 (kX8_cell p3 p4 _) (by decide) (Nat.le_of_ble_eq_true rfl) ?_
    refine v_iaload C dX8_withdrawn_38 ck_54 (by decide) rfl ?_
    exact v_iret C M dX8_withdrawn_39
  · skip
    refine v_iconst C dX8_withdrawn_20 kc_iconst_m1 ?_
    exact v_iret C M dX8_withdrawn_21
-- OpenLinesModel winners(III)I, depth 5
def fX8_winners (p1 : Int32) (p2 : Int32) (p3 : Int32) (σ : St) : Option (Int32 × St) :=
  bd (fX8_passWhy (nI 1) p1 p2 p3 σ) fun (r2 : Int32) (σ1 : St) => bd (fX8_isRefused r2 σ1) fun (r4 : Int32) (σ3 : St) => (if r4 = 0 then bd (fX8_passes p1 p2 σ3) fun _ (σ5 : St) => bd (fX8_winnersAt p3 σ5) fun (r7 : Int32) (σ6 : St) => some (r7, σ6) else some ((-1), σ3))
set_option maxRecDepth 20000 in
theorem kX8_winners {X : Cx} (p1 : Int32) (p2 : Int32) (p3 : Int32) (σ : St) : Kon X 5 yX8_winners cX8_winners 4 (some .int) gI [.ref (adr X 8 0), .int p1, .int p2, .int p3] σ (fX8_winners p1 p2 p3 σ) := by
  refine konJ (own := RX8) (fun _ => gI) (fun a b => [.ref (a 8 0), .int p1, .int p2, .int p3]) (by decide +kernel) rfl (fun _ _ => Nat.le_of_ble_eq_true rfl) (fun Y C M => ?_)
  show V Y gI 0 [(0, .ref (adr Y 8 0)), (1, .int p1), (2, .int p2), (3, .int p3)] [] σ (fX8_winners p1 p2 p3 σ)
  unfold fX8_winners
  refine v_aload_n 0 C dX8_winners_0 rfl ?_
  refine v_aload_n 0 C dX8_winners_1 rfl ?_
  refine v_iconst C dX8_winners_2 kc_iconst_1 ?_
  refine v_iload_n 1 C dX8_winners_3 rfl ?_
  refine v_iload_n 2 C dX8_winners_4 rfl ?_
  refine v_iload_n 3 C dX8_winners_5 rfl ?_
  refine v_cV4i C dX8_winners_6 lv_X8_271 ck_8 (kX8_passWhy (nI 1) p1 p2 p3 _) (by decide) (Nat.le_of_ble_eq_true rfl) (fun r2 σ1 => ?_)
  refine v_cV1i C dX8_winners_9 lv_X8_180 ck_8 (kX8_isRefused r2 _) (by decide) (Nat.le_of_ble_eq_true rfl) (fun r4 σ3 => ?_)
  refine v_if_eq (tgt := 17) C dX8_winners_12 (by decide) ?_ ?_
  · skip
    refine v_aload_n 0 C dX8_winners_17 rfl ?_
    refine v_iload_n 1 C dX8_winners_18 rfl ?_
    refine v_iload_n 2 C dX8_winners_19 rfl ?_
    refine v_cV2v C dX8_winners_20 lv_X8_275 ck_8 (kX8_passes p1 p2 _) (by decide) (Nat.le_of_ble_eq_true rfl) (fun _ σ5 => ?_)
    refine v_aload_n 0 C dX8_winners_23 rfl ?_
    refine v_iload_n 3 C dX8_winners_24 rfl ?_
    refine v_cV1i C dX8_winners_25 lv_X8_262 ck_8 (kX8_winnersAt p3 _) (by decide) (Nat.le_of_ble_eq_true rfl) (fun r7 σ6 => ?_)
    exact v_iret C M dX8_winners_28
  · skip
    refine v_iconst C dX8_winners_15 kc_iconst_m1 ?_
    exact v_iret C M dX8_winners_16
-- OpenLinesModel areSettled(I)Z, depth 1
def LX8_areSettled_2 (a1 : Int32) (ke : St → Option (Int32 × St)) : Nat → Int32 → St → Option (Int32 × St)
  | 0, _, _ => none
  | n + 1, b2, σ => gi (nI 3) 59 <| (if (σ.1 44 0 (nI 3).toNatClampNeg) ≤ b2 then ke σ else gi (fX8_cell b2 a1) 2406 <| gi (fX8_cell b2 (nI 400)) 2406 <| (if (σ.1 51 0 (fX8_cell b2 a1).toNatClampNeg) = (σ.1 51 0 (fX8_cell b2 (nI 400)).toNatClampNeg) then LX8_areSettled_2 a1 ke n (b2 + nI 1) σ else some (0, σ)))
def fX8_areSettled (p1 : Int32) (σ : St) : Option (Int32 × St) :=
  (LX8_areSettled_2 p1 (fun (σ1 : St) => some (nI 1, σ1)) FU 0 σ)
set_option maxRecDepth 20000 in
theorem vLX8_areSettled_2 {Y : Cx} (a1 : Int32) (C : Ok Y RX8 cX8_areSettled 3 1) (M : OkM Y (some .boolean)) (ke : St → Option (Int32 × St)) (hke : ∀ (σ : St), V Y gI 45 [] [] σ (ke σ)) : ∀ (n : Nat) (b2 : Int32) (σ : St), V Y gI 2 [(0, .ref (adr Y 8 0)), (1, .int a1), (2, .int b2)] [] σ (LX8_areSettled_2 a1 ke n b2 σ) := by
  intro n
  induction n with
  | zero => intros; exact v_none
  | succ n ih =>
    intro b2 σ
    rw [LX8_areSettled_2]
    refine v_iload_n 2 C dX8_areSettled_2 rfl ?_
    refine v_aload_n 0 C dX8_areSettled_3 rfl ?_
    refine v_getc C dX8_areSettled_4 lf_X8_17 ck_8 rfl ?_
    refine v_iconst C dX8_areSettled_7 kc_iconst_3 ?_
    refine v_iaload C dX8_areSettled_8 ck_44 (by decide) rfl ?_
    refine v_icmp_ge (tgt := 45) C dX8_areSettled_9 (by decide) ?_ ?_
    · skip
      exact v_lv (hke σ) [] rfl
    · skip
      refine v_aload_n 0 C dX8_areSettled_12 rfl ?_
      refine v_getc C dX8_areSettled_13 lf_X8_39 ck_8 rfl ?_
      refine v_iload_n 2 C dX8_areSettled_16 rfl ?_
      refine v_iload_n 1 C dX8_areSettled_17 rfl ?_
      refine v_cS2p C dX8_areSettled_18 ls_X8_224 (kX8_cell b2 a1 _) (by decide) (Nat.le_of_ble_eq_true rfl) ?_
      refine v_iaload C dX8_areSettled_21 ck_51 (by decide) rfl ?_
      refine v_aload_n 0 C dX8_areSettled_22 rfl ?_
      refine v_getc C dX8_areSettled_23 lf_X8_39 ck_8 rfl ?_
      refine v_iload_n 2 C dX8_areSettled_26 rfl ?_
      refine v_sipush C dX8_areSettled_27 kc_sipush_400 ?_
      refine v_cS2p C dX8_areSettled_30 ls_X8_224 (kX8_cell b2 (nI 400) _) (by decide) (Nat.le_of_ble_eq_true rfl) ?_
      refine v_iaload C dX8_areSettled_33 ck_51 (by decide) rfl ?_
      refine v_icmp_eq (tgt := 39) C dX8_areSettled_34 (by decide) ?_ ?_
      · skip
        refine v_iinc (lv' := [(2, .int (b2 + nI 1)), (0, .ref (adr Y 8 0)), (1, .int a1)]) 2 C dX8_areSettled_39 rfl (congrArg (b2 + ·) kc_iconst_1) (by decide) rfl ?_
        refine v_goto (tgt := 2) C dX8_areSettled_42 (by decide) ?_
        exact v_lv (ih (b2 + nI 1) σ) [1, 2, 0] rfl
      · skip
        refine v_iconst C dX8_areSettled_37 kc_iconst_0 ?_
        exact v_zret C M (by decide) dX8_areSettled_38
set_option maxRecDepth 20000 in
theorem kX8_areSettled {X : Cx} (p1 : Int32) (σ : St) : Kon X 1 yX8_areSettled cX8_areSettled 3 (some .boolean) gI [.ref (adr X 8 0), .int p1] σ (fX8_areSettled p1 σ) := by
  refine konJ (own := RX8) (fun _ => gI) (fun a b => [.ref (a 8 0), .int p1]) (by decide +kernel) rfl (fun _ _ => Nat.le_of_ble_eq_true rfl) (fun Y C M => ?_)
  show V Y gI 0 [(0, .ref (adr Y 8 0)), (1, .int p1)] [] σ (fX8_areSettled p1 σ)
  unfold fX8_areSettled
  refine v_iconst C dX8_areSettled_0 kc_iconst_0 ?_
  refine v_istore_n (lv' := [(2, .int 0), (0, .ref (adr Y 8 0)), (1, .int p1)]) C dX8_areSettled_1 rfl (by decide) rfl ?_
  refine v_lv (vLX8_areSettled_2 _ C M _ (fun σ1 => ?_) FU _ _) [1, 2, 0] rfl
  refine v_iconst C dX8_areSettled_45 kc_iconst_1 ?_
  exact v_zret C M (by decide) dX8_areSettled_46
-- OpenLinesModel settledAt()I, depth 2
def LX8_settledAt_4 (ke : Int32 → St → Option (Int32 × St)) : Nat → Int32 → St → Option (Int32 × St)
  | 0, _, _ => none
  | n + 1, b1, σ => (if b1 ≤ 0 then ke b1 σ else bd (fX8_areSettled (b1 - (nI 1)) σ) fun (r2 : Int32) (σ1 : St) => (if r2 = 0 then ke b1 σ1 else LX8_settledAt_4 ke n (b1 + (-1)) σ1))
def fX8_settledAt (σ : St) : Option (Int32 × St) :=
  (LX8_settledAt_4 (fun (x3 : Int32) (σ4 : St) => some (x3, σ4)) FU (nI 400) σ)
set_option maxRecDepth 20000 in
theorem vLX8_settledAt_4 {Y : Cx} (C : Ok Y RX8 cX8_settledAt 2 2) (M : OkM Y (some .int)) (ke : Int32 → St → Option (Int32 × St)) (hke : ∀ (b1 : Int32) (σ : St), V Y gI 24 [(1, .int b1)] [] σ (ke b1 σ)) : ∀ (n : Nat) (b1 : Int32) (σ : St), V Y gI 4 [(0, .ref (adr Y 8 0)), (1, .int b1)] [] σ (LX8_settledAt_4 ke n b1 σ) := by
  intro n
  induction n with
  | zero => intros; exact v_none
  | succ n ih =>
    intro b1 σ
    rw [LX8_settledAt_4]
    refine v_iload_n 1 C dX8_settledAt_4 rfl ?_
    refine v_if_le (tgt := 24) C dX8_settledAt_5 (by decide) ?_ ?_
    · skip
      exact v_lv (hke b1 σ) [1] rfl
    · skip
      refine v_aload_n 0 C dX8_settledAt_8 rfl ?_
      refine v_iload_n 1 C dX8_settledAt_9 rfl ?_
      refine v_iconst C dX8_settledAt_10 kc_iconst_1 ?_
      refine v_isub C dX8_settledAt_11 ?_
      refine v_cV1i C dX8_settledAt_12 lv_X8_256 ck_8 (kX8_areSettled (b1 - (nI 1)) _) (by decide) (Nat.le_of_ble_eq_true rfl) (fun r2 σ1 => ?_)
      refine v_if_eq (tgt := 24) C dX8_settledAt_15 (by decide) ?_ ?_
      · skip
        exact v_lv (hke b1 σ1) [1] rfl
      · skip
        refine v_iinc (lv' := [(1, .int (b1 + (-1))), (0, .ref (adr Y 8 0))]) 1 C dX8_settledAt_18 rfl (congrArg (b1 + ·) kc_iconst_m1) (by decide) rfl ?_
        refine v_goto (tgt := 4) C dX8_settledAt_21 (by decide) ?_
        exact v_lv (ih (b1 + (-1)) σ1) [1, 0] rfl
set_option maxRecDepth 20000 in
theorem kX8_settledAt {X : Cx} (σ : St) : Kon X 2 yX8_settledAt cX8_settledAt 2 (some .int) gI [.ref (adr X 8 0)] σ (fX8_settledAt σ) := by
  refine konJ (own := RX8) (fun _ => gI) (fun a b => [.ref (a 8 0)]) (by decide +kernel) rfl (fun _ _ => Nat.le_of_ble_eq_true rfl) (fun Y C M => ?_)
  show V Y gI 0 [(0, .ref (adr Y 8 0))] [] σ (fX8_settledAt σ)
  unfold fX8_settledAt
  refine v_sipush C dX8_settledAt_0 kc_sipush_400 ?_
  refine v_istore_n (lv' := [(1, .int (nI 400)), (0, .ref (adr Y 8 0))]) C dX8_settledAt_3 rfl (by decide) rfl ?_
  refine v_lv (vLX8_settledAt_4 C M _ (fun x3 σ4 => ?_) FU _ _) [1, 0] rfl
  refine v_iload_n 0 C dX8_settledAt_24 rfl ?_
  exact v_iret C M dX8_settledAt_25
-- OpenLinesModel settles(II)I, depth 5
def fX8_settles (p1 : Int32) (p2 : Int32) (σ : St) : Option (Int32 × St) :=
  bd (fX8_passWhy (nI 1) p1 p2 0 σ) fun (r2 : Int32) (σ1 : St) => bd (fX8_isRefused r2 σ1) fun (r4 : Int32) (σ3 : St) => (if r4 = 0 then bd (fX8_passes p1 p2 σ3) fun _ (σ5 : St) => bd (fX8_settledAt σ5) fun (r7 : Int32) (σ6 : St) => some (r7, σ6) else some ((-1), σ3))
set_option maxRecDepth 20000 in
theorem kX8_settles {X : Cx} (p1 : Int32) (p2 : Int32) (σ : St) : Kon X 5 yX8_settles cX8_settles 3 (some .int) gI [.ref (adr X 8 0), .int p1, .int p2] σ (fX8_settles p1 p2 σ) := by
  refine konJ (own := RX8) (fun _ => gI) (fun a b => [.ref (a 8 0), .int p1, .int p2]) (by decide +kernel) rfl (fun _ _ => Nat.le_of_ble_eq_true rfl) (fun Y C M => ?_)
  show V Y gI 0 [(0, .ref (adr Y 8 0)), (1, .int p1), (2, .int p2)] [] σ (fX8_settles p1 p2 σ)
  unfold fX8_settles
  refine v_aload_n 0 C dX8_settles_0 rfl ?_
  refine v_aload_n 0 C dX8_settles_1 rfl ?_
  refine v_iconst C dX8_settles_2 kc_iconst_1 ?_
  refine v_iload_n 1 C dX8_settles_3 rfl ?_
  refine v_iload_n 2 C dX8_settles_4 rfl ?_
  refine v_iconst C dX8_settles_5 kc_iconst_0 ?_
  refine v_cV4i C dX8_settles_6 lv_X8_271 ck_8 (kX8_passWhy (nI 1) p1 p2 0 _) (by decide) (Nat.le_of_ble_eq_true rfl) (fun r2 σ1 => ?_)
  refine v_cV1i C dX8_settles_9 lv_X8_180 ck_8 (kX8_isRefused r2 _) (by decide) (Nat.le_of_ble_eq_true rfl) (fun r4 σ3 => ?_)
  refine v_if_eq (tgt := 17) C dX8_settles_12 (by decide) ?_ ?_
  · skip
    refine v_aload_n 0 C dX8_settles_17 rfl ?_
    refine v_iload_n 1 C dX8_settles_18 rfl ?_
    refine v_iload_n 2 C dX8_settles_19 rfl ?_
    refine v_cV2v C dX8_settles_20 lv_X8_275 ck_8 (kX8_passes p1 p2 _) (by decide) (Nat.le_of_ble_eq_true rfl) (fun _ σ5 => ?_)
    refine v_aload_n 0 C dX8_settles_23 rfl ?_
    refine v_cV0i C dX8_settles_24 lv_X8_278 ck_8 (kX8_settledAt _) (by decide) (Nat.le_of_ble_eq_true rfl) (fun r7 σ6 => ?_)
    exact v_iret C M dX8_settles_27
  · skip
    refine v_iconst C dX8_settles_15 kc_iconst_m1 ?_
    exact v_iret C M dX8_settles_16
-- OpenLinesModel sure(II)I, depth 5
def fX8_sure (p1 : Int32) (p2 : Int32) (σ : St) : Option (Int32 × St) :=
  bd (fX8_passWhy (nI 1) p1 p2 0 σ) fun (r2 : Int32) (σ1 : St) => bd (fX8_isRefused r2 σ1) fun (r4 : Int32) (σ3 : St) => (if r4 = 0 then bd (fX8_passes p1 p2 σ3) fun _ (σ5 : St) => bd (fX8_sureAt σ5) fun (r7 : Int32) (σ6 : St) => some (r7, σ6) else some ((-1), σ3))
set_option maxRecDepth 20000 in
theorem kX8_sure {X : Cx} (p1 : Int32) (p2 : Int32) (σ : St) : Kon X 5 yX8_sure cX8_sure 3 (some .int) gI [.ref (adr X 8 0), .int p1, .int p2] σ (fX8_sure p1 p2 σ) := by
  refine konJ (own := RX8) (fun _ => gI) (fun a b => [.ref (a 8 0), .int p1, .int p2]) (by decide +kernel) rfl (fun _ _ => Nat.le_of_ble_eq_true rfl) (fun Y C M => ?_)
  show V Y gI 0 [(0, .ref (adr Y 8 0)), (1, .int p1), (2, .int p2)] [] σ (fX8_sure p1 p2 σ)
  unfold fX8_sure
  refine v_aload_n 0 C dX8_sure_0 rfl ?_
  refine v_aload_n 0 C dX8_sure_1 rfl ?_
  refine v_iconst C dX8_sure_2 kc_iconst_1 ?_
  refine v_iload_n 1 C dX8_sure_3 rfl ?_
  refine v_iload_n 2 C dX8_sure_4 rfl ?_
  refine v_iconst C dX8_sure_5 kc_iconst_0 ?_
  refine v_cV4i C dX8_sure_6 lv_X8_271 ck_8 (kX8_passWhy (nI 1) p1 p2 0 _) (by decide) (Nat.le_of_ble_eq_true rfl) (fun r2 σ1 => ?_)
  refine v_cV1i C dX8_sure_9 lv_X8_180 ck_8 (kX8_isRefused r2 _) (by decide) (Nat.le_of_ble_eq_true rfl) (fun r4 σ3 => ?_)
  refine v_if_eq (tgt := 17) C dX8_sure_12 (by decide) ?_ ?_
  · skip
    refine v_aload_n 0 C dX8_sure_17 rfl ?_
    refine v_iload_n 1 C dX8_sure_18 rfl ?_
    refine v_iload_n 2 C dX8_sure_19 rfl ?_
    refine v_cV2v C dX8_sure_20 lv_X8_275 ck_8 (kX8_passes p1 p2 _) (by decide) (Nat.le_of_ble_eq_true rfl) (fun _ σ5 => ?_)
    refine v_aload_n 0 C dX8_sure_23 rfl ?_
    refine v_cV0i C dX8_sure_24 lv_X8_281 ck_8 (kX8_sureAt _) (by decide) (Nat.le_of_ble_eq_true rfl) (fun r7 σ6 => ?_)
    exact v_iret C M dX8_sure_27
  · skip
    refine v_iconst C dX8_sure_15 kc_iconst_m1 ?_
    exact v_iret C M dX8_sure_16
-- OpenLinesModel right(II)I, depth 5
def fX8_right (p1 : Int32) (p2 : Int32) (σ : St) : Option (Int32 × St) :=
  bd (fX8_passWhy (nI 1) p1 p2 0 σ) fun (r2 : Int32) (σ1 : St) => bd (fX8_isRefused r2 σ1) fun (r4 : Int32) (σ3 : St) => (if r4 = 0 then bd (fX8_passes p1 p2 σ3) fun _ (σ5 : St) => bd (fX8_rightOnes σ5) fun (r7 : Int32) (σ6 : St) => some (r7, σ6) else some ((-1), σ3))
set_option maxRecDepth 20000 in
theorem kX8_right {X : Cx} (p1 : Int32) (p2 : Int32) (σ : St) : Kon X 5 yX8_right cX8_right 3 (some .int) gI [.ref (adr X 8 0), .int p1, .int p2] σ (fX8_right p1 p2 σ) := by
  refine konJ (own := RX8) (fun _ => gI) (fun a b => [.ref (a 8 0), .int p1, .int p2]) (by decide +kernel) rfl (fun _ _ => Nat.le_of_ble_eq_true rfl) (fun Y C M => ?_)
  show V Y gI 0 [(0, .ref (adr Y 8 0)), (1, .int p1), (2, .int p2)] [] σ (fX8_right p1 p2 σ)
  unfold fX8_right
  refine v_aload_n 0 C dX8_right_0 rfl ?_
  refine v_aload_n 0 C dX8_right_1 rfl ?_
  refine v_iconst C dX8_right_2 kc_iconst_1 ?_
  refine v_iload_n 1 C dX8_right_3 rfl ?_
  refine v_iload_n 2 C dX8_right_4 rfl ?_
  refine v_iconst C dX8_right_5 kc_iconst_0 ?_
  refine v_cV4i C dX8_right_6 lv_X8_271 ck_8 (kX8_passWhy (nI 1) p1 p2 0 _) (by decide) (Nat.le_of_ble_eq_true rfl) (fun r2 σ1 => ?_)
  refine v_cV1i C dX8_right_9 lv_X8_180 ck_8 (kX8_isRefused r2 _) (by decide) (Nat.le_of_ble_eq_true rfl) (fun r4 σ3 => ?_)
  refine v_if_eq (tgt := 17) C dX8_right_12 (by decide) ?_ ?_
  · skip
    refine v_aload_n 0 C dX8_right_17 rfl ?_
    refine v_iload_n 1 C dX8_right_18 rfl ?_
    refine v_iload_n 2 C dX8_right_19 rfl ?_
    refine v_cV2v C dX8_right_20 lv_X8_275 ck_8 (kX8_passes p1 p2 _) (by decide) (Nat.le_of_ble_eq_true rfl) (fun _ σ5 => ?_)
    refine v_aload_n 0 C dX8_right_23 rfl ?_
    refine v_cV0i C dX8_right_24 lv_X8_259 ck_8 (kX8_rightOnes _) (by decide) (Nat.le_of_ble_eq_true rfl) (fun r7 σ6 => ?_)
    exact v_iret C M dX8_right_27
  · skip
    refine v_iconst C dX8_right_15 kc_iconst_m1 ?_
    exact v_iret C M dX8_right_16
-- OpenLinesModel dips(II)I, depth 5
def fX8_dips (p1 : Int32) (p2 : Int32) (σ : St) : Option (Int32 × St) :=
  bd (fX8_passWhy (nI 1) p1 p2 0 σ) fun (r2 : Int32) (σ1 : St) => bd (fX8_isRefused r2 σ1) fun (r4 : Int32) (σ3 : St) => (if r4 = 0 then bd (fX8_passes p1 p2 σ3) fun _ (σ5 : St) => some (σ5.1 8 0 29, σ5) else some ((-1), σ3))
set_option maxRecDepth 20000 in
theorem kX8_dips {X : Cx} (p1 : Int32) (p2 : Int32) (σ : St) : Kon X 5 yX8_dips cX8_dips 3 (some .int) gI [.ref (adr X 8 0), .int p1, .int p2] σ (fX8_dips p1 p2 σ) := by
  refine konJ (own := RX8) (fun _ => gI) (fun a b => [.ref (a 8 0), .int p1, .int p2]) (by decide +kernel) rfl (fun _ _ => Nat.le_of_ble_eq_true rfl) (fun Y C M => ?_)
  show V Y gI 0 [(0, .ref (adr Y 8 0)), (1, .int p1), (2, .int p2)] [] σ (fX8_dips p1 p2 σ)
  unfold fX8_dips
  refine v_aload_n 0 C dX8_dips_0 rfl ?_
  refine v_aload_n 0 C dX8_dips_1 rfl ?_
  refine v_iconst C dX8_dips_2 kc_iconst_1 ?_
  refine v_iload_n 1 C dX8_dips_3 rfl ?_
  refine v_iload_n 2 C dX8_dips_4 rfl ?_
  refine v_iconst C dX8_dips_5 kc_iconst_0 ?_
  refine v_cV4i C dX8_dips_6 lv_X8_271 ck_8 (kX8_passWhy (nI 1) p1 p2 0 _) (by decide) (Nat.le_of_ble_eq_true rfl) (fun r2 σ1 => ?_)
  refine v_cV1i C dX8_dips_9 lv_X8_180 ck_8 (kX8_isRefused r2 _) (by decide) (Nat.le_of_ble_eq_true rfl) (fun r4 σ3 => ?_)
  refine v_if_eq (tgt := 17) C dX8_dips_12 (by decide) ?_ ?_
  · skip
    refine v_aload_n 0 C dX8_dips_17 rfl ?_
    refine v_iload_n 1 C dX8_dips_18 rfl ?_
    refine v_iload_n 2 C dX8_dips_19 rfl ?_
    refine v_cV2v C dX8_dips_20 lv_X8_275 ck_8 (kX8_passes p1 p2 _) (by decide) (Nat.le_of_ble_eq_true rfl) (fun _ σ5 => ?_)
    refine v_aload_n 0 C dX8_dips_23 rfl ?_
    refine v_geti C dX8_dips_24 lf_X8_234 ck_8 (by decide) ?_
    exact v_iret C M dX8_dips_27
  · skip
    refine v_iconst C dX8_dips_15 kc_iconst_m1 ?_
    exact v_iret C M dX8_dips_16
-- OpenLinesModel isFaultyAt(I)Z, depth 1
def LX8_isFaultyAt_2 (a1 : Int32) (ke : St → Option (Int32 × St)) : Nat → Int32 → St → Option (Int32 × St)
  | 0, _, _ => none
  | n + 1, b2, σ => gi (nI 3) 59 <| (if (σ.1 44 0 (nI 3).toNatClampNeg) ≤ b2 then ke σ else gi (fX8_cell b2 a1) 2406 <| bd (fX8_bitsOf (σ.1 53 0 (fX8_cell b2 a1).toNatClampNeg) σ) fun (r2 : Int32) (σ1 : St) => (if (r2 - r2 / (nI 2) * (nI 2)) = 0 then some (nI 1, σ1) else LX8_isFaultyAt_2 a1 ke n (b2 + nI 1) σ1))
def fX8_isFaultyAt (p1 : Int32) (σ : St) : Option (Int32 × St) :=
  (LX8_isFaultyAt_2 p1 (fun (σ3 : St) => some (0, σ3)) FU 0 σ)
set_option maxRecDepth 20000 in
theorem vLX8_isFaultyAt_2 {Y : Cx} (a1 : Int32) (C : Ok Y RX8 cX8_isFaultyAt 3 1) (M : OkM Y (some .boolean)) (ke : St → Option (Int32 × St)) (hke : ∀ (σ : St), V Y gI 38 [] [] σ (ke σ)) : ∀ (n : Nat) (b2 : Int32) (σ : St), V Y gI 2 [(0, .ref (adr Y 8 0)), (1, .int a1), (2, .int b2)] [] σ (LX8_isFaultyAt_2 a1 ke n b2 σ) := by
  intro n
  induction n with
  | zero => intros; exact v_none
  | succ n ih =>
    intro b2 σ
    rw [LX8_isFaultyAt_2]
    refine v_iload_n 2 C dX8_isFaultyAt_2 rfl ?_
    refine v_aload_n 0 C dX8_isFaultyAt_3 rfl ?_
    refine v_getc C dX8_isFaultyAt_4 lf_X8_17 ck_8 rfl ?_
    refine v_iconst C dX8_isFaultyAt_7 kc_iconst_3 ?_
    refine v_iaload C dX8_isFaultyAt_8 ck_44 (by decide) rfl ?_
    refine v_icmp_ge (tgt := 38) C dX8_isFaultyAt_9 (by decide) ?_ ?_
    · skip
      exact v_lv (hke σ) [] rfl
    · skip
      refine v_aload_n 0 C dX8_isFaultyAt_12 rfl ?_
      refine v_getc C dX8_isFaultyAt_13 lf_X8_45 ck_8 rfl ?_
      refine v_iload_n 2 C dX8_isFaultyAt_16 rfl ?_
      refine v_iload_n 1 C dX8_isFaultyAt_17 rfl ?_
      refine v_cS2p C dX8_isFaultyAt_18 ls_X8_224 (kX8_cell b2 a1 _) (by decide) (Nat.le_of_ble_eq_true rfl) ?_
      refine v_iaload C dX8_isFaultyAt_21 ck_53 (by decide) rfl ?_
      refine v_cS1i C dX8_isFaultyAt_22 ls_X8_209 (kX8_bitsOf (σ.1 53 0 (fX8_cell b2 a1).toNatClampNeg) _) (by decide) (Nat.le_of_ble_eq_true rfl) (fun r2 σ1 => ?_)
      refine v_iconst C dX8_isFaultyAt_25 kc_iconst_2 ?_
      refine v_irem C dX8_isFaultyAt_26 (by decide) ?_
      refine v_if_ne (tgt := 32) C dX8_isFaultyAt_27 (by decide) ?_ ?_
      · skip
        refine v_iinc (lv' := [(2, .int (b2 + nI 1)), (0, .ref (adr Y 8 0)), (1, .int a1)]) 2 C dX8_isFaultyAt_32 rfl (congrArg (b2 + ·) kc_iconst_1) (by decide) rfl ?_
        refine v_goto (tgt := 2) C dX8_isFaultyAt_35 (by decide) ?_
        exact v_lv (ih (b2 + nI 1) σ1) [1, 2, 0] rfl
      · skip
        refine v_iconst C dX8_isFaultyAt_30 kc_iconst_1 ?_
        exact v_zret C M (by decide) dX8_isFaultyAt_31
set_option maxRecDepth 20000 in
theorem kX8_isFaultyAt {X : Cx} (p1 : Int32) (σ : St) : Kon X 1 yX8_isFaultyAt cX8_isFaultyAt 3 (some .boolean) gI [.ref (adr X 8 0), .int p1] σ (fX8_isFaultyAt p1 σ) := by
  refine konJ (own := RX8) (fun _ => gI) (fun a b => [.ref (a 8 0), .int p1]) (by decide +kernel) rfl (fun _ _ => Nat.le_of_ble_eq_true rfl) (fun Y C M => ?_)
  show V Y gI 0 [(0, .ref (adr Y 8 0)), (1, .int p1)] [] σ (fX8_isFaultyAt p1 σ)
  unfold fX8_isFaultyAt
  refine v_iconst C dX8_isFaultyAt_0 kc_iconst_0 ?_
  refine v_istore_n (lv' := [(2, .int 0), (0, .ref (adr Y 8 0)), (1, .int p1)]) C dX8_isFaultyAt_1 rfl (by decide) rfl ?_
  refine v_lv (vLX8_isFaultyAt_2 _ C M _ (fun σ3 => ?_) FU _ _) [1, 2, 0] rfl
  refine v_iconst C dX8_isFaultyAt_38 kc_iconst_0 ?_
  exact v_zret C M (by decide) dX8_isFaultyAt_39
-- OpenLinesModel faulty(III)I, depth 5
def fX8_faulty (p1 : Int32) (p2 : Int32) (p3 : Int32) (σ : St) : Option (Int32 × St) :=
  bd (fX8_passWhy (nI 1) p1 p2 p3 σ) fun (r2 : Int32) (σ1 : St) => bd (fX8_isRefused r2 σ1) fun (r4 : Int32) (σ3 : St) => (if r4 = 0 then bd (fX8_passes p1 p2 σ3) fun _ (σ5 : St) => bd (fX8_isFaultyAt p3 σ5) fun (r7 : Int32) (σ6 : St) => some (if r7 = 0 then 0 else (nI 1), σ6) else some ((-1), σ3))
set_option maxRecDepth 20000 in
theorem kX8_faulty {X : Cx} (p1 : Int32) (p2 : Int32) (p3 : Int32) (σ : St) : Kon X 5 yX8_faulty cX8_faulty 4 (some .int) gI [.ref (adr X 8 0), .int p1, .int p2, .int p3] σ (fX8_faulty p1 p2 p3 σ) := by
  refine konJ (own := RX8) (fun _ => gI) (fun a b => [.ref (a 8 0), .int p1, .int p2, .int p3]) (by decide +kernel) rfl (fun _ _ => Nat.le_of_ble_eq_true rfl) (fun Y C M => ?_)
  show V Y gI 0 [(0, .ref (adr Y 8 0)), (1, .int p1), (2, .int p2), (3, .int p3)] [] σ (fX8_faulty p1 p2 p3 σ)
  unfold fX8_faulty
  refine v_aload_n 0 C dX8_faulty_0 rfl ?_
  refine v_aload_n 0 C dX8_faulty_1 rfl ?_
  refine v_iconst C dX8_faulty_2 kc_iconst_1 ?_
  refine v_iload_n 1 C dX8_faulty_3 rfl ?_
  refine v_iload_n 2 C dX8_faulty_4 rfl ?_
  refine v_iload_n 3 C dX8_faulty_5 rfl ?_
  refine v_cV4i C dX8_faulty_6 lv_X8_271 ck_8 (kX8_passWhy (nI 1) p1 p2 p3 _) (by decide) (Nat.le_of_ble_eq_true rfl) (fun r2 σ1 => ?_)
  refine v_cV1i C dX8_faulty_9 lv_X8_180 ck_8 (kX8_isRefused r2 _) (by decide) (Nat.le_of_ble_eq_true rfl) (fun r4 σ3 => ?_)
  refine v_if_eq (tgt := 17) C dX8_faulty_12 (by decide) ?_ ?_
  · skip
    refine v_aload_n 0 C dX8_faulty_17 rfl ?_
    refine v_iload_n 1 C dX8_faulty_18 rfl ?_
    refine v_iload_n 2 C dX8_faulty_19 rfl ?_
    refine v_cV2v C dX8_faulty_20 lv_X8_275 ck_8 (kX8_passes p1 p2 _) (by decide) (Nat.le_of_ble_eq_true rfl) (fun _ σ5 => ?_)
    refine v_aload_n 0 C dX8_faulty_23 rfl ?_
    refine v_iload_n 3 C dX8_faulty_24 rfl ?_
    refine v_cV1i C dX8_faulty_25 lv_X8_284 ck_8 (kX8_isFaultyAt p3 _) (by decide) (Nat.le_of_ble_eq_true rfl) (fun r7 σ6 => ?_)
    refine v_cut (pcJ := 36) (lv := [(0, .ref (adr Y 8 0)), (1, .int p1), (2, .int p2), (3, .int p3)]) (st := .int (if r7 = 0 then 0 else (nI 1)) :: []) ?_ (fun hj8 => ?_)
    rotate_left
    · skip
      refine v_if_eq_b (tgt := 35) C dX8_faulty_28 (by decide) (fun h9 => ?_) (fun h9 => ?_)
      · have hj10 := v_jpos h9 hj8
        refine v_iconst C dX8_faulty_35 kc_iconst_0 ?_
        exact hj10
      · have hj10 := v_jneg h9 hj8
        refine v_iconst C dX8_faulty_31 kc_iconst_1 ?_
        refine v_goto (tgt := 36) C dX8_faulty_32 (by decide) ?_
        exact hj10
    exact v_iret C M dX8_faulty_36
  · skip
    refine v_iconst C dX8_faulty_15 kc_iconst_m1 ?_
    exact v_iret C M dX8_faulty_16
-- OpenLinesModel edges(IIII)I, depth 5
def LX8_edges_51 (a3 : Int32) (a4 : Int32) (ke : Int32 → St → Option (Int32 × St)) : Nat → Int32 → Int32 → St → Option (Int32 × St)
  | 0, _, _, _ => none
  | n + 1, b5, b6, σ => (if (nI 401) ≤ b6 then ke b5 σ else gi (fX8_cell a3 b6) 2406 <| gi (fX8_cell a3 (b6 - (nI 1))) 2406 <| lt (b5 + (if (fX8_has ((σ.1 52 0 (fX8_cell a3 b6).toNatClampNeg) ^^^ (σ.1 52 0 (fX8_cell a3 (b6 - (nI 1))).toNatClampNeg)) a4) = 0 then 0 else (nI 1))) fun (x16 : Int32) => LX8_edges_51 a3 a4 ke n x16 (b6 + nI 1) σ)
def fX8_edges (p1 : Int32) (p2 : Int32) (p3 : Int32) (p4 : Int32) (σ : St) : Option (Int32 × St) :=
  bd (fX8_isBoard p3 σ) fun (r2 : Int32) (σ1 : St) => bd (fX8_passWhy (if r2 = 0 then 0 else (if (fX8_in p4 0 (nI 5)) = 0 then 0 else (nI 1))) p1 p2 0 σ1) fun (r9 : Int32) (σ8 : St) => bd (fX8_isRefused r9 σ8) fun (r11 : Int32) (σ10 : St) => (if r11 = 0 then bd (fX8_passes p1 p2 σ10) fun _ (σ12 : St) => (LX8_edges_51 p3 p4 (fun (x17 : Int32) (σ18 : St) => some (x17, σ18)) FU 0 (nI 1) σ12) else some ((-1), σ10))
set_option maxRecDepth 20000 in
theorem vLX8_edges_51 {Y : Cx} (a3 : Int32) (a4 : Int32) (C : Ok Y RX8 cX8_edges 7 5) (M : OkM Y (some .int)) (ke : Int32 → St → Option (Int32 × St)) (hke : ∀ (b5 : Int32) (σ : St), V Y gI 108 [(5, .int b5)] [] σ (ke b5 σ)) : ∀ (n : Nat) (b5 : Int32) (b6 : Int32) (σ : St), V Y gI 51 [(0, .ref (adr Y 8 0)), (3, .int a3), (4, .int a4), (5, .int b5), (6, .int b6)] [] σ (LX8_edges_51 a3 a4 ke n b5 b6 σ) := by
  intro n
  induction n with
  | zero => intros; exact v_none
  | succ n ih =>
    intro b5 b6 σ
    rw [LX8_edges_51]
    refine v_iload 4 C dX8_edges_51 rfl ?_
    refine v_sipush C dX8_edges_53 kc_sipush_401 ?_
    refine v_icmp_ge (tgt := 108) C dX8_edges_56 (by decide) ?_ ?_
    · skip
      exact v_lv (hke b5 σ) [3] rfl
    · skip
      refine v_iload 3 C dX8_edges_59 rfl ?_
      refine v_aload_n 0 C dX8_edges_61 rfl ?_
      refine v_getc C dX8_edges_62 lf_X8_42 ck_8 rfl ?_
      refine v_iload_n 1 C dX8_edges_65 rfl ?_
      refine v_iload 4 C dX8_edges_66 rfl ?_
      refine v_cS2p C dX8_edges_68 ls_X8_224 (kX8_cell a3 b6 _) (by decide) (Nat.le_of_ble_eq_true rfl) ?_
      refine v_iaload C dX8_edges_71 ck_52 (by decide) rfl ?_
      refine v_aload_n 0 C dX8_edges_72 rfl ?_
      refine v_getc C dX8_edges_73 lf_X8_42 ck_8 rfl ?_
      refine v_iload_n 1 C dX8_edges_76 rfl ?_
      refine v_iload 4 C dX8_edges_77 rfl ?_
      refine v_iconst C dX8_edges_79 kc_iconst_1 ?_
      refine v_isub C dX8_edges_80 ?_
      refine v_cS2p C dX8_edges_81 ls_X8_224 (kX8_cell a3 (b6 - (nI 1)) _) (by decide) (Nat.le_of_ble_eq_true rfl) ?_
      refine v_iaload C dX8_edges_84 ck_52 (by decide) rfl ?_
      refine v_ixor C dX8_edges_85 ?_
      refine v_iload 2 C dX8_edges_86 rfl ?_
      refine v_cS2p C dX8_edges_88 ls_X8_221 (kX8_has ((σ.1 52 0 (fX8_cell a3 b6).toNatClampNeg) ^^^ (σ.1 52 0 (fX8_cell a3 (b6 - (nI 1))).toNatClampNeg)) a4 _) (by decide) (Nat.le_of_ble_eq_true rfl) ?_
      refine v_cut (pcJ := 99) (lv := [(0, .ref (adr Y 8 0)), (3, .int a3), (4, .int a4), (5, .int b5), (6, .int b6)]) (st := .int (if (fX8_has ((σ.1 52 0 (fX8_cell a3 b6).toNatClampNeg) ^^^ (σ.1 52 0 (fX8_cell a3 (b6 - (nI 1))).toNatClampNeg)) a4) = 0 then 0 else (nI 1)) :: [.int b5]) ?_ (fun hj13 => ?_)
      rotate_left
      · skip
        refine v_if_eq_b (tgt := 98) C dX8_edges_91 (by decide) (fun h14 => ?_) (fun h14 => ?_)
        · have hj15 := v_jpos h14 hj13
          refine v_iconst C dX8_edges_98 kc_iconst_0 ?_
          exact hj15
        · have hj15 := v_jneg h14 hj13
          refine v_iconst C dX8_edges_94 kc_iconst_1 ?_
          refine v_goto (tgt := 99) C dX8_edges_95 (by decide) ?_
          exact hj15
      refine v_iadd C dX8_edges_99 ?_
      refine v_istoreL (lv0 := [(0, .ref (adr Y 8 0)), (3, .int a3), (4, .int a4), (6, .int b6)]) C dX8_edges_100 (by decide) rfl (fun x16 => ?_)
      refine v_iinc (lv' := [(6, .int (b6 + nI 1)), (5, .int x16), (0, .ref (adr Y 8 0)), (3, .int a3), (4, .int a4)]) 4 C dX8_edges_102 rfl (congrArg (b6 + ·) kc_iconst_1) (by decide) rfl ?_
      refine v_goto (tgt := 51) C dX8_edges_105 (by decide) ?_
      exact v_lv (ih x16 (b6 + nI 1) σ) [2, 3, 4, 1, 0] rfl
set_option maxRecDepth 20000 in
theorem kX8_edges {X : Cx} (p1 : Int32) (p2 : Int32) (p3 : Int32) (p4 : Int32) (σ : St) : Kon X 5 yX8_edges cX8_edges 7 (some .int) gI [.ref (adr X 8 0), .int p1, .int p2, .int p3, .int p4] σ (fX8_edges p1 p2 p3 p4 σ) := by
  refine konJ (own := RX8) (fun _ => gI) (fun a b => [.ref (a 8 0), .int p1, .int p2, .int p3, .int p4]) (by decide +kernel) rfl (fun _ _ => Nat.le_of_ble_eq_true rfl) (fun Y C M => ?_)
  show V Y gI 0 [(0, .ref (adr Y 8 0)), (1, .int p1), (2, .int p2), (3, .int p3), (4, .int p4)] [] σ (fX8_edges p1 p2 p3 p4 σ)
  unfold fX8_edges
  refine v_aload_n 0 C dX8_edges_0 rfl ?_
  refine v_aload_n 0 C dX8_edges_1 rfl ?_
  refine v_aload_n 0 C dX8_edges_2 rfl ?_
  refine v_iload_n 3 C dX8_edges_3 rfl ?_
  refine v_cV1i C dX8_edges_4 lv_X8_268 ck_8 (kX8_isBoard p3 _) (by decide) (Nat.le_of_ble_eq_true rfl) (fun r2 σ1 => ?_)
  refine v_cut (pcJ := 25) (lv := [(0, .ref (adr Y 8 0)), (1, .int p1), (2, .int p2), (3, .int p3), (4, .int p4)]) (st := .int (if r2 = 0 then 0 else (if (fX8_in p4 0 (nI 5)) = 0 then 0 else (nI 1))) :: [.ref (adr Y 8 0), .ref (adr Y 8 0)]) ?_ (fun hj3 => ?_)
  rotate_left
  · skip
    refine v_if_eq_b (tgt := 24) C dX8_edges_7 (by decide) (fun h4 => ?_) (fun h4 => ?_)
    · have hj5 := v_jpos h4 hj3
      refine v_iconst C dX8_edges_24 kc_iconst_0 ?_
      exact hj5
    · have hj5 := v_jneg h4 hj3
      refine v_iload 4 C dX8_edges_10 rfl ?_
      refine v_iconst C dX8_edges_12 kc_iconst_0 ?_
      refine v_iconst C dX8_edges_13 kc_iconst_5 ?_
      refine v_cS3p C dX8_edges_14 ls_X8_83 (kX8_in p4 0 (nI 5) _) (by decide) (Nat.le_of_ble_eq_true rfl) ?_
      refine v_if_eq_b (tgt := 24) C dX8_edges_17 (by decide) (fun h6 => ?_) (fun h6 => ?_)
      · have hj7 := v_jpos h6 hj5
        refine v_iconst C dX8_edges_24 kc_iconst_0 ?_
        exact hj7
      · have hj7 := v_jneg h6 hj5
        refine v_iconst C dX8_edges_20 kc_iconst_1 ?_
        refine v_goto (tgt := 25) C dX8_edges_21 (by decide) ?_
        exact hj7
  refine v_iload_n 1 C dX8_edges_25 rfl ?_
  refine v_iload_n 2 C dX8_edges_26 rfl ?_
  refine v_iconst C dX8_edges_27 kc_iconst_0 ?_
  refine v_cV4i C dX8_edges_28 lv_X8_271 ck_8 (kX8_passWhy (if r2 = 0 then 0 else (if (fX8_in p4 0 (nI 5)) = 0 then 0 else (nI 1))) p1 p2 0 _) (by decide) (Nat.le_of_ble_eq_true rfl) (fun r9 σ8 => ?_)
  refine v_cV1i C dX8_edges_31 lv_X8_180 ck_8 (kX8_isRefused r9 _) (by decide) (Nat.le_of_ble_eq_true rfl) (fun r11 σ10 => ?_)
  refine v_if_eq (tgt := 39) C dX8_edges_34 (by decide) ?_ ?_
  · skip
    refine v_aload_n 0 C dX8_edges_39 rfl ?_
    refine v_iload_n 1 C dX8_edges_40 rfl ?_
    refine v_iload_n 2 C dX8_edges_41 rfl ?_
    refine v_cV2v C dX8_edges_42 lv_X8_275 ck_8 (kX8_passes p1 p2 _) (by decide) (Nat.le_of_ble_eq_true rfl) (fun _ σ12 => ?_)
    refine v_iconst C dX8_edges_45 kc_iconst_0 ?_
    refine v_istore (lv' := [(5, .int 0), (0, .ref (adr Y 8 0)), (1, .int p1), (2, .int p2), (3, .int p3), (4, .int p4)]) C dX8_edges_46 (by decide) rfl ?_
    refine v_iconst C dX8_edges_48 kc_iconst_1 ?_
    refine v_istore (lv' := [(6, .int (nI 1)), (5, .int 0), (0, .ref (adr Y 8 0)), (1, .int p1), (2, .int p2), (3, .int p3), (4, .int p4)]) C dX8_edges_49 (by decide) rfl ?_
    refine v_lv (vLX8_edges_51 _ _ C M _ (fun x17 σ18 => ?_) FU _ _ _) [2, 5, 6, 1, 0] rfl
    refine v_iload 0 C dX8_edges_108 rfl ?_
    exact v_iret C M dX8_edges_110
  · skip
    refine v_iconst C dX8_edges_37 kc_iconst_m1 ?_
    exact v_iret C M dX8_edges_38
-- OpenLinesModel filters(II)I, depth 5
def LX8_filters_32 (a1 : Int32) (a2 : Int32) (a3 : Int32) (ke : Int32 → St → Option (Int32 × St)) : Nat → Int32 → Int32 → St → Option (Int32 × St)
  | 0, _, _, _ => none
  | n + 1, b4, b5, σ => (if b5 < 0 then ke b4 σ else gi (nI 1) 59 <| lt (wI σ 44 0 (nI 1).toNatClampNeg b5) fun (σ6 : St) => bd (fX8_passes a1 a2 σ6) fun _ (σ7 : St) => bd (fX8_sureAt σ7) fun (r9 : Int32) (σ8 : St) => (jn (fun (x11 : Int32) (σ10 : St) => LX8_filters_32 a1 a2 a3 ke n x11 (b5 + (-1)) σ10) fun j82 => jn (fun (σ12 : St) => j82 b4 σ12) fun j80 => if r9 = (-2) then j80 σ8 else gi (nI 2) 59 <| (if (σ8.1 44 0 (nI 2).toNatClampNeg) < r9 then j80 σ8 else j82 b5 σ8)))
def fX8_filters (p1 : Int32) (p2 : Int32) (σ : St) : Option (Int32 × St) :=
  bd (fX8_passWhy (nI 1) p1 p2 0 σ) fun (r2 : Int32) (σ1 : St) => bd (fX8_isRefused r2 σ1) fun (r4 : Int32) (σ3 : St) => (if r4 = 0 then gi (nI 1) 59 <| lt (σ3.1 44 0 (nI 1).toNatClampNeg) fun (x5 : Int32) => (LX8_filters_32 p1 p2 x5 (fun (x13 : Int32) (σ14 : St) => gi (nI 1) 59 <| lt (wI σ14 44 0 (nI 1).toNatClampNeg x5) fun (σ15 : St) => some (x13, σ15)) FU (-2) (nI 20) σ3) else some ((-1), σ3))
set_option maxRecDepth 20000 in
theorem vLX8_filters_32 {Y : Cx} (a1 : Int32) (a2 : Int32) (a3 : Int32) (C : Ok Y RX8 cX8_filters 7 5) (M : OkM Y (some .int)) (ke : Int32 → St → Option (Int32 × St)) (hke : ∀ (b4 : Int32) (σ : St), V Y gI 90 [(0, .ref (adr Y 8 0)), (3, .int a3), (4, .int b4)] [] σ (ke b4 σ)) : ∀ (n : Nat) (b4 : Int32) (b5 : Int32) (σ : St), V Y gI 32 [(0, .ref (adr Y 8 0)), (1, .int a1), (2, .int a2), (3, .int a3), (4, .int b4), (5, .int b5)] [] σ (LX8_filters_32 a1 a2 a3 ke n b4 b5 σ) := by
  intro n
  induction n with
  | zero => intros; exact v_none
  | succ n ih =>
    intro b4 b5 σ
    rw [LX8_filters_32]
    refine v_iload 5 C dX8_filters_32 rfl ?_
    refine v_if_lt (tgt := 90) C dX8_filters_34 (by decide) ?_ ?_
    · skip
      exact v_lv (hke b4 σ) [0, 3, 4] rfl
    · skip
      refine v_aload_n 0 C dX8_filters_37 rfl ?_
      refine v_getc C dX8_filters_38 lf_X8_17 ck_8 rfl ?_
      refine v_iconst C dX8_filters_41 kc_iconst_1 ?_
      refine v_iload 5 C dX8_filters_42 rfl ?_
      refine v_iastoreL C dX8_filters_44 ck_44 (by decide) rfl (fun σ6 => ?_)
      refine v_aload_n 0 C dX8_filters_45 rfl ?_
      refine v_iload_n 1 C dX8_filters_46 rfl ?_
      refine v_iload_n 2 C dX8_filters_47 rfl ?_
      refine v_cV2v C dX8_filters_48 lv_X8_275 ck_8 (kX8_passes a1 a2 _) (by decide) (Nat.le_of_ble_eq_true rfl) (fun _ σ7 => ?_)
      refine v_aload_n 0 C dX8_filters_51 rfl ?_
      refine v_cV0i C dX8_filters_52 lv_X8_281 ck_8 (kX8_sureAt _) (by decide) (Nat.le_of_ble_eq_true rfl) (fun r9 σ8 => ?_)
      refine v_istore (lv' := [(6, .int r9), (0, .ref (adr Y 8 0)), (1, .int a1), (2, .int a2), (3, .int a3), (4, .int b4), (5, .int b5)]) C dX8_filters_55 (by decide) rfl ?_
      refine v_iload 0 C dX8_filters_57 rfl ?_
      refine v_bipush C dX8_filters_59 kc_bipush_m2 ?_
      refine v_jn (fun j82 => ∀ (x11 : Int32) (σ10 : St), V Y gI 82 [(0, .ref (adr Y 8 0)), (1, .int a1), (2, .int a2), (3, .int a3), (5, .int b5)] [.int x11] σ10 (j82 x11 σ10)) ?_ ?_
      · intro x11 σ10
        refine v_istore (lv' := [(4, .int x11), (0, .ref (adr Y 8 0)), (1, .int a1), (2, .int a2), (3, .int a3), (5, .int b5)]) C dX8_filters_82 (by decide) rfl ?_
        refine v_iinc (lv' := [(5, .int (b5 + (-1))), (4, .int x11), (0, .ref (adr Y 8 0)), (1, .int a1), (2, .int a2), (3, .int a3)]) 5 C dX8_filters_84 rfl (congrArg (b5 + ·) kc_iconst_m1) (by decide) rfl ?_
        refine v_goto (tgt := 32) C dX8_filters_87 (by decide) ?_
        exact v_lv (ih x11 (b5 + (-1)) σ10) [2, 3, 4, 5, 1, 0] rfl
      · intro j82 hj82
        refine v_jn (fun j80 => ∀ (σ12 : St), V Y gI 80 [(0, .ref (adr Y 8 0)), (1, .int a1), (2, .int a2), (3, .int a3), (4, .int b4), (5, .int b5)] [] σ12 (j80 σ12)) ?_ ?_
        · intro σ12
          refine v_iload 4 C dX8_filters_80 rfl ?_
          exact v_lv (hj82 b4 σ12) [0, 1, 2, 3, 5] rfl
        · intro j80 hj80
          refine v_icmp_eq (tgt := 80) C dX8_filters_61 (by decide) ?_ ?_
          · skip
            exact v_lv (hj80 σ8) [1, 2, 3, 4, 5, 6] rfl
          · skip
            refine v_iload 0 C dX8_filters_64 rfl ?_
            refine v_aload_n 1 C dX8_filters_66 rfl ?_
            refine v_getc C dX8_filters_67 lf_X8_17 ck_8 rfl ?_
            refine v_iconst C dX8_filters_70 kc_iconst_2 ?_
            refine v_iaload C dX8_filters_71 ck_44 (by decide) rfl ?_
            refine v_icmp_gt (tgt := 80) C dX8_filters_72 (by decide) ?_ ?_
            · skip
              exact v_lv (hj80 σ8) [1, 2, 3, 4, 5, 6] rfl
            · skip
              refine v_iload 6 C dX8_filters_75 rfl ?_
              refine v_goto (tgt := 82) C dX8_filters_77 (by decide) ?_
              exact v_lv (hj82 b5 σ8) [1, 2, 3, 4, 6] rfl
set_option maxRecDepth 20000 in
theorem kX8_filters {X : Cx} (p1 : Int32) (p2 : Int32) (σ : St) : Kon X 5 yX8_filters cX8_filters 7 (some .int) gI [.ref (adr X 8 0), .int p1, .int p2] σ (fX8_filters p1 p2 σ) := by
  refine konJ (own := RX8) (fun _ => gI) (fun a b => [.ref (a 8 0), .int p1, .int p2]) (by decide +kernel) rfl (fun _ _ => Nat.le_of_ble_eq_true rfl) (fun Y C M => ?_)
  show V Y gI 0 [(0, .ref (adr Y 8 0)), (1, .int p1), (2, .int p2)] [] σ (fX8_filters p1 p2 σ)
  unfold fX8_filters
  refine v_aload_n 0 C dX8_filters_0 rfl ?_
  refine v_aload_n 0 C dX8_filters_1 rfl ?_
  refine v_iconst C dX8_filters_2 kc_iconst_1 ?_
  refine v_iload_n 1 C dX8_filters_3 rfl ?_
  refine v_iload_n 2 C dX8_filters_4 rfl ?_
  refine v_iconst C dX8_filters_5 kc_iconst_0 ?_
  refine v_cV4i C dX8_filters_6 lv_X8_271 ck_8 (kX8_passWhy (nI 1) p1 p2 0 _) (by decide) (Nat.le_of_ble_eq_true rfl) (fun r2 σ1 => ?_)
  refine v_cV1i C dX8_filters_9 lv_X8_180 ck_8 (kX8_isRefused r2 _) (by decide) (Nat.le_of_ble_eq_true rfl) (fun r4 σ3 => ?_)
  refine v_if_eq (tgt := 17) C dX8_filters_12 (by decide) ?_ ?_
  · skip
    refine v_aload_n 0 C dX8_filters_17 rfl ?_
    refine v_getc C dX8_filters_18 lf_X8_17 ck_8 rfl ?_
    refine v_iconst C dX8_filters_21 kc_iconst_1 ?_
    refine v_iaload C dX8_filters_22 ck_44 (by decide) rfl ?_
    refine v_istore_nL (lv0 := [(0, .ref (adr Y 8 0)), (1, .int p1), (2, .int p2)]) C dX8_filters_23 rfl (by decide) rfl (fun x5 => ?_)
    refine v_bipush C dX8_filters_24 kc_bipush_m2 ?_
    refine v_istore (lv' := [(4, .int (-2)), (3, .int x5), (0, .ref (adr Y 8 0)), (1, .int p1), (2, .int p2)]) C dX8_filters_26 (by decide) rfl ?_
    refine v_bipush C dX8_filters_28 kc_bipush_20 ?_
    refine v_istore (lv' := [(5, .int (nI 20)), (4, .int (-2)), (3, .int x5), (0, .ref (adr Y 8 0)), (1, .int p1), (2, .int p2)]) C dX8_filters_30 (by decide) rfl ?_
    refine v_lv (vLX8_filters_32 _ _ _ C M _ (fun x13 σ14 => ?_) FU _ _ _) [3, 4, 5, 2, 1, 0] rfl
    refine v_aload_n 0 C dX8_filters_90 rfl ?_
    refine v_getc C dX8_filters_91 lf_X8_17 ck_8 rfl ?_
    refine v_iconst C dX8_filters_94 kc_iconst_1 ?_
    refine v_iload_n 1 C dX8_filters_95 rfl ?_
    refine v_iastoreL C dX8_filters_96 ck_44 (by decide) rfl (fun σ15 => ?_)
    refine v_iload 2 C dX8_filters_97 rfl ?_
    exact v_iret C M dX8_filters_99
  · skip
    refine v_iconst C dX8_filters_15 kc_iconst_m1 ?_
    exact v_iret C M dX8_filters_16
-- OpenLinesModel settled(II)I, depth 5
def LX8_settled_22 (a1 : Int32) (a2 : Int32) (ke : Int32 → St → Option (Int32 × St)) : Nat → Int32 → Int32 → St → Option (Int32 × St)
  | 0, _, _, _ => none
  | n + 1, b3, b4, σ => gi (nI 3) 59 <| (if ((nI 1) <<< ((σ.1 44 0 (nI 3).toNatClampNeg) &&& 31)) ≤ b4 then ke b3 σ else bd (fX8_passes a1 b4 σ) fun _ (σ5 : St) => bd (fX8_settledAt σ5) fun (r7 : Int32) (σ6 : St) => lt (b3 + (if a2 < r7 then 0 else (nI 1))) fun (x11 : Int32) => LX8_settled_22 a1 a2 ke n x11 (b4 + nI 1) σ6)
def fX8_settled (p1 : Int32) (p2 : Int32) (σ : St) : Option (Int32 × St) :=
  bd (fX8_passWhy (nI 1) p1 (nI 1) p2 σ) fun (r2 : Int32) (σ1 : St) => bd (fX8_isRefused r2 σ1) fun (r4 : Int32) (σ3 : St) => (if r4 = 0 then (LX8_settled_22 p1 p2 (fun (x12 : Int32) (σ13 : St) => some (x12, σ13)) FU 0 (nI 1) σ3) else some ((-1), σ3))
set_option maxRecDepth 20000 in
theorem vLX8_settled_22 {Y : Cx} (a1 : Int32) (a2 : Int32) (C : Ok Y RX8 cX8_settled 5 5) (M : OkM Y (some .int)) (ke : Int32 → St → Option (Int32 × St)) (hke : ∀ (b3 : Int32) (σ : St), V Y gI 64 [(3, .int b3)] [] σ (ke b3 σ)) : ∀ (n : Nat) (b3 : Int32) (b4 : Int32) (σ : St), V Y gI 22 [(0, .ref (adr Y 8 0)), (1, .int a1), (2, .int a2), (3, .int b3), (4, .int b4)] [] σ (LX8_settled_22 a1 a2 ke n b3 b4 σ) := by
  intro n
  induction n with
  | zero => intros; exact v_none
  | succ n ih =>
    intro b3 b4 σ
    rw [LX8_settled_22]
    refine v_iload 4 C dX8_settled_22 rfl ?_
    refine v_iconst C dX8_settled_24 kc_iconst_1 ?_
    refine v_aload_n 0 C dX8_settled_25 rfl ?_
    refine v_getc C dX8_settled_26 lf_X8_17 ck_8 rfl ?_
    refine v_iconst C dX8_settled_29 kc_iconst_3 ?_
    refine v_iaload C dX8_settled_30 ck_44 (by decide) rfl ?_
    refine v_ishl C dX8_settled_31 ?_
    refine v_icmp_ge (tgt := 64) C dX8_settled_32 (by decide) ?_ ?_
    · skip
      exact v_lv (hke b3 σ) [3] rfl
    · skip
      refine v_aload_n 0 C dX8_settled_35 rfl ?_
      refine v_iload_n 1 C dX8_settled_36 rfl ?_
      refine v_iload 4 C dX8_settled_37 rfl ?_
      refine v_cV2v C dX8_settled_39 lv_X8_275 ck_8 (kX8_passes a1 b4 _) (by decide) (Nat.le_of_ble_eq_true rfl) (fun _ σ5 => ?_)
      refine v_iload_n 3 C dX8_settled_42 rfl ?_
      refine v_aload_n 0 C dX8_settled_43 rfl ?_
      refine v_cV0i C dX8_settled_44 lv_X8_278 ck_8 (kX8_settledAt _) (by decide) (Nat.le_of_ble_eq_true rfl) (fun r7 σ6 => ?_)
      refine v_iload_n 2 C dX8_settled_47 rfl ?_
      refine v_cut (pcJ := 56) (lv := [(0, .ref (adr Y 8 0)), (1, .int a1), (2, .int a2), (3, .int b3), (4, .int b4)]) (st := .int (if a2 < r7 then 0 else (nI 1)) :: [.int b3]) ?_ (fun hj8 => ?_)
      rotate_left
      · skip
        refine v_icmp_gt_b (tgt := 55) C dX8_settled_48 (by decide) (fun h9 => ?_) (fun h9 => ?_)
        · have hj10 := v_jpos h9 hj8
          refine v_iconst C dX8_settled_55 kc_iconst_0 ?_
          exact hj10
        · have hj10 := v_jneg h9 hj8
          refine v_iconst C dX8_settled_51 kc_iconst_1 ?_
          refine v_goto (tgt := 56) C dX8_settled_52 (by decide) ?_
          exact hj10
      refine v_iadd C dX8_settled_56 ?_
      refine v_istore_nL (lv0 := [(0, .ref (adr Y 8 0)), (1, .int a1), (2, .int a2), (4, .int b4)]) C dX8_settled_57 rfl (by decide) rfl (fun x11 => ?_)
      refine v_iinc (lv' := [(4, .int (b4 + nI 1)), (3, .int x11), (0, .ref (adr Y 8 0)), (1, .int a1), (2, .int a2)]) 4 C dX8_settled_58 rfl (congrArg (b4 + ·) kc_iconst_1) (by decide) rfl ?_
      refine v_goto (tgt := 22) C dX8_settled_61 (by decide) ?_
      exact v_lv (ih x11 (b4 + nI 1) σ6) [2, 3, 4, 1, 0] rfl
set_option maxRecDepth 20000 in
theorem kX8_settled {X : Cx} (p1 : Int32) (p2 : Int32) (σ : St) : Kon X 5 yX8_settled cX8_settled 5 (some .int) gI [.ref (adr X 8 0), .int p1, .int p2] σ (fX8_settled p1 p2 σ) := by
  refine konJ (own := RX8) (fun _ => gI) (fun a b => [.ref (a 8 0), .int p1, .int p2]) (by decide +kernel) rfl (fun _ _ => Nat.le_of_ble_eq_true rfl) (fun Y C M => ?_)
  show V Y gI 0 [(0, .ref (adr Y 8 0)), (1, .int p1), (2, .int p2)] [] σ (fX8_settled p1 p2 σ)
  unfold fX8_settled
  refine v_aload_n 0 C dX8_settled_0 rfl ?_
  refine v_aload_n 0 C dX8_settled_1 rfl ?_
  refine v_iconst C dX8_settled_2 kc_iconst_1 ?_
  refine v_iload_n 1 C dX8_settled_3 rfl ?_
  refine v_iconst C dX8_settled_4 kc_iconst_1 ?_
  refine v_iload_n 2 C dX8_settled_5 rfl ?_
  refine v_cV4i C dX8_settled_6 lv_X8_271 ck_8 (kX8_passWhy (nI 1) p1 (nI 1) p2 _) (by decide) (Nat.le_of_ble_eq_true rfl) (fun r2 σ1 => ?_)
  refine v_cV1i C dX8_settled_9 lv_X8_180 ck_8 (kX8_isRefused r2 _) (by decide) (Nat.le_of_ble_eq_true rfl) (fun r4 σ3 => ?_)
  refine v_if_eq (tgt := 17) C dX8_settled_12 (by decide) ?_ ?_
  · skip
    refine v_iconst C dX8_settled_17 kc_iconst_0 ?_
    refine v_istore_n (lv' := [(3, .int 0), (0, .ref (adr Y 8 0)), (1, .int p1), (2, .int p2)]) C dX8_settled_18 rfl (by decide) rfl ?_
    refine v_iconst C dX8_settled_19 kc_iconst_1 ?_
    refine v_istore (lv' := [(4, .int (nI 1)), (3, .int 0), (0, .ref (adr Y 8 0)), (1, .int p1), (2, .int p2)]) C dX8_settled_20 (by decide) rfl ?_
    refine v_lv (vLX8_settled_22 _ _ C M _ (fun x12 σ13 => ?_) FU _ _ _) [2, 3, 4, 1, 0] rfl
    refine v_iload_n 0 C dX8_settled_64 rfl ?_
    exact v_iret C M dX8_settled_65
  · skip
    refine v_iconst C dX8_settled_15 kc_iconst_m1 ?_
    exact v_iret C M dX8_settled_16
-- OpenLinesModel slowest(I)I, depth 5
def LX8_slowest_24 (a1 : Int32) (ke : Int32 → St → Option (Int32 × St)) : Nat → Int32 → Int32 → Int32 → St → Option (Int32 × St)
  | 0, _, _, _, _ => none
  | n + 1, b2, b3, b4, σ => gi (nI 3) 59 <| (if ((nI 1) <<< ((σ.1 44 0 (nI 3).toNatClampNeg) &&& 31)) ≤ b4 then ke b2 σ else bd (fX8_passes a1 b4 σ) fun _ (σ5 : St) => bd (fX8_settledAt σ5) fun (r7 : Int32) (σ6 : St) => (jn (fun (x9 : Int32) (x10 : Int32) (σ8 : St) => LX8_slowest_24 a1 ke n x9 x10 (b4 + nI 1) σ8) fun j60 => if r7 ≤ b3 then j60 b2 b3 σ6 else bd (fX8_settledAt σ6) fun (r12 : Int32) (σ11 : St) => j60 b4 r12 σ11))
def fX8_slowest (p1 : Int32) (σ : St) : Option (Int32 × St) :=
  bd (fX8_passWhy (nI 1) p1 (nI 1) 0 σ) fun (r2 : Int32) (σ1 : St) => bd (fX8_isRefused r2 σ1) fun (r4 : Int32) (σ3 : St) => (if r4 = 0 then (LX8_slowest_24 p1 (fun (x13 : Int32) (σ14 : St) => some (x13, σ14)) FU 0 (-1) (nI 1) σ3) else some ((-1), σ3))
set_option maxRecDepth 20000 in
theorem vLX8_slowest_24 {Y : Cx} (a1 : Int32) (C : Ok Y RX8 cX8_slowest 5 5) (M : OkM Y (some .int)) (ke : Int32 → St → Option (Int32 × St)) (hke : ∀ (b2 : Int32) (σ : St), V Y gI 66 [(2, .int b2)] [] σ (ke b2 σ)) : ∀ (n : Nat) (b2 : Int32) (b3 : Int32) (b4 : Int32) (σ : St), V Y gI 24 [(0, .ref (adr Y 8 0)), (1, .int a1), (2, .int b2), (3, .int b3), (4, .int b4)] [] σ (LX8_slowest_24 a1 ke n b2 b3 b4 σ) := by
  intro n
  induction n with
  | zero => intros; exact v_none
  | succ n ih =>
    intro b2 b3 b4 σ
    rw [LX8_slowest_24]
    refine v_iload 4 C dX8_slowest_24 rfl ?_
    refine v_iconst C dX8_slowest_26 kc_iconst_1 ?_
    refine v_aload_n 0 C dX8_slowest_27 rfl ?_
    refine v_getc C dX8_slowest_28 lf_X8_17 ck_8 rfl ?_
    refine v_iconst C dX8_slowest_31 kc_iconst_3 ?_
    refine v_iaload C dX8_slowest_32 ck_44 (by decide) rfl ?_
    refine v_ishl C dX8_slowest_33 ?_
    refine v_icmp_ge (tgt := 66) C dX8_slowest_34 (by decide) ?_ ?_
    · skip
      exact v_lv (hke b2 σ) [2] rfl
    · skip
      refine v_aload_n 0 C dX8_slowest_37 rfl ?_
      refine v_iload_n 1 C dX8_slowest_38 rfl ?_
      refine v_iload 4 C dX8_slowest_39 rfl ?_
      refine v_cV2v C dX8_slowest_41 lv_X8_275 ck_8 (kX8_passes a1 b4 _) (by decide) (Nat.le_of_ble_eq_true rfl) (fun _ σ5 => ?_)
      refine v_aload_n 0 C dX8_slowest_44 rfl ?_
      refine v_cV0i C dX8_slowest_45 lv_X8_278 ck_8 (kX8_settledAt _) (by decide) (Nat.le_of_ble_eq_true rfl) (fun r7 σ6 => ?_)
      refine v_iload_n 3 C dX8_slowest_48 rfl ?_
      refine v_jn (fun j60 => ∀ (x9 : Int32) (x10 : Int32) (σ8 : St), V Y gI 60 [(0, .ref (adr Y 8 0)), (1, .int a1), (2, .int x9), (3, .int x10), (4, .int b4)] [] σ8 (j60 x9 x10 σ8)) ?_ ?_
      · intro x9 x10 σ8
        refine v_iinc (lv' := [(4, .int (b4 + nI 1)), (0, .ref (adr Y 8 0)), (1, .int a1), (2, .int x9), (3, .int x10)]) 4 C dX8_slowest_60 rfl (congrArg (b4 + ·) kc_iconst_1) (by decide) rfl ?_
        refine v_goto (tgt := 24) C dX8_slowest_63 (by decide) ?_
        exact v_lv (ih x9 x10 (b4 + nI 1) σ8) [1, 2, 3, 4, 0] rfl
      · intro j60 hj60
        refine v_icmp_le (tgt := 60) C dX8_slowest_49 (by decide) ?_ ?_
        · skip
          exact v_lv (hj60 b2 b3 σ6) [0, 1, 2, 3, 4] rfl
        · skip
          refine v_aload_n 0 C dX8_slowest_52 rfl ?_
          refine v_cV0i C dX8_slowest_53 lv_X8_278 ck_8 (kX8_settledAt _) (by decide) (Nat.le_of_ble_eq_true rfl) (fun r12 σ11 => ?_)
          refine v_istore_n (lv' := [(3, .int r12), (0, .ref (adr Y 8 0)), (1, .int a1), (2, .int b2), (4, .int b4)]) C dX8_slowest_56 rfl (by decide) rfl ?_
          refine v_iload 4 C dX8_slowest_57 rfl ?_
          refine v_istore_n (lv' := [(2, .int b4), (3, .int r12), (0, .ref (adr Y 8 0)), (1, .int a1), (4, .int b4)]) C dX8_slowest_59 rfl (by decide) rfl ?_
          exact v_lv (hj60 b4 r12 σ11) [2, 3, 0, 1, 4] rfl
set_option maxRecDepth 20000 in
theorem kX8_slowest {X : Cx} (p1 : Int32) (σ : St) : Kon X 5 yX8_slowest cX8_slowest 5 (some .int) gI [.ref (adr X 8 0), .int p1] σ (fX8_slowest p1 σ) := by
  refine konJ (own := RX8) (fun _ => gI) (fun a b => [.ref (a 8 0), .int p1]) (by decide +kernel) rfl (fun _ _ => Nat.le_of_ble_eq_true rfl) (fun Y C M => ?_)
  show V Y gI 0 [(0, .ref (adr Y 8 0)), (1, .int p1)] [] σ (fX8_slowest p1 σ)
  unfold fX8_slowest
  refine v_aload_n 0 C dX8_slowest_0 rfl ?_
  refine v_aload_n 0 C dX8_slowest_1 rfl ?_
  refine v_iconst C dX8_slowest_2 kc_iconst_1 ?_
  refine v_iload_n 1 C dX8_slowest_3 rfl ?_
  refine v_iconst C dX8_slowest_4 kc_iconst_1 ?_
  refine v_iconst C dX8_slowest_5 kc_iconst_0 ?_
  refine v_cV4i C dX8_slowest_6 lv_X8_271 ck_8 (kX8_passWhy (nI 1) p1 (nI 1) 0 _) (by decide) (Nat.le_of_ble_eq_true rfl) (fun r2 σ1 => ?_)
  refine v_cV1i C dX8_slowest_9 lv_X8_180 ck_8 (kX8_isRefused r2 _) (by decide) (Nat.le_of_ble_eq_true rfl) (fun r4 σ3 => ?_)
  refine v_if_eq (tgt := 17) C dX8_slowest_12 (by decide) ?_ ?_
  · skip
    refine v_iconst C dX8_slowest_17 kc_iconst_0 ?_
    refine v_istore_n (lv' := [(2, .int 0), (0, .ref (adr Y 8 0)), (1, .int p1)]) C dX8_slowest_18 rfl (by decide) rfl ?_
    refine v_iconst C dX8_slowest_19 kc_iconst_m1 ?_
    refine v_istore_n (lv' := [(3, .int (-1)), (2, .int 0), (0, .ref (adr Y 8 0)), (1, .int p1)]) C dX8_slowest_20 rfl (by decide) rfl ?_
    refine v_iconst C dX8_slowest_21 kc_iconst_1 ?_
    refine v_istore (lv' := [(4, .int (nI 1)), (3, .int (-1)), (2, .int 0), (0, .ref (adr Y 8 0)), (1, .int p1)]) C dX8_slowest_22 (by decide) rfl ?_
    refine v_lv (vLX8_slowest_24 _ C M _ (fun x13 σ14 => ?_) FU _ _ _ _) [3, 4, 2, 1, 0] rfl
    refine v_iload_n 0 C dX8_slowest_66 rfl ?_
    exact v_iret C M dX8_slowest_67
  · skip
    refine v_iconst C dX8_slowest_15 kc_iconst_m1 ?_
    exact v_iret C M dX8_slowest_16
-- OpenLinesModel enough(I)I, depth 5
def LX8_enough_21 (a1 : Int32) (ke : Int32 → St → Option (Int32 × St)) : Nat → Int32 → Int32 → St → Option (Int32 × St)
  | 0, _, _, _ => none
  | n + 1, b2, b3, σ => gi (nI 3) 59 <| (if ((nI 1) <<< ((σ.1 44 0 (nI 3).toNatClampNeg) &&& 31)) ≤ b3 then ke b2 σ else bd (fX8_passes a1 b3 σ) fun _ (σ5 : St) => bd (fX8_sureAt σ5) fun (r7 : Int32) (σ6 : St) => (if r7 = (-2) then some ((-2), σ6) else lt (if r7 ≤ b2 then b2 else r7) fun (x11 : Int32) => LX8_enough_21 a1 ke n x11 (b3 + nI 1) σ6))
def fX8_enough (p1 : Int32) (σ : St) : Option (Int32 × St) :=
  bd (fX8_passWhy (nI 1) p1 (nI 1) 0 σ) fun (r2 : Int32) (σ1 : St) => bd (fX8_isRefused r2 σ1) fun (r4 : Int32) (σ3 : St) => (if r4 = 0 then (LX8_enough_21 p1 (fun (x12 : Int32) (σ13 : St) => some (x12, σ13)) FU 0 (nI 1) σ3) else some ((-1), σ3))
set_option maxRecDepth 20000 in
theorem vLX8_enough_21 {Y : Cx} (a1 : Int32) (C : Ok Y RX8 cX8_enough 5 5) (M : OkM Y (some .int)) (ke : Int32 → St → Option (Int32 × St)) (hke : ∀ (b2 : Int32) (σ : St), V Y gI 74 [(2, .int b2)] [] σ (ke b2 σ)) : ∀ (n : Nat) (b2 : Int32) (b3 : Int32) (σ : St), V Y gI 21 [(0, .ref (adr Y 8 0)), (1, .int a1), (2, .int b2), (3, .int b3)] [] σ (LX8_enough_21 a1 ke n b2 b3 σ) := by
  intro n
  induction n with
  | zero => intros; exact v_none
  | succ n ih =>
    intro b2 b3 σ
    rw [LX8_enough_21]
    refine v_iload_n 3 C dX8_enough_21 rfl ?_
    refine v_iconst C dX8_enough_22 kc_iconst_1 ?_
    refine v_aload_n 0 C dX8_enough_23 rfl ?_
    refine v_getc C dX8_enough_24 lf_X8_17 ck_8 rfl ?_
    refine v_iconst C dX8_enough_27 kc_iconst_3 ?_
    refine v_iaload C dX8_enough_28 ck_44 (by decide) rfl ?_
    refine v_ishl C dX8_enough_29 ?_
    refine v_icmp_ge (tgt := 74) C dX8_enough_30 (by decide) ?_ ?_
    · skip
      exact v_lv (hke b2 σ) [2] rfl
    · skip
      refine v_aload_n 0 C dX8_enough_33 rfl ?_
      refine v_iload_n 1 C dX8_enough_34 rfl ?_
      refine v_iload_n 3 C dX8_enough_35 rfl ?_
      refine v_cV2v C dX8_enough_36 lv_X8_275 ck_8 (kX8_passes a1 b3 _) (by decide) (Nat.le_of_ble_eq_true rfl) (fun _ σ5 => ?_)
      refine v_aload_n 0 C dX8_enough_39 rfl ?_
      refine v_cV0i C dX8_enough_40 lv_X8_281 ck_8 (kX8_sureAt _) (by decide) (Nat.le_of_ble_eq_true rfl) (fun r7 σ6 => ?_)
      refine v_istore (lv' := [(4, .int r7), (0, .ref (adr Y 8 0)), (1, .int a1), (2, .int b2), (3, .int b3)]) C dX8_enough_43 (by decide) rfl ?_
      refine v_iload 0 C dX8_enough_45 rfl ?_
      refine v_bipush C dX8_enough_47 kc_bipush_m2 ?_
      refine v_icmp_ne (tgt := 55) C dX8_enough_49 (by decide) ?_ ?_
      · skip
        refine v_iload 0 C dX8_enough_55 rfl ?_
        refine v_iload_n 3 C dX8_enough_57 rfl ?_
        refine v_cut (pcJ := 67) (lv := [(4, .int r7), (0, .ref (adr Y 8 0)), (1, .int a1), (2, .int b2), (3, .int b3)]) (st := .int (if r7 ≤ b2 then b2 else r7) :: []) ?_ (fun hj8 => ?_)
        rotate_left
        · skip
          refine v_icmp_le_b (tgt := 66) C dX8_enough_58 (by decide) (fun h9 => ?_) (fun h9 => ?_)
          · have hj10 := v_jpos h9 hj8
            refine v_iload_n 3 C dX8_enough_66 rfl ?_
            exact hj10
          · have hj10 := v_jneg h9 hj8
            refine v_iload 0 C dX8_enough_61 rfl ?_
            refine v_goto (tgt := 67) C dX8_enough_63 (by decide) ?_
            exact hj10
        refine v_istore_nL (lv0 := [(4, .int r7), (0, .ref (adr Y 8 0)), (1, .int a1), (3, .int b3)]) C dX8_enough_67 rfl (by decide) rfl (fun x11 => ?_)
        refine v_iinc (lv' := [(3, .int (b3 + nI 1)), (2, .int x11), (4, .int r7), (0, .ref (adr Y 8 0)), (1, .int a1)]) 4 C dX8_enough_68 rfl (congrArg (b3 + ·) kc_iconst_1) (by decide) rfl ?_
        refine v_goto (tgt := 21) C dX8_enough_71 (by decide) ?_
        exact v_lv (ih x11 (b3 + nI 1) σ6) [3, 4, 1, 0] rfl
      · skip
        refine v_bipush C dX8_enough_52 kc_bipush_m2 ?_
        exact v_iret C M dX8_enough_54
set_option maxRecDepth 20000 in
theorem kX8_enough {X : Cx} (p1 : Int32) (σ : St) : Kon X 5 yX8_enough cX8_enough 5 (some .int) gI [.ref (adr X 8 0), .int p1] σ (fX8_enough p1 σ) := by
  refine konJ (own := RX8) (fun _ => gI) (fun a b => [.ref (a 8 0), .int p1]) (by decide +kernel) rfl (fun _ _ => Nat.le_of_ble_eq_true rfl) (fun Y C M => ?_)
  show V Y gI 0 [(0, .ref (adr Y 8 0)), (1, .int p1)] [] σ (fX8_enough p1 σ)
  unfold fX8_enough
  refine v_aload_n 0 C dX8_enough_0 rfl ?_
  refine v_aload_n 0 C dX8_enough_1 rfl ?_
  refine v_iconst C dX8_enough_2 kc_iconst_1 ?_
  refine v_iload_n 1 C dX8_enough_3 rfl ?_
  refine v_iconst C dX8_enough_4 kc_iconst_1 ?_
  refine v_iconst C dX8_enough_5 kc_iconst_0 ?_
  refine v_cV4i C dX8_enough_6 lv_X8_271 ck_8 (kX8_passWhy (nI 1) p1 (nI 1) 0 _) (by decide) (Nat.le_of_ble_eq_true rfl) (fun r2 σ1 => ?_)
  refine v_cV1i C dX8_enough_9 lv_X8_180 ck_8 (kX8_isRefused r2 _) (by decide) (Nat.le_of_ble_eq_true rfl) (fun r4 σ3 => ?_)
  refine v_if_eq (tgt := 17) C dX8_enough_12 (by decide) ?_ ?_
  · skip
    refine v_iconst C dX8_enough_17 kc_iconst_0 ?_
    refine v_istore_n (lv' := [(2, .int 0), (0, .ref (adr Y 8 0)), (1, .int p1)]) C dX8_enough_18 rfl (by decide) rfl ?_
    refine v_iconst C dX8_enough_19 kc_iconst_1 ?_
    refine v_istore_n (lv' := [(3, .int (nI 1)), (2, .int 0), (0, .ref (adr Y 8 0)), (1, .int p1)]) C dX8_enough_20 rfl (by decide) rfl ?_
    refine v_lv (vLX8_enough_21 _ C M _ (fun x12 σ13 => ?_) FU _ _ _) [2, 3, 1, 0] rfl
    refine v_iload_n 0 C dX8_enough_74 rfl ?_
    exact v_iret C M dX8_enough_75
  · skip
    refine v_iconst C dX8_enough_15 kc_iconst_m1 ?_
    exact v_iret C M dX8_enough_16
-- OpenLinesModel elects(IZ)I, depth 4
def LX8_elects_33 (a2 : Int32) (a3 : Int32) (a4 : Int32) (ke : St → Option (Int32 × St)) : Nat → Int32 → St → Option (Int32 × St)
  | 0, _, _ => none
  | n + 1, b5, σ => gi (nI 3) 59 <| (if (σ.1 44 0 (nI 3).toNatClampNeg) ≤ b5 then ke σ else (jn (fun (x5 : Int32) (σ4 : St) => gi b5 6 <| lt (wI σ4 50 0 b5.toNatClampNeg x5) fun (σ6 : St) => LX8_elects_33 a2 a3 a4 ke n (b5 + nI 1) σ6) fun j86 => if a2 = 0 then bd (fX8_wordOf b5 a4 σ) fun (r8 : Int32) (σ7 : St) => j86 r8 σ7 else gi (fX8_at b5 (if a4 = (nI 1) then (nI 4) else (nI 5))) 251 <| j86 (σ.1 47 0 (fX8_at b5 (if a4 = (nI 1) then (nI 4) else (nI 5))).toNatClampNeg) σ))
def LX8_elects_20 (a2 : Int32) (ke : Int32 → St → Option (Int32 × St)) : Nat → Int32 → Int32 → St → Option (Int32 × St)
  | 0, _, _, _ => none
  | n + 1, b3, b4, σ => (if (nI 3) ≤ b4 then ke b3 σ else (if b3 = 0 then ke b3 σ else (LX8_elects_33 a2 b3 b4 (fun (σ12 : St) => bd (fX8_laysPass b3 σ12) fun _ (σ13 : St) => gi (nI 2) 59 <| bd (fX8_isFaultyAt (σ13.1 44 0 (nI 2).toNatClampNeg) σ13) fun (r15 : Int32) (σ14 : St) => lt (wI σ14 8 0 30 ((σ13.1 8 0 30) + (if r15 = 0 then 0 else (nI 1)))) fun (σ19 : St) => gi (nI 2) 59 <| bd (fX8_winnersAt (σ19.1 44 0 (nI 2).toNatClampNeg) σ19) fun (r21 : Int32) (σ20 : St) => lt (wI σ20 8 0 31 (if b4 = (nI 1) then r21 else (σ20.1 8 0 31))) fun (σ25 : St) => lt (wI σ25 8 0 32 (if b4 = (nI 2) then r21 else 0)) fun (σ29 : St) => LX8_elects_20 a2 ke n r21 (b4 + nI 1) σ29) FU 0 σ)))
def LX8_elects_178 (a3 : Int32) (ke : Int32 → St → Option (Int32 × St)) : Nat → Int32 → St → Option (Int32 × St)
  | 0, _, _ => none
  | n + 1, b4, σ => (if a3 = 0 then ke b4 σ else (if (fX8_has a3 b4) = 0 then LX8_elects_178 a3 ke n (b4 + nI 1) σ else ke b4 σ))
def fX8_elects (p1 : Int32) (p2 : Int32) (σ : St) : Option (Int32 × St) :=
  lt (wI σ 8 0 30 0) fun (σ1 : St) => lt (wI σ1 8 0 31 0) fun (σ2 : St) => lt (wI σ2 8 0 32 0) fun (σ3 : St) => (LX8_elects_20 p2 (fun (x30 : Int32) (σ31 : St) => (LX8_elects_178 x30 (fun (x32 : Int32) (σ33 : St) => bd (fX8_bitsOf x30 σ33) fun (r35 : Int32) (σ34 : St) => some (if r35 = (nI 1) then x32 else (-2), σ34)) FU 0 σ31)) FU p1 (nI 1) σ3)
set_option maxRecDepth 20000 in
theorem vLX8_elects_33 {Y : Cx} (a2 : Int32) (a3 : Int32) (a4 : Int32) (C : Ok Y RX8 cX8_elects 6 4) (M : OkM Y (some .int)) (ke : St → Option (Int32 × St)) (hke : ∀ (σ : St), V Y gI 93 [(0, .ref (adr Y 8 0)), (2, .int a2), (3, .int a3), (4, .int a4)] [] σ (ke σ)) : ∀ (n : Nat) (b5 : Int32) (σ : St), V Y gI 33 [(0, .ref (adr Y 8 0)), (2, .int a2), (3, .int a3), (4, .int a4), (5, .int b5)] [] σ (LX8_elects_33 a2 a3 a4 ke n b5 σ) := by
  intro n
  induction n with
  | zero => intros; exact v_none
  | succ n ih =>
    intro b5 σ
    rw [LX8_elects_33]
    refine v_iload 4 C dX8_elects_33 rfl ?_
    refine v_aload_n 0 C dX8_elects_35 rfl ?_
    refine v_getc C dX8_elects_36 lf_X8_17 ck_8 rfl ?_
    refine v_iconst C dX8_elects_39 kc_iconst_3 ?_
    refine v_iaload C dX8_elects_40 ck_44 (by decide) rfl ?_
    refine v_icmp_ge (tgt := 93) C dX8_elects_41 (by decide) ?_ ?_
    · skip
      exact v_lv (hke σ) [0, 1, 2, 3] rfl
    · skip
      refine v_aload_n 0 C dX8_elects_44 rfl ?_
      refine v_getc C dX8_elects_45 lf_X8_36 ck_8 rfl ?_
      refine v_iload 4 C dX8_elects_48 rfl ?_
      refine v_iload_n 1 C dX8_elects_50 rfl ?_
      refine v_jn (fun j86 => ∀ (x5 : Int32) (σ4 : St), V Y gI 86 [(0, .ref (adr Y 8 0)), (2, .int a2), (3, .int a3), (4, .int a4), (5, .int b5)] [.int x5, .int b5, .ref (adr Y 50 0)] σ4 (j86 x5 σ4)) ?_ ?_
      · intro x5 σ4
        refine v_iastoreL C dX8_elects_86 ck_50 (by decide) rfl (fun σ6 => ?_)
        refine v_iinc (lv' := [(5, .int (b5 + nI 1)), (0, .ref (adr Y 8 0)), (2, .int a2), (3, .int a3), (4, .int a4)]) 4 C dX8_elects_87 rfl (congrArg (b5 + ·) kc_iconst_1) (by decide) rfl ?_
        refine v_goto (tgt := 33) C dX8_elects_90 (by decide) ?_
        exact v_lv (ih (b5 + nI 1) σ6) [1, 2, 3, 4, 0] rfl
      · intro j86 hj86
        refine v_if_eq (tgt := 78) C dX8_elects_51 (by decide) ?_ ?_
        · skip
          refine v_aload_n 0 C dX8_elects_78 rfl ?_
          refine v_iload 4 C dX8_elects_79 rfl ?_
          refine v_iload 3 C dX8_elects_81 rfl ?_
          refine v_cV2i C dX8_elects_83 lv_X8_250 ck_8 (kX8_wordOf b5 a4 _) (by decide) (Nat.le_of_ble_eq_true rfl) (fun r8 σ7 => ?_)
          exact v_lv (hj86 r8 σ7) [0, 1, 2, 3, 4] rfl
        · skip
          refine v_aload_n 0 C dX8_elects_54 rfl ?_
          refine v_getc C dX8_elects_55 lf_X8_27 ck_8 rfl ?_
          refine v_iload 4 C dX8_elects_58 rfl ?_
          refine v_iload 3 C dX8_elects_60 rfl ?_
          refine v_iconst C dX8_elects_62 kc_iconst_1 ?_
          refine v_cut (pcJ := 71) (lv := [(0, .ref (adr Y 8 0)), (2, .int a2), (3, .int a3), (4, .int a4), (5, .int b5)]) (st := .int (if a4 = (nI 1) then (nI 4) else (nI 5)) :: [.int b5, .ref (adr Y 47 0), .int b5, .ref (adr Y 50 0)]) ?_ (fun hj9 => ?_)
          rotate_left
          · skip
            refine v_icmp_ne_b (tgt := 70) C dX8_elects_63 (by decide) (fun h10 => ?_) (fun h10 => ?_)
            · have hj11 := v_jneg h10 hj9
              refine v_iconst C dX8_elects_70 kc_iconst_5 ?_
              exact hj11
            · have hj11 := v_jpos h10 hj9
              refine v_iconst C dX8_elects_66 kc_iconst_4 ?_
              refine v_goto (tgt := 71) C dX8_elects_67 (by decide) ?_
              exact hj11
          refine v_cS2p C dX8_elects_71 ls_X8_201 (kX8_at b5 (if a4 = (nI 1) then (nI 4) else (nI 5)) _) (by decide) (Nat.le_of_ble_eq_true rfl) ?_
          refine v_iaload C dX8_elects_74 ck_47 (by decide) rfl ?_
          refine v_goto (tgt := 86) C dX8_elects_75 (by decide) ?_
          exact v_lv (hj86 (σ.1 47 0 (fX8_at b5 (if a4 = (nI 1) then (nI 4) else (nI 5))).toNatClampNeg) σ) [0, 1, 2, 3, 4] rfl
set_option maxRecDepth 20000 in
theorem vLX8_elects_20 {Y : Cx} (a2 : Int32) (C : Ok Y RX8 cX8_elects 6 4) (M : OkM Y (some .int)) (ke : Int32 → St → Option (Int32 × St)) (hke : ∀ (b3 : Int32) (σ : St), V Y gI 175 [(3, .int b3)] [] σ (ke b3 σ)) : ∀ (n : Nat) (b3 : Int32) (b4 : Int32) (σ : St), V Y gI 20 [(0, .ref (adr Y 8 0)), (2, .int a2), (3, .int b3), (4, .int b4)] [] σ (LX8_elects_20 a2 ke n b3 b4 σ) := by
  intro n
  induction n with
  | zero => intros; exact v_none
  | succ n ih =>
    intro b3 b4 σ
    rw [LX8_elects_20]
    refine v_iload 3 C dX8_elects_20 rfl ?_
    refine v_iconst C dX8_elects_22 kc_iconst_3 ?_
    refine v_icmp_ge (tgt := 175) C dX8_elects_23 (by decide) ?_ ?_
    · skip
      exact v_lv (hke b3 σ) [2] rfl
    · skip
      refine v_iload_n 2 C dX8_elects_26 rfl ?_
      refine v_if_eq (tgt := 175) C dX8_elects_27 (by decide) ?_ ?_
      · skip
        exact v_lv (hke b3 σ) [2] rfl
      · skip
        refine v_iconst C dX8_elects_30 kc_iconst_0 ?_
        refine v_istore (lv' := [(5, .int 0), (0, .ref (adr Y 8 0)), (2, .int a2), (3, .int b3), (4, .int b4)]) C dX8_elects_31 (by decide) rfl ?_
        refine v_lv (vLX8_elects_33 _ _ _ C M _ (fun σ12 => ?_) FU _ _) [1, 2, 3, 4, 0] rfl
        refine v_aload_n 0 C dX8_elects_93 rfl ?_
        refine v_iload_n 2 C dX8_elects_94 rfl ?_
        refine v_cV1v C dX8_elects_95 lv_X8_253 ck_8 (kX8_laysPass b3 _) (by decide) (Nat.le_of_ble_eq_true rfl) (fun _ σ13 => ?_)
        refine v_aload_n 0 C dX8_elects_98 rfl ?_
        refine v_dup C dX8_elects_99 rfl ?_
        refine v_geti C dX8_elects_100 lf_X8_287 ck_8 (by decide) ?_
        refine v_aload_n 0 C dX8_elects_103 rfl ?_
        refine v_aload_n 0 C dX8_elects_104 rfl ?_
        refine v_getc C dX8_elects_105 lf_X8_17 ck_8 rfl ?_
        refine v_iconst C dX8_elects_108 kc_iconst_2 ?_
        refine v_iaload C dX8_elects_109 ck_44 (by decide) rfl ?_
        refine v_cV1i C dX8_elects_110 lv_X8_284 ck_8 (kX8_isFaultyAt (σ13.1 44 0 (nI 2).toNatClampNeg) _) (by decide) (Nat.le_of_ble_eq_true rfl) (fun r15 σ14 => ?_)
        refine v_cut (pcJ := 121) (lv := [(0, .ref (adr Y 8 0)), (2, .int a2), (3, .int b3), (4, .int b4)]) (st := .int (if r15 = 0 then 0 else (nI 1)) :: [.int (σ13.1 8 0 30), .ref (adr Y 8 0)]) ?_ (fun hj16 => ?_)
        rotate_left
        · skip
          refine v_if_eq_b (tgt := 120) C dX8_elects_113 (by decide) (fun h17 => ?_) (fun h17 => ?_)
          · have hj18 := v_jpos h17 hj16
            refine v_iconst C dX8_elects_120 kc_iconst_0 ?_
            exact hj18
          · have hj18 := v_jneg h17 hj16
            refine v_iconst C dX8_elects_116 kc_iconst_1 ?_
            refine v_goto (tgt := 121) C dX8_elects_117 (by decide) ?_
            exact hj18
        refine v_iadd C dX8_elects_121 ?_
        refine v_putiL C dX8_elects_122 lp_X8_287 ck_8 (by decide) (fun σ19 => ?_)
        refine v_aload_n 0 C dX8_elects_125 rfl ?_
        refine v_aload_n 0 C dX8_elects_126 rfl ?_
        refine v_getc C dX8_elects_127 lf_X8_17 ck_8 rfl ?_
        refine v_iconst C dX8_elects_130 kc_iconst_2 ?_
        refine v_iaload C dX8_elects_131 ck_44 (by decide) rfl ?_
        refine v_cV1i C dX8_elects_132 lv_X8_262 ck_8 (kX8_winnersAt (σ19.1 44 0 (nI 2).toNatClampNeg) _) (by decide) (Nat.le_of_ble_eq_true rfl) (fun r21 σ20 => ?_)
        refine v_istore_n (lv' := [(3, .int r21), (0, .ref (adr Y 8 0)), (2, .int a2), (4, .int b4)]) C dX8_elects_135 rfl (by decide) rfl ?_
        refine v_aload_n 1 C dX8_elects_136 rfl ?_
        refine v_iload 3 C dX8_elects_137 rfl ?_
        refine v_iconst C dX8_elects_139 kc_iconst_1 ?_
        refine v_cut (pcJ := 151) (lv := [(3, .int r21), (0, .ref (adr Y 8 0)), (2, .int a2), (4, .int b4)]) (st := .int (if b4 = (nI 1) then r21 else (σ20.1 8 0 31)) :: [.ref (adr Y 8 0)]) ?_ (fun hj22 => ?_)
        rotate_left
        · skip
          refine v_icmp_ne_b (tgt := 147) C dX8_elects_140 (by decide) (fun h23 => ?_) (fun h23 => ?_)
          · have hj24 := v_jneg h23 hj22
            refine v_aload_n 1 C dX8_elects_147 rfl ?_
            refine v_geti C dX8_elects_148 lf_X8_290 ck_8 (by decide) ?_
            exact hj24
          · have hj24 := v_jpos h23 hj22
            refine v_iload_n 0 C dX8_elects_143 rfl ?_
            refine v_goto (tgt := 151) C dX8_elects_144 (by decide) ?_
            exact hj24
        refine v_putiL C dX8_elects_151 lp_X8_290 ck_8 (by decide) (fun σ25 => ?_)
        refine v_aload_n 1 C dX8_elects_154 rfl ?_
        refine v_iload 3 C dX8_elects_155 rfl ?_
        refine v_iconst C dX8_elects_157 kc_iconst_2 ?_
        refine v_cut (pcJ := 166) (lv := [(3, .int r21), (0, .ref (adr Y 8 0)), (2, .int a2), (4, .int b4)]) (st := .int (if b4 = (nI 2) then r21 else 0) :: [.ref (adr Y 8 0)]) ?_ (fun hj26 => ?_)
        rotate_left
        · skip
          refine v_icmp_ne_b (tgt := 165) C dX8_elects_158 (by decide) (fun h27 => ?_) (fun h27 => ?_)
          · have hj28 := v_jneg h27 hj26
            refine v_iconst C dX8_elects_165 kc_iconst_0 ?_
            exact hj28
          · have hj28 := v_jpos h27 hj26
            refine v_iload_n 0 C dX8_elects_161 rfl ?_
            refine v_goto (tgt := 166) C dX8_elects_162 (by decide) ?_
            exact hj28
        refine v_putiL C dX8_elects_166 lp_X8_293 ck_8 (by decide) (fun σ29 => ?_)
        refine v_iinc (lv' := [(4, .int (b4 + nI 1)), (3, .int r21), (0, .ref (adr Y 8 0)), (2, .int a2)]) 3 C dX8_elects_169 rfl (congrArg (b4 + ·) kc_iconst_1) (by decide) rfl ?_
        refine v_goto (tgt := 20) C dX8_elects_172 (by decide) ?_
        exact v_lv (ih r21 (b4 + nI 1) σ29) [2, 3, 1, 0] rfl
set_option maxRecDepth 20000 in
theorem vLX8_elects_178 {Y : Cx} (a3 : Int32) (C : Ok Y RX8 cX8_elects 6 4) (M : OkM Y (some .int)) (ke : Int32 → St → Option (Int32 × St)) (hke : ∀ (b4 : Int32) (σ : St), V Y gI 197 [(3, .int a3), (4, .int b4)] [] σ (ke b4 σ)) : ∀ (n : Nat) (b4 : Int32) (σ : St), V Y gI 178 [(3, .int a3), (4, .int b4)] [] σ (LX8_elects_178 a3 ke n b4 σ) := by
  intro n
  induction n with
  | zero => intros; exact v_none
  | succ n ih =>
    intro b4 σ
    rw [LX8_elects_178]
    refine v_iload_n 0 C dX8_elects_178 rfl ?_
    refine v_if_eq (tgt := 197) C dX8_elects_179 (by decide) ?_ ?_
    · skip
      exact v_lv (hke b4 σ) [0, 1] rfl
    · skip
      refine v_iload_n 0 C dX8_elects_182 rfl ?_
      refine v_iload 1 C dX8_elects_183 rfl ?_
      refine v_cS2p C dX8_elects_185 ls_X8_221 (kX8_has a3 b4 _) (by decide) (Nat.le_of_ble_eq_true rfl) ?_
      refine v_if_ne (tgt := 197) C dX8_elects_188 (by decide) ?_ ?_
      · skip
        exact v_lv (hke b4 σ) [0, 1] rfl
      · skip
        refine v_iinc (lv' := [(4, .int (b4 + nI 1)), (3, .int a3)]) 1 C dX8_elects_191 rfl (congrArg (b4 + ·) kc_iconst_1) (by decide) rfl ?_
        refine v_goto (tgt := 178) C dX8_elects_194 (by decide) ?_
        exact v_lv (ih (b4 + nI 1) σ) [1, 0] rfl
set_option maxRecDepth 20000 in
theorem kX8_elects {X : Cx} (p1 : Int32) (p2 : Int32) (σ : St) : Kon X 4 yX8_elects cX8_elects 6 (some .int) gI [.ref (adr X 8 0), .int p1, .int p2] σ (fX8_elects p1 p2 σ) := by
  refine konJ (own := RX8) (fun _ => gI) (fun a b => [.ref (a 8 0), .int p1, .int p2]) (by decide +kernel) rfl (fun _ _ => Nat.le_of_ble_eq_true rfl) (fun Y C M => ?_)
  show V Y gI 0 [(0, .ref (adr Y 8 0)), (1, .int p1), (2, .int p2)] [] σ (fX8_elects p1 p2 σ)
  unfold fX8_elects
  refine v_aload_n 0 C dX8_elects_0 rfl ?_
  refine v_iconst C dX8_elects_1 kc_iconst_0 ?_
  refine v_putiL C dX8_elects_2 lp_X8_287 ck_8 (by decide) (fun σ1 => ?_)
  refine v_aload_n 0 C dX8_elects_5 rfl ?_
  refine v_iconst C dX8_elects_6 kc_iconst_0 ?_
  refine v_putiL C dX8_elects_7 lp_X8_290 ck_8 (by decide) (fun σ2 => ?_)
  refine v_aload_n 0 C dX8_elects_10 rfl ?_
  refine v_iconst C dX8_elects_11 kc_iconst_0 ?_
  refine v_putiL C dX8_elects_12 lp_X8_293 ck_8 (by decide) (fun σ3 => ?_)
  refine v_iload_n 1 C dX8_elects_15 rfl ?_
  refine v_istore_n (lv' := [(3, .int p1), (0, .ref (adr Y 8 0)), (1, .int p1), (2, .int p2)]) C dX8_elects_16 rfl (by decide) rfl ?_
  refine v_iconst C dX8_elects_17 kc_iconst_1 ?_
  refine v_istore (lv' := [(4, .int (nI 1)), (3, .int p1), (0, .ref (adr Y 8 0)), (1, .int p1), (2, .int p2)]) C dX8_elects_18 (by decide) rfl ?_
  refine v_lv (vLX8_elects_20 _ C M _ (fun x30 σ31 => ?_) FU _ _ _) [2, 4, 1, 0] rfl
  refine v_iconst C dX8_elects_175 kc_iconst_0 ?_
  refine v_istore (lv' := [(4, .int 0), (3, .int x30)]) C dX8_elects_176 (by decide) rfl ?_
  refine v_lv (vLX8_elects_178 _ C M _ (fun x32 σ33 => ?_) FU _ _) [1, 0] rfl
  refine v_iload_n 0 C dX8_elects_197 rfl ?_
  refine v_cS1i C dX8_elects_198 ls_X8_209 (kX8_bitsOf x30 _) (by decide) (Nat.le_of_ble_eq_true rfl) (fun r35 σ34 => ?_)
  refine v_iconst C dX8_elects_201 kc_iconst_1 ?_
  refine v_cut (pcJ := 212) (lv := [(3, .int x30), (4, .int x32)]) (st := .int (if r35 = (nI 1) then x32 else (-2)) :: []) ?_ (fun hj36 => ?_)
  rotate_left
  · skip
    refine v_icmp_ne_b (tgt := 210) C dX8_elects_202 (by decide) (fun h37 => ?_) (fun h37 => ?_)
    · have hj38 := v_jneg h37 hj36
      refine v_bipush C dX8_elects_210 kc_bipush_m2 ?_
      exact hj38
    · have hj38 := v_jpos h37 hj36
      refine v_iload 1 C dX8_elects_205 rfl ?_
      refine v_goto (tgt := 212) C dX8_elects_207 (by decide) ?_
      exact hj38
  exact v_iret C M dX8_elects_212
-- OpenLinesModel would(I)I, depth 5
def fX8_would (p1 : Int32) (σ : St) : Option (Int32 × St) :=
  (jn (fun (x2 : Int32) (σ1 : St) => bd (fX8_isRefused x2 σ1) fun (r4 : Int32) (σ3 : St) => (if r4 = 0 then bd (fX8_elects p1 0 σ3) fun (r6 : Int32) (σ5 : St) => some (r6, σ5) else some ((-1), σ3))) fun j25 => if (σ.1 8 0 9) = 0 then j25 (nI 1) σ else bd (fX8_isSet p1 σ) fun (r8 : Int32) (σ7 : St) => (if r8 = 0 then j25 (nI 2) σ7 else j25 0 σ7))
set_option maxRecDepth 20000 in
theorem kX8_would {X : Cx} (p1 : Int32) (σ : St) : Kon X 5 yX8_would cX8_would 2 (some .int) gI [.ref (adr X 8 0), .int p1] σ (fX8_would p1 σ) := by
  refine konJ (own := RX8) (fun _ => gI) (fun a b => [.ref (a 8 0), .int p1]) (by decide +kernel) rfl (fun _ _ => Nat.le_of_ble_eq_true rfl) (fun Y C M => ?_)
  show V Y gI 0 [(0, .ref (adr Y 8 0)), (1, .int p1)] [] σ (fX8_would p1 σ)
  unfold fX8_would
  refine v_aload_n 0 C dX8_would_0 rfl ?_
  refine v_aload_n 0 C dX8_would_1 rfl ?_
  refine v_geti C dX8_would_2 lf_X8_192 ck_8 (by decide) ?_
  refine v_jn (fun j25 => ∀ (x2 : Int32) (σ1 : St), V Y gI 25 [(0, .ref (adr Y 8 0)), (1, .int p1)] [.int x2, .ref (adr Y 8 0)] σ1 (j25 x2 σ1)) ?_ ?_
  · intro x2 σ1
    refine v_cV1i C dX8_would_25 lv_X8_180 ck_8 (kX8_isRefused x2 _) (by decide) (Nat.le_of_ble_eq_true rfl) (fun r4 σ3 => ?_)
    refine v_if_eq (tgt := 33) C dX8_would_28 (by decide) ?_ ?_
    · skip
      refine v_aload_n 0 C dX8_would_33 rfl ?_
      refine v_iload_n 1 C dX8_would_34 rfl ?_
      refine v_iconst C dX8_would_35 kc_iconst_0 ?_
      refine v_cV2i C dX8_would_36 lv_X8_296 ck_8 (kX8_elects p1 0 _) (by decide) (Nat.le_of_ble_eq_true rfl) (fun r6 σ5 => ?_)
      exact v_iret C M dX8_would_39
    · skip
      refine v_iconst C dX8_would_31 kc_iconst_m1 ?_
      exact v_iret C M dX8_would_32
  · intro j25 hj25
    refine v_if_ne (tgt := 12) C dX8_would_5 (by decide) ?_ ?_
    · skip
      refine v_aload_n 0 C dX8_would_12 rfl ?_
      refine v_iload_n 1 C dX8_would_13 rfl ?_
      refine v_cV1i C dX8_would_14 lv_X8_265 ck_8 (kX8_isSet p1 _) (by decide) (Nat.le_of_ble_eq_true rfl) (fun r8 σ7 => ?_)
      refine v_if_eq (tgt := 24) C dX8_would_17 (by decide) ?_ ?_
      · skip
        refine v_iconst C dX8_would_24 kc_iconst_2 ?_
        exact v_lv (hj25 (nI 2) σ7) [0, 1] rfl
      · skip
        refine v_iconst C dX8_would_20 kc_iconst_0 ?_
        refine v_goto (tgt := 25) C dX8_would_21 (by decide) ?_
        exact v_lv (hj25 0 σ7) [0, 1] rfl
    · skip
      refine v_iconst C dX8_would_8 kc_iconst_1 ?_
      refine v_goto (tgt := 25) C dX8_would_9 (by decide) ?_
      exact v_lv (hj25 (nI 1) σ) [0, 1] rfl
-- OpenLinesModel asks(II)Z, depth 1
def fX8_asks (p1 : Int32) (p2 : Int32) (σ : St) : Option (Int32 × St) :=
  gi (fX8_at p1 0) 251 <| (jn (fun (σ1 : St) => gi (fX8_at p1 (nI 8)) 251 <| gi (fX8_at p1 (nI 8)) 251 <| lt (wI σ1 47 0 (fX8_at p1 (nI 8)).toNatClampNeg ((σ1.1 47 0 (fX8_at p1 (nI 8)).toNatClampNeg) + (nI 1))) fun (σ2 : St) => some (0, σ2)) fun j23 => if 0 < (σ.1 47 0 (fX8_at p1 0).toNatClampNeg) then j23 σ else gi (nI 1) 251 <| (if (σ.1 47 0 (nI 1).toNatClampNeg) = p1 then j23 σ else gi (fX8_at p1 0) 251 <| lt (wI σ 47 0 (fX8_at p1 0).toNatClampNeg p2) fun (σ3 : St) => gi 0 251 <| gi (fX8_at p1 (nI 1)) 251 <| lt (wI σ3 47 0 (fX8_at p1 (nI 1)).toNatClampNeg (σ3.1 47 0 (0 : Int32).toNatClampNeg)) fun (σ4 : St) => some (nI 1, σ4)))
set_option maxRecDepth 20000 in
theorem kX8_asks {X : Cx} (p1 : Int32) (p2 : Int32) (σ : St) : Kon X 1 yX8_asks cX8_asks 3 (some .boolean) gI [.ref (adr X 8 0), .int p1, .int p2] σ (fX8_asks p1 p2 σ) := by
  refine konJ (own := RX8) (fun _ => gI) (fun a b => [.ref (a 8 0), .int p1, .int p2]) (by decide +kernel) rfl (fun _ _ => Nat.le_of_ble_eq_true rfl) (fun Y C M => ?_)
  show V Y gI 0 [(0, .ref (adr Y 8 0)), (1, .int p1), (2, .int p2)] [] σ (fX8_asks p1 p2 σ)
  unfold fX8_asks
  refine v_aload_n 0 C dX8_asks_0 rfl ?_
  refine v_getc C dX8_asks_1 lf_X8_27 ck_8 rfl ?_
  refine v_iload_n 1 C dX8_asks_4 rfl ?_
  refine v_iconst C dX8_asks_5 kc_iconst_0 ?_
  refine v_cS2p C dX8_asks_6 ls_X8_201 (kX8_at p1 0 _) (by decide) (Nat.le_of_ble_eq_true rfl) ?_
  refine v_iaload C dX8_asks_9 ck_47 (by decide) rfl ?_
  refine v_jn (fun j23 => ∀ (σ1 : St), V Y gI 23 [(0, .ref (adr Y 8 0)), (1, .int p1)] [] σ1 (j23 σ1)) ?_ ?_
  · intro σ1
    refine v_aload_n 0 C dX8_asks_23 rfl ?_
    refine v_getc C dX8_asks_24 lf_X8_27 ck_8 rfl ?_
    refine v_iload_n 1 C dX8_asks_27 rfl ?_
    refine v_bipush C dX8_asks_28 kc_bipush_8 ?_
    refine v_cS2p C dX8_asks_30 ls_X8_201 (kX8_at p1 (nI 8) _) (by decide) (Nat.le_of_ble_eq_true rfl) ?_
    refine v_dup2 C dX8_asks_33 rfl rfl ?_
    refine v_iaload C dX8_asks_34 ck_47 (by decide) rfl ?_
    refine v_iconst C dX8_asks_35 kc_iconst_1 ?_
    refine v_iadd C dX8_asks_36 ?_
    refine v_iastoreL C dX8_asks_37 ck_47 (by decide) rfl (fun σ2 => ?_)
    refine v_iconst C dX8_asks_38 kc_iconst_0 ?_
    exact v_zret C M (by decide) dX8_asks_39
  · intro j23 hj23
    refine v_if_gt (tgt := 23) C dX8_asks_10 (by decide) ?_ ?_
    · skip
      exact v_lv (hj23 σ) [0, 1] rfl
    · skip
      refine v_aload_n 0 C dX8_asks_13 rfl ?_
      refine v_getc C dX8_asks_14 lf_X8_27 ck_8 rfl ?_
      refine v_iconst C dX8_asks_17 kc_iconst_1 ?_
      refine v_iaload C dX8_asks_18 ck_47 (by decide) rfl ?_
      refine v_iload_n 1 C dX8_asks_19 rfl ?_
      refine v_icmp_ne (tgt := 40) C dX8_asks_20 (by decide) ?_ ?_
      · skip
        refine v_aload_n 0 C dX8_asks_40 rfl ?_
        refine v_getc C dX8_asks_41 lf_X8_27 ck_8 rfl ?_
        refine v_iload_n 1 C dX8_asks_44 rfl ?_
        refine v_iconst C dX8_asks_45 kc_iconst_0 ?_
        refine v_cS2p C dX8_asks_46 ls_X8_201 (kX8_at p1 0 _) (by decide) (Nat.le_of_ble_eq_true rfl) ?_
        refine v_iload_n 2 C dX8_asks_49 rfl ?_
        refine v_iastoreL C dX8_asks_50 ck_47 (by decide) rfl (fun σ3 => ?_)
        refine v_aload_n 0 C dX8_asks_51 rfl ?_
        refine v_getc C dX8_asks_52 lf_X8_27 ck_8 rfl ?_
        refine v_iload_n 1 C dX8_asks_55 rfl ?_
        refine v_iconst C dX8_asks_56 kc_iconst_1 ?_
        refine v_cS2p C dX8_asks_57 ls_X8_201 (kX8_at p1 (nI 1) _) (by decide) (Nat.le_of_ble_eq_true rfl) ?_
        refine v_aload_n 0 C dX8_asks_60 rfl ?_
        refine v_getc C dX8_asks_61 lf_X8_27 ck_8 rfl ?_
        refine v_iconst C dX8_asks_64 kc_iconst_0 ?_
        refine v_iaload C dX8_asks_65 ck_47 (by decide) rfl ?_
        refine v_iastoreL C dX8_asks_66 ck_47 (by decide) rfl (fun σ4 => ?_)
        refine v_iconst C dX8_asks_67 kc_iconst_1 ?_
        exact v_zret C M (by decide) dX8_asks_68
      · skip
        exact v_lv (hj23 σ) [0, 1] rfl
-- OpenLinesModel askingOnes()I, depth 1
def LX8_askingOnes_4 (ke : Int32 → St → Option (Int32 × St)) : Nat → Int32 → Int32 → St → Option (Int32 × St)
  | 0, _, _, _ => none
  | n + 1, b1, b2, σ => gi (nI 3) 59 <| (if (σ.1 44 0 (nI 3).toNatClampNeg) ≤ b2 then ke b1 σ else gi (fX8_at b2 0) 251 <| lt (b1 ||| (if (σ.1 47 0 (fX8_at b2 0).toNatClampNeg) ≤ 0 then 0 else ((nI 1) <<< (b2 &&& 31)))) fun (x4 : Int32) => LX8_askingOnes_4 ke n x4 (b2 + nI 1) σ)
def fX8_askingOnes (σ : St) : Option (Int32 × St) :=
  (LX8_askingOnes_4 (fun (x5 : Int32) (σ6 : St) => some (x5, σ6)) FU 0 0 σ)
set_option maxRecDepth 20000 in
theorem vLX8_askingOnes_4 {Y : Cx} (C : Ok Y RX8 cX8_askingOnes 3 1) (M : OkM Y (some .int)) (ke : Int32 → St → Option (Int32 × St)) (hke : ∀ (b1 : Int32) (σ : St), V Y gI 43 [(1, .int b1)] [] σ (ke b1 σ)) : ∀ (n : Nat) (b1 : Int32) (b2 : Int32) (σ : St), V Y gI 4 [(0, .ref (adr Y 8 0)), (1, .int b1), (2, .int b2)] [] σ (LX8_askingOnes_4 ke n b1 b2 σ) := by
  intro n
  induction n with
  | zero => intros; exact v_none
  | succ n ih =>
    intro b1 b2 σ
    rw [LX8_askingOnes_4]
    refine v_iload_n 2 C dX8_askingOnes_4 rfl ?_
    refine v_aload_n 0 C dX8_askingOnes_5 rfl ?_
    refine v_getc C dX8_askingOnes_6 lf_X8_17 ck_8 rfl ?_
    refine v_iconst C dX8_askingOnes_9 kc_iconst_3 ?_
    refine v_iaload C dX8_askingOnes_10 ck_44 (by decide) rfl ?_
    refine v_icmp_ge (tgt := 43) C dX8_askingOnes_11 (by decide) ?_ ?_
    · skip
      exact v_lv (hke b1 σ) [1] rfl
    · skip
      refine v_iload_n 1 C dX8_askingOnes_14 rfl ?_
      refine v_aload_n 0 C dX8_askingOnes_15 rfl ?_
      refine v_getc C dX8_askingOnes_16 lf_X8_27 ck_8 rfl ?_
      refine v_iload_n 2 C dX8_askingOnes_19 rfl ?_
      refine v_iconst C dX8_askingOnes_20 kc_iconst_0 ?_
      refine v_cS2p C dX8_askingOnes_21 ls_X8_201 (kX8_at b2 0 _) (by decide) (Nat.le_of_ble_eq_true rfl) ?_
      refine v_iaload C dX8_askingOnes_24 ck_47 (by decide) rfl ?_
      refine v_cut (pcJ := 35) (lv := [(0, .ref (adr Y 8 0)), (1, .int b1), (2, .int b2)]) (st := .int (if (σ.1 47 0 (fX8_at b2 0).toNatClampNeg) ≤ 0 then 0 else ((nI 1) <<< (b2 &&& 31))) :: [.int b1]) ?_ (fun hj1 => ?_)
      rotate_left
      · skip
        refine v_if_le_b (tgt := 34) C dX8_askingOnes_25 (by decide) (fun h2 => ?_) (fun h2 => ?_)
        · have hj3 := v_jpos h2 hj1
          refine v_iconst C dX8_askingOnes_34 kc_iconst_0 ?_
          exact hj3
        · have hj3 := v_jneg h2 hj1
          refine v_iconst C dX8_askingOnes_28 kc_iconst_1 ?_
          refine v_iload_n 2 C dX8_askingOnes_29 rfl ?_
          refine v_ishl C dX8_askingOnes_30 ?_
          refine v_goto (tgt := 35) C dX8_askingOnes_31 (by decide) ?_
          exact hj3
      refine v_ior C dX8_askingOnes_35 ?_
      refine v_istore_nL (lv0 := [(0, .ref (adr Y 8 0)), (2, .int b2)]) C dX8_askingOnes_36 rfl (by decide) rfl (fun x4 => ?_)
      refine v_iinc (lv' := [(2, .int (b2 + nI 1)), (1, .int x4), (0, .ref (adr Y 8 0))]) 2 C dX8_askingOnes_37 rfl (congrArg (b2 + ·) kc_iconst_1) (by decide) rfl ?_
      refine v_goto (tgt := 4) C dX8_askingOnes_40 (by decide) ?_
      exact v_lv (ih x4 (b2 + nI 1) σ) [2, 1, 0] rfl
set_option maxRecDepth 20000 in
theorem kX8_askingOnes {X : Cx} (σ : St) : Kon X 1 yX8_askingOnes cX8_askingOnes 3 (some .int) gI [.ref (adr X 8 0)] σ (fX8_askingOnes σ) := by
  refine konJ (own := RX8) (fun _ => gI) (fun a b => [.ref (a 8 0)]) (by decide +kernel) rfl (fun _ _ => Nat.le_of_ble_eq_true rfl) (fun Y C M => ?_)
  show V Y gI 0 [(0, .ref (adr Y 8 0))] [] σ (fX8_askingOnes σ)
  unfold fX8_askingOnes
  refine v_iconst C dX8_askingOnes_0 kc_iconst_0 ?_
  refine v_istore_n (lv' := [(1, .int 0), (0, .ref (adr Y 8 0))]) C dX8_askingOnes_1 rfl (by decide) rfl ?_
  refine v_iconst C dX8_askingOnes_2 kc_iconst_0 ?_
  refine v_istore_n (lv' := [(2, .int 0), (1, .int 0), (0, .ref (adr Y 8 0))]) C dX8_askingOnes_3 rfl (by decide) rfl ?_
  refine v_lv (vLX8_askingOnes_4 C M _ (fun x5 σ6 => ?_) FU _ _ _) [2, 1, 0] rfl
  refine v_iload_n 0 C dX8_askingOnes_43 rfl ?_
  exact v_iret C M dX8_askingOnes_44
-- OpenLinesModel beginsArbitration()V, depth 4
def LX8_beginsArbitration_33 (ke : St → Option (Unit × St)) : Nat → Int32 → St → Option (Unit × St)
  | 0, _, _ => none
  | n + 1, b1, σ => gi (nI 3) 59 <| (if (σ.1 44 0 (nI 3).toNatClampNeg) ≤ b1 then ke σ else bd (fX8_wordOf b1 (nI 1) σ) fun (r6 : Int32) (σ5 : St) => gi (fX8_at b1 (nI 4)) 251 <| lt (wI σ5 47 0 (fX8_at b1 (nI 4)).toNatClampNeg r6) fun (σ7 : St) => bd (fX8_wordOf b1 (nI 2) σ7) fun (r9 : Int32) (σ8 : St) => gi (fX8_at b1 (nI 5)) 251 <| lt (wI σ8 47 0 (fX8_at b1 (nI 5)).toNatClampNeg r9) fun (σ10 : St) => LX8_beginsArbitration_33 ke n (b1 + nI 1) σ10)
def fX8_beginsArbitration (σ : St) : Option (Unit × St) :=
  gi 0 251 <| gi (nI 2) 59 <| gi (nI 4) 251 <| lt (wI σ 47 0 (nI 4).toNatClampNeg ((σ.1 47 0 (0 : Int32).toNatClampNeg) + ((nI 2) * (σ.1 44 0 (nI 2).toNatClampNeg)))) fun (σ1 : St) => bd (fX8_askingOnes σ1) fun (r3 : Int32) (σ2 : St) => gi (nI 5) 251 <| lt (wI σ2 47 0 (nI 5).toNatClampNeg r3) fun (σ4 : St) => (LX8_beginsArbitration_33 (fun (σ11 : St) => some ((), σ11)) FU 0 σ4)
set_option maxRecDepth 20000 in
theorem vLX8_beginsArbitration_33 {Y : Cx} (C : Ok Y RX8 cX8_beginsArbitration 2 4) (M : OkM Y none) (ke : St → Option (Unit × St)) (hke : ∀ (σ : St), V Y gV 81 [] [] σ (ke σ)) : ∀ (n : Nat) (b1 : Int32) (σ : St), V Y gV 33 [(0, .ref (adr Y 8 0)), (1, .int b1)] [] σ (LX8_beginsArbitration_33 ke n b1 σ) := by
  intro n
  induction n with
  | zero => intros; exact v_none
  | succ n ih =>
    intro b1 σ
    rw [LX8_beginsArbitration_33]
    refine v_iload_n 1 C dX8_beginsArbitration_33 rfl ?_
    refine v_aload_n 0 C dX8_beginsArbitration_34 rfl ?_
    refine v_getc C dX8_beginsArbitration_35 lf_X8_17 ck_8 rfl ?_
    refine v_iconst C dX8_beginsArbitration_38 kc_iconst_3 ?_
    refine v_iaload C dX8_beginsArbitration_39 ck_44 (by decide) rfl ?_
    refine v_icmp_ge (tgt := 81) C dX8_beginsArbitration_40 (by decide) ?_ ?_
    · skip
      exact v_lv (hke σ) [] rfl
    · skip
      refine v_aload_n 0 C dX8_beginsArbitration_43 rfl ?_
      refine v_getc C dX8_beginsArbitration_44 lf_X8_27 ck_8 rfl ?_
      refine v_iload_n 1 C dX8_beginsArbitration_47 rfl ?_
      refine v_iconst C dX8_beginsArbitration_48 kc_iconst_4 ?_
      refine v_cS2p C dX8_beginsArbitration_49 ls_X8_201 (kX8_at b1 (nI 4) _) (by decide) (Nat.le_of_ble_eq_true rfl) ?_
      refine v_aload_n 0 C dX8_beginsArbitration_52 rfl ?_
      refine v_iload_n 1 C dX8_beginsArbitration_53 rfl ?_
      refine v_iconst C dX8_beginsArbitration_54 kc_iconst_1 ?_
      refine v_cV2i C dX8_beginsArbitration_55 lv_X8_250 ck_8 (kX8_wordOf b1 (nI 1) _) (by decide) (Nat.le_of_ble_eq_true rfl) (fun r6 σ5 => ?_)
      refine v_iastoreL C dX8_beginsArbitration_58 ck_47 (by decide) rfl (fun σ7 => ?_)
      refine v_aload_n 0 C dX8_beginsArbitration_59 rfl ?_
      refine v_getc C dX8_beginsArbitration_60 lf_X8_27 ck_8 rfl ?_
      refine v_iload_n 1 C dX8_beginsArbitration_63 rfl ?_
      refine v_iconst C dX8_beginsArbitration_64 kc_iconst_5 ?_
      refine v_cS2p C dX8_beginsArbitration_65 ls_X8_201 (kX8_at b1 (nI 5) _) (by decide) (Nat.le_of_ble_eq_true rfl) ?_
      refine v_aload_n 0 C dX8_beginsArbitration_68 rfl ?_
      refine v_iload_n 1 C dX8_beginsArbitration_69 rfl ?_
      refine v_iconst C dX8_beginsArbitration_70 kc_iconst_2 ?_
      refine v_cV2i C dX8_beginsArbitration_71 lv_X8_250 ck_8 (kX8_wordOf b1 (nI 2) _) (by decide) (Nat.le_of_ble_eq_true rfl) (fun r9 σ8 => ?_)
      refine v_iastoreL C dX8_beginsArbitration_74 ck_47 (by decide) rfl (fun σ10 => ?_)
      refine v_iinc (lv' := [(1, .int (b1 + nI 1)), (0, .ref (adr Y 8 0))]) 1 C dX8_beginsArbitration_75 rfl (congrArg (b1 + ·) kc_iconst_1) (by decide) rfl ?_
      refine v_goto (tgt := 33) C dX8_beginsArbitration_78 (by decide) ?_
      exact v_lv (ih (b1 + nI 1) σ10) [1, 0] rfl
set_option maxRecDepth 20000 in
theorem kX8_beginsArbitration {X : Cx} (σ : St) : Kon X 4 yX8_beginsArbitration cX8_beginsArbitration 2 none gV [.ref (adr X 8 0)] σ (fX8_beginsArbitration σ) := by
  refine konJ (own := RX8) (fun _ => gV) (fun a b => [.ref (a 8 0)]) (by decide +kernel) rfl (fun _ _ => Nat.le_of_ble_eq_true rfl) (fun Y C M => ?_)
  show V Y gV 0 [(0, .ref (adr Y 8 0))] [] σ (fX8_beginsArbitration σ)
  unfold fX8_beginsArbitration
  refine v_aload_n 0 C dX8_beginsArbitration_0 rfl ?_
  refine v_getc C dX8_beginsArbitration_1 lf_X8_27 ck_8 rfl ?_
  refine v_iconst C dX8_beginsArbitration_4 kc_iconst_4 ?_
  refine v_aload_n 0 C dX8_beginsArbitration_5 rfl ?_
  refine v_getc C dX8_beginsArbitration_6 lf_X8_27 ck_8 rfl ?_
  refine v_iconst C dX8_beginsArbitration_9 kc_iconst_0 ?_
  refine v_iaload C dX8_beginsArbitration_10 ck_47 (by decide) rfl ?_
  refine v_iconst C dX8_beginsArbitration_11 kc_iconst_2 ?_
  refine v_aload_n 0 C dX8_beginsArbitration_12 rfl ?_
  refine v_getc C dX8_beginsArbitration_13 lf_X8_17 ck_8 rfl ?_
  refine v_iconst C dX8_beginsArbitration_16 kc_iconst_2 ?_
  refine v_iaload C dX8_beginsArbitration_17 ck_44 (by decide) rfl ?_
  refine v_imul C dX8_beginsArbitration_18 ?_
  refine v_iadd C dX8_beginsArbitration_19 ?_
  refine v_iastoreL C dX8_beginsArbitration_20 ck_47 (by decide) rfl (fun σ1 => ?_)
  refine v_aload_n 0 C dX8_beginsArbitration_21 rfl ?_
  refine v_getc C dX8_beginsArbitration_22 lf_X8_27 ck_8 rfl ?_
  refine v_iconst C dX8_beginsArbitration_25 kc_iconst_5 ?_
  refine v_aload_n 0 C dX8_beginsArbitration_26 rfl ?_
  refine v_cV0i C dX8_beginsArbitration_27 lv_X8_300 ck_8 (kX8_askingOnes _) (by decide) (Nat.le_of_ble_eq_true rfl) (fun r3 σ2 => ?_)
  refine v_iastoreL C dX8_beginsArbitration_30 ck_47 (by decide) rfl (fun σ4 => ?_)
  refine v_iconst C dX8_beginsArbitration_31 kc_iconst_0 ?_
  refine v_istore_n (lv' := [(1, .int 0), (0, .ref (adr Y 8 0))]) C dX8_beginsArbitration_32 rfl (by decide) rfl ?_
  refine v_lv (vLX8_beginsArbitration_33 C M _ (fun σ11 => ?_) FU _ _) [1, 0] rfl
  exact v_vret C M dX8_beginsArbitration_81
-- OpenLinesModel isElected(I)V, depth 1
def LX8_isElected_41 (a1 : Int32) (ke : St → Option (Unit × St)) : Nat → Int32 → St → Option (Unit × St)
  | 0, _, _ => none
  | n + 1, b2, σ => (if (nI 6) ≤ b2 then ke σ else gi (fX8_at b2 (nI 2)) 251 <| lt (wI σ 47 0 (fX8_at b2 (nI 2)).toNatClampNeg (nI 1)) fun (σ5 : St) => LX8_isElected_41 a1 ke n (b2 + nI 1) σ5)
def fX8_isElected (p1 : Int32) (σ : St) : Option (Unit × St) :=
  gi (fX8_at p1 (nI 11)) 251 <| gi (fX8_at p1 (nI 11)) 251 <| lt (wI σ 47 0 (fX8_at p1 (nI 11)).toNatClampNeg ((σ.1 47 0 (fX8_at p1 (nI 11)).toNatClampNeg) + (nI 1))) fun (σ1 : St) => gi (fX8_at p1 (nI 2)) 251 <| (jn (fun (σ2 : St) => gi (fX8_at p1 (nI 2)) 251 <| lt (wI σ2 47 0 (fX8_at p1 (nI 2)).toNatClampNeg 0) fun (σ3 : St) => some ((), σ3)) fun j64 => if (σ1.1 47 0 (fX8_at p1 (nI 2)).toNatClampNeg) = 0 then gi (nI 6) 251 <| gi (nI 6) 251 <| lt (wI σ1 47 0 (nI 6).toNatClampNeg ((σ1.1 47 0 (nI 6).toNatClampNeg) + (nI 1))) fun (σ4 : St) => (LX8_isElected_41 p1 (fun (σ6 : St) => j64 σ6) FU 0 σ4) else j64 σ1)
set_option maxRecDepth 20000 in
theorem vLX8_isElected_41 {Y : Cx} (a1 : Int32) (C : Ok Y RX8 cX8_isElected 3 1) (M : OkM Y none) (ke : St → Option (Unit × St)) (hke : ∀ (σ : St), V Y gV 64 [(0, .ref (adr Y 8 0)), (1, .int a1)] [] σ (ke σ)) : ∀ (n : Nat) (b2 : Int32) (σ : St), V Y gV 41 [(0, .ref (adr Y 8 0)), (1, .int a1), (2, .int b2)] [] σ (LX8_isElected_41 a1 ke n b2 σ) := by
  intro n
  induction n with
  | zero => intros; exact v_none
  | succ n ih =>
    intro b2 σ
    rw [LX8_isElected_41]
    refine v_iload_n 2 C dX8_isElected_41 rfl ?_
    refine v_bipush C dX8_isElected_42 kc_bipush_6 ?_
    refine v_icmp_ge (tgt := 64) C dX8_isElected_44 (by decide) ?_ ?_
    · skip
      exact v_lv (hke σ) [0, 1] rfl
    · skip
      refine v_aload_n 0 C dX8_isElected_47 rfl ?_
      refine v_getc C dX8_isElected_48 lf_X8_27 ck_8 rfl ?_
      refine v_iload_n 2 C dX8_isElected_51 rfl ?_
      refine v_iconst C dX8_isElected_52 kc_iconst_2 ?_
      refine v_cS2p C dX8_isElected_53 ls_X8_201 (kX8_at b2 (nI 2) _) (by decide) (Nat.le_of_ble_eq_true rfl) ?_
      refine v_iconst C dX8_isElected_56 kc_iconst_1 ?_
      refine v_iastoreL C dX8_isElected_57 ck_47 (by decide) rfl (fun σ5 => ?_)
      refine v_iinc (lv' := [(2, .int (b2 + nI 1)), (0, .ref (adr Y 8 0)), (1, .int a1)]) 2 C dX8_isElected_58 rfl (congrArg (b2 + ·) kc_iconst_1) (by decide) rfl ?_
      refine v_goto (tgt := 41) C dX8_isElected_61 (by decide) ?_
      exact v_lv (ih (b2 + nI 1) σ5) [1, 2, 0] rfl
set_option maxRecDepth 20000 in
theorem kX8_isElected {X : Cx} (p1 : Int32) (σ : St) : Kon X 1 yX8_isElected cX8_isElected 3 none gV [.ref (adr X 8 0), .int p1] σ (fX8_isElected p1 σ) := by
  refine konJ (own := RX8) (fun _ => gV) (fun a b => [.ref (a 8 0), .int p1]) (by decide +kernel) rfl (fun _ _ => Nat.le_of_ble_eq_true rfl) (fun Y C M => ?_)
  show V Y gV 0 [(0, .ref (adr Y 8 0)), (1, .int p1)] [] σ (fX8_isElected p1 σ)
  unfold fX8_isElected
  refine v_aload_n 0 C dX8_isElected_0 rfl ?_
  refine v_getc C dX8_isElected_1 lf_X8_27 ck_8 rfl ?_
  refine v_iload_n 1 C dX8_isElected_4 rfl ?_
  refine v_bipush C dX8_isElected_5 kc_bipush_11 ?_
  refine v_cS2p C dX8_isElected_7 ls_X8_201 (kX8_at p1 (nI 11) _) (by decide) (Nat.le_of_ble_eq_true rfl) ?_
  refine v_dup2 C dX8_isElected_10 rfl rfl ?_
  refine v_iaload C dX8_isElected_11 ck_47 (by decide) rfl ?_
  refine v_iconst C dX8_isElected_12 kc_iconst_1 ?_
  refine v_iadd C dX8_isElected_13 ?_
  refine v_iastoreL C dX8_isElected_14 ck_47 (by decide) rfl (fun σ1 => ?_)
  refine v_aload_n 0 C dX8_isElected_15 rfl ?_
  refine v_getc C dX8_isElected_16 lf_X8_27 ck_8 rfl ?_
  refine v_iload_n 1 C dX8_isElected_19 rfl ?_
  refine v_iconst C dX8_isElected_20 kc_iconst_2 ?_
  refine v_cS2p C dX8_isElected_21 ls_X8_201 (kX8_at p1 (nI 2) _) (by decide) (Nat.le_of_ble_eq_true rfl) ?_
  refine v_iaload C dX8_isElected_24 ck_47 (by decide) rfl ?_
  refine v_jn (fun j64 => ∀ (σ2 : St), V Y gV 64 [(0, .ref (adr Y 8 0)), (1, .int p1)] [] σ2 (j64 σ2)) ?_ ?_
  · intro σ2
    refine v_aload_n 0 C dX8_isElected_64 rfl ?_
    refine v_getc C dX8_isElected_65 lf_X8_27 ck_8 rfl ?_
    refine v_iload_n 1 C dX8_isElected_68 rfl ?_
    refine v_iconst C dX8_isElected_69 kc_iconst_2 ?_
    refine v_cS2p C dX8_isElected_70 ls_X8_201 (kX8_at p1 (nI 2) _) (by decide) (Nat.le_of_ble_eq_true rfl) ?_
    refine v_iconst C dX8_isElected_73 kc_iconst_0 ?_
    refine v_iastoreL C dX8_isElected_74 ck_47 (by decide) rfl (fun σ3 => ?_)
    exact v_vret C M dX8_isElected_75
  · intro j64 hj64
    refine v_if_ne (tgt := 64) C dX8_isElected_25 (by decide) ?_ ?_
    · skip
      exact v_lv (hj64 σ1) [0, 1] rfl
    · skip
      refine v_aload_n 0 C dX8_isElected_28 rfl ?_
      refine v_getc C dX8_isElected_29 lf_X8_27 ck_8 rfl ?_
      refine v_bipush C dX8_isElected_32 kc_bipush_6 ?_
      refine v_dup2 C dX8_isElected_34 rfl rfl ?_
      refine v_iaload C dX8_isElected_35 ck_47 (by decide) rfl ?_
      refine v_iconst C dX8_isElected_36 kc_iconst_1 ?_
      refine v_iadd C dX8_isElected_37 ?_
      refine v_iastoreL C dX8_isElected_38 ck_47 (by decide) rfl (fun σ4 => ?_)
      refine v_iconst C dX8_isElected_39 kc_iconst_0 ?_
      refine v_istore_n (lv' := [(2, .int 0), (0, .ref (adr Y 8 0)), (1, .int p1)]) C dX8_isElected_40 rfl (by decide) rfl ?_
      refine v_lv (vLX8_isElected_41 _ C M _ (fun σ6 => ?_) FU _ _) [1, 2, 0] rfl
      exact v_lv (hj64 σ6) [0, 1] rfl
-- OpenLinesModel logs(II)V, depth 0
def LX8_logs_3 (a1 : Int32) (a2 : Int32) (ke : St → Option (Unit × St)) : Nat → Int32 → St → Option (Unit × St)
  | 0, _, _ => none
  | n + 1, b3, σ => (if b3 < (nI 6) then ke σ else gi (((nI 91) + b3) - (nI 6)) 251 <| gi ((nI 91) + b3) 251 <| lt (wI σ 47 0 ((nI 91) + b3).toNatClampNeg (σ.1 47 0 (((nI 91) + b3) - (nI 6)).toNatClampNeg)) fun (σ1 : St) => LX8_logs_3 a1 a2 ke n (b3 + (-1)) σ1)
def fX8_logs (p1 : Int32) (p2 : Int32) (σ : St) : Option (Unit × St) :=
  (LX8_logs_3 p1 p2 (fun (σ2 : St) => gi (nI 90) 251 <| (jn (fun (x4 : Int32) (σ3 : St) => gi (nI 90) 251 <| lt (wI σ3 47 0 (nI 90).toNatClampNeg x4) fun (σ5 : St) => gi 0 251 <| gi (nI 91) 251 <| lt (wI σ5 47 0 (nI 91).toNatClampNeg (σ5.1 47 0 (0 : Int32).toNatClampNeg)) fun (σ6 : St) => gi (nI 92) 251 <| lt (wI σ6 47 0 (nI 92).toNatClampNeg p1) fun (σ7 : St) => gi (nI 93) 251 <| lt (wI σ7 47 0 (nI 93).toNatClampNeg (σ7.1 8 0 31)) fun (σ8 : St) => gi (nI 94) 251 <| lt (wI σ8 47 0 (nI 94).toNatClampNeg (σ8.1 8 0 32)) fun (σ9 : St) => gi (nI 95) 251 <| lt (wI σ9 47 0 (nI 95).toNatClampNeg p2) fun (σ10 : St) => gi (nI 96) 251 <| lt (wI σ10 47 0 (nI 96).toNatClampNeg (σ10.1 8 0 30)) fun (σ11 : St) => some ((), σ11)) fun j68 => if (σ2.1 47 0 (nI 90).toNatClampNeg) = (nI 16) then j68 (nI 16) σ2 else gi (nI 90) 251 <| j68 ((σ2.1 47 0 (nI 90).toNatClampNeg) + (nI 1)) σ2)) FU (nI 95) σ)
set_option maxRecDepth 20000 in
theorem vLX8_logs_3 {Y : Cx} (a1 : Int32) (a2 : Int32) (C : Ok Y RX8 cX8_logs 4 0) (M : OkM Y none) (ke : St → Option (Unit × St)) (hke : ∀ (σ : St), V Y gV 36 [(0, .ref (adr Y 8 0)), (1, .int a1), (2, .int a2)] [] σ (ke σ)) : ∀ (n : Nat) (b3 : Int32) (σ : St), V Y gV 3 [(0, .ref (adr Y 8 0)), (1, .int a1), (2, .int a2), (3, .int b3)] [] σ (LX8_logs_3 a1 a2 ke n b3 σ) := by
  intro n
  induction n with
  | zero => intros; exact v_none
  | succ n ih =>
    intro b3 σ
    rw [LX8_logs_3]
    refine v_iload_n 3 C dX8_logs_3 rfl ?_
    refine v_bipush C dX8_logs_4 kc_bipush_6 ?_
    refine v_icmp_lt (tgt := 36) C dX8_logs_6 (by decide) ?_ ?_
    · skip
      exact v_lv (hke σ) [0, 1, 2] rfl
    · skip
      refine v_aload_n 0 C dX8_logs_9 rfl ?_
      refine v_getc C dX8_logs_10 lf_X8_27 ck_8 rfl ?_
      refine v_bipush C dX8_logs_13 kc_bipush_91 ?_
      refine v_iload_n 3 C dX8_logs_15 rfl ?_
      refine v_iadd C dX8_logs_16 ?_
      refine v_aload_n 0 C dX8_logs_17 rfl ?_
      refine v_getc C dX8_logs_18 lf_X8_27 ck_8 rfl ?_
      refine v_bipush C dX8_logs_21 kc_bipush_91 ?_
      refine v_iload_n 3 C dX8_logs_23 rfl ?_
      refine v_iadd C dX8_logs_24 ?_
      refine v_bipush C dX8_logs_25 kc_bipush_6 ?_
      refine v_isub C dX8_logs_27 ?_
      refine v_iaload C dX8_logs_28 ck_47 (by decide) rfl ?_
      refine v_iastoreL C dX8_logs_29 ck_47 (by decide) rfl (fun σ1 => ?_)
      refine v_iinc (lv' := [(3, .int (b3 + (-1))), (0, .ref (adr Y 8 0)), (1, .int a1), (2, .int a2)]) 3 C dX8_logs_30 rfl (congrArg (b3 + ·) kc_iconst_m1) (by decide) rfl ?_
      refine v_goto (tgt := 3) C dX8_logs_33 (by decide) ?_
      exact v_lv (ih (b3 + (-1)) σ1) [1, 2, 3, 0] rfl
set_option maxRecDepth 20000 in
theorem kX8_logs {X : Cx} (p1 : Int32) (p2 : Int32) (σ : St) : Kon X 0 yX8_logs cX8_logs 4 none gV [.ref (adr X 8 0), .int p1, .int p2] σ (fX8_logs p1 p2 σ) := by
  refine konJ (own := RX8) (fun _ => gV) (fun a b => [.ref (a 8 0), .int p1, .int p2]) (by decide +kernel) rfl (fun _ _ => Nat.le_of_ble_eq_true rfl) (fun Y C M => ?_)
  show V Y gV 0 [(0, .ref (adr Y 8 0)), (1, .int p1), (2, .int p2)] [] σ (fX8_logs p1 p2 σ)
  unfold fX8_logs
  refine v_bipush C dX8_logs_0 kc_bipush_95 ?_
  refine v_istore_n (lv' := [(3, .int (nI 95)), (0, .ref (adr Y 8 0)), (1, .int p1), (2, .int p2)]) C dX8_logs_2 rfl (by decide) rfl ?_
  refine v_lv (vLX8_logs_3 _ _ C M _ (fun σ2 => ?_) FU _ _) [1, 2, 3, 0] rfl
  refine v_aload_n 0 C dX8_logs_36 rfl ?_
  refine v_getc C dX8_logs_37 lf_X8_27 ck_8 rfl ?_
  refine v_bipush C dX8_logs_40 kc_bipush_90 ?_
  refine v_aload_n 0 C dX8_logs_42 rfl ?_
  refine v_getc C dX8_logs_43 lf_X8_27 ck_8 rfl ?_
  refine v_bipush C dX8_logs_46 kc_bipush_90 ?_
  refine v_iaload C dX8_logs_48 ck_47 (by decide) rfl ?_
  refine v_bipush C dX8_logs_49 kc_bipush_16 ?_
  refine v_jn (fun j68 => ∀ (x4 : Int32) (σ3 : St), V Y gV 68 [(0, .ref (adr Y 8 0)), (1, .int p1), (2, .int p2)] [.int x4, .int (nI 90), .ref (adr Y 47 0)] σ3 (j68 x4 σ3)) ?_ ?_
  · intro x4 σ3
    refine v_iastoreL C dX8_logs_68 ck_47 (by decide) rfl (fun σ5 => ?_)
    refine v_aload_n 0 C dX8_logs_69 rfl ?_
    refine v_getc C dX8_logs_70 lf_X8_27 ck_8 rfl ?_
    refine v_bipush C dX8_logs_73 kc_bipush_91 ?_
    refine v_aload_n 0 C dX8_logs_75 rfl ?_
    refine v_getc C dX8_logs_76 lf_X8_27 ck_8 rfl ?_
    refine v_iconst C dX8_logs_79 kc_iconst_0 ?_
    refine v_iaload C dX8_logs_80 ck_47 (by decide) rfl ?_
    refine v_iastoreL C dX8_logs_81 ck_47 (by decide) rfl (fun σ6 => ?_)
    refine v_aload_n 0 C dX8_logs_82 rfl ?_
    refine v_getc C dX8_logs_83 lf_X8_27 ck_8 rfl ?_
    refine v_bipush C dX8_logs_86 kc_bipush_92 ?_
    refine v_iload_n 1 C dX8_logs_88 rfl ?_
    refine v_iastoreL C dX8_logs_89 ck_47 (by decide) rfl (fun σ7 => ?_)
    refine v_aload_n 0 C dX8_logs_90 rfl ?_
    refine v_getc C dX8_logs_91 lf_X8_27 ck_8 rfl ?_
    refine v_bipush C dX8_logs_94 kc_bipush_93 ?_
    refine v_aload_n 0 C dX8_logs_96 rfl ?_
    refine v_geti C dX8_logs_97 lf_X8_290 ck_8 (by decide) ?_
    refine v_iastoreL C dX8_logs_100 ck_47 (by decide) rfl (fun σ8 => ?_)
    refine v_aload_n 0 C dX8_logs_101 rfl ?_
    refine v_getc C dX8_logs_102 lf_X8_27 ck_8 rfl ?_
    refine v_bipush C dX8_logs_105 kc_bipush_94 ?_
    refine v_aload_n 0 C dX8_logs_107 rfl ?_
    refine v_geti C dX8_logs_108 lf_X8_293 ck_8 (by decide) ?_
    refine v_iastoreL C dX8_logs_111 ck_47 (by decide) rfl (fun σ9 => ?_)
    refine v_aload_n 0 C dX8_logs_112 rfl ?_
    refine v_getc C dX8_logs_113 lf_X8_27 ck_8 rfl ?_
    refine v_bipush C dX8_logs_116 kc_bipush_95 ?_
    refine v_iload_n 2 C dX8_logs_118 rfl ?_
    refine v_iastoreL C dX8_logs_119 ck_47 (by decide) rfl (fun σ10 => ?_)
    refine v_aload_n 0 C dX8_logs_120 rfl ?_
    refine v_getc C dX8_logs_121 lf_X8_27 ck_8 rfl ?_
    refine v_bipush C dX8_logs_124 kc_bipush_96 ?_
    refine v_aload_n 0 C dX8_logs_126 rfl ?_
    refine v_geti C dX8_logs_127 lf_X8_287 ck_8 (by decide) ?_
    refine v_iastoreL C dX8_logs_130 ck_47 (by decide) rfl (fun σ11 => ?_)
    exact v_vret C M dX8_logs_131
  · intro j68 hj68
    refine v_icmp_ne (tgt := 59) C dX8_logs_51 (by decide) ?_ ?_
    · skip
      refine v_aload_n 0 C dX8_logs_59 rfl ?_
      refine v_getc C dX8_logs_60 lf_X8_27 ck_8 rfl ?_
      refine v_bipush C dX8_logs_63 kc_bipush_90 ?_
      refine v_iaload C dX8_logs_65 ck_47 (by decide) rfl ?_
      refine v_iconst C dX8_logs_66 kc_iconst_1 ?_
      refine v_iadd C dX8_logs_67 ?_
      exact v_lv (hj68 ((σ2.1 47 0 (nI 90).toNatClampNeg) + (nI 1)) σ2) [0, 1, 2] rfl
    · skip
      refine v_bipush C dX8_logs_54 kc_bipush_16 ?_
      refine v_goto (tgt := 68) C dX8_logs_56 (by decide) ?_
      exact v_lv (hj68 (nI 16) σ2) [0, 1, 2] rfl
-- OpenLinesModel endsArbitration()V, depth 5
def fX8_endsArbitration (σ : St) : Option (Unit × St) :=
  gi (nI 5) 251 <| bd (fX8_elects (σ.1 47 0 (nI 5).toNatClampNeg) (nI 1) σ) fun (r2 : Int32) (σ1 : St) => gi (nI 3) 251 <| lt (σ1.1 47 0 (nI 3).toNatClampNeg) fun (x3 : Int32) => gi (nI 5) 251 <| bd (fX8_logs (σ1.1 47 0 (nI 5).toNatClampNeg) r2 σ1) fun _ (σ4 : St) => gi (nI 9) 251 <| gi (nI 9) 251 <| lt (wI σ4 47 0 (nI 9).toNatClampNeg ((σ4.1 47 0 (nI 9).toNatClampNeg) + (σ4.1 8 0 30))) fun (σ5 : St) => gi (nI 7) 251 <| gi (nI 7) 251 <| lt (wI σ5 47 0 (nI 7).toNatClampNeg ((σ5.1 47 0 (nI 7).toNatClampNeg) + (nI 1))) fun (σ6 : St) => gi (nI 4) 251 <| lt (wI σ6 47 0 (nI 4).toNatClampNeg (-2)) fun (σ7 : St) => gi (nI 5) 251 <| lt (wI σ7 47 0 (nI 5).toNatClampNeg 0) fun (σ8 : St) => gi (nI 3) 251 <| lt (wI σ8 47 0 (nI 3).toNatClampNeg r2) fun (σ9 : St) => (if r2 = (-2) then gi (nI 8) 251 <| gi (nI 8) 251 <| lt (wI σ9 47 0 (nI 8).toNatClampNeg ((σ9.1 47 0 (nI 8).toNatClampNeg) + (nI 1))) fun (σ14 : St) => some ((), σ14) else (jn (fun (σ10 : St) => bd (fX8_isElected r2 σ10) fun _ (σ11 : St) => some ((), σ11)) fun j132 => if x3 = (-2) then j132 σ9 else (if x3 = r2 then j132 σ9 else gi (nI 10) 251 <| gi (nI 10) 251 <| lt (wI σ9 47 0 (nI 10).toNatClampNeg ((σ9.1 47 0 (nI 10).toNatClampNeg) + (nI 1))) fun (σ12 : St) => gi (fX8_at x3 (nI 9)) 251 <| gi (fX8_at x3 (nI 9)) 251 <| lt (wI σ12 47 0 (fX8_at x3 (nI 9)).toNatClampNeg ((σ12.1 47 0 (fX8_at x3 (nI 9)).toNatClampNeg) + (nI 1))) fun (σ13 : St) => j132 σ13)))
set_option maxRecDepth 20000 in
theorem kX8_endsArbitration {X : Cx} (σ : St) : Kon X 5 yX8_endsArbitration cX8_endsArbitration 3 none gV [.ref (adr X 8 0)] σ (fX8_endsArbitration σ) := by
  refine konJ (own := RX8) (fun _ => gV) (fun a b => [.ref (a 8 0)]) (by decide +kernel) rfl (fun _ _ => Nat.le_of_ble_eq_true rfl) (fun Y C M => ?_)
  show V Y gV 0 [(0, .ref (adr Y 8 0))] [] σ (fX8_endsArbitration σ)
  unfold fX8_endsArbitration
  refine v_aload_n 0 C dX8_endsArbitration_0 rfl ?_
  refine v_aload_n 0 C dX8_endsArbitration_1 rfl ?_
  refine v_getc C dX8_endsArbitration_2 lf_X8_27 ck_8 rfl ?_
  refine v_iconst C dX8_endsArbitration_5 kc_iconst_5 ?_
  refine v_iaload C dX8_endsArbitration_6 ck_47 (by decide) rfl ?_
  refine v_iconst C dX8_endsArbitration_7 kc_iconst_1 ?_
  refine v_cV2i C dX8_endsArbitration_8 lv_X8_296 ck_8 (kX8_elects (σ.1 47 0 (nI 5).toNatClampNeg) (nI 1) _) (by decide) (Nat.le_of_ble_eq_true rfl) (fun r2 σ1 => ?_)
  refine v_istore_n (lv' := [(1, .int r2), (0, .ref (adr Y 8 0))]) C dX8_endsArbitration_11 rfl (by decide) rfl ?_
  refine v_aload_n 1 C dX8_endsArbitration_12 rfl ?_
  refine v_getc C dX8_endsArbitration_13 lf_X8_27 ck_8 rfl ?_
  refine v_iconst C dX8_endsArbitration_16 kc_iconst_3 ?_
  refine v_iaload C dX8_endsArbitration_17 ck_47 (by decide) rfl ?_
  refine v_istore_nL (lv0 := [(1, .int r2), (0, .ref (adr Y 8 0))]) C dX8_endsArbitration_18 rfl (by decide) rfl (fun x3 => ?_)
  refine v_aload_n 2 C dX8_endsArbitration_19 rfl ?_
  refine v_aload_n 2 C dX8_endsArbitration_20 rfl ?_
  refine v_getc C dX8_endsArbitration_21 lf_X8_27 ck_8 rfl ?_
  refine v_iconst C dX8_endsArbitration_24 kc_iconst_5 ?_
  refine v_iaload C dX8_endsArbitration_25 ck_47 (by decide) rfl ?_
  refine v_iload_n 1 C dX8_endsArbitration_26 rfl ?_
  refine v_cV2v C dX8_endsArbitration_27 lv_X8_303 ck_8 (kX8_logs (σ1.1 47 0 (nI 5).toNatClampNeg) r2 _) (by decide) (Nat.le_of_ble_eq_true rfl) (fun _ σ4 => ?_)
  refine v_aload_n 2 C dX8_endsArbitration_30 rfl ?_
  refine v_getc C dX8_endsArbitration_31 lf_X8_27 ck_8 rfl ?_
  refine v_bipush C dX8_endsArbitration_34 kc_bipush_9 ?_
  refine v_dup2 C dX8_endsArbitration_36 rfl rfl ?_
  refine v_iaload C dX8_endsArbitration_37 ck_47 (by decide) rfl ?_
  refine v_aload_n 2 C dX8_endsArbitration_38 rfl ?_
  refine v_geti C dX8_endsArbitration_39 lf_X8_287 ck_8 (by decide) ?_
  refine v_iadd C dX8_endsArbitration_42 ?_
  refine v_iastoreL C dX8_endsArbitration_43 ck_47 (by decide) rfl (fun σ5 => ?_)
  refine v_aload_n 2 C dX8_endsArbitration_44 rfl ?_
  refine v_getc C dX8_endsArbitration_45 lf_X8_27 ck_8 rfl ?_
  refine v_bipush C dX8_endsArbitration_48 kc_bipush_7 ?_
  refine v_dup2 C dX8_endsArbitration_50 rfl rfl ?_
  refine v_iaload C dX8_endsArbitration_51 ck_47 (by decide) rfl ?_
  refine v_iconst C dX8_endsArbitration_52 kc_iconst_1 ?_
  refine v_iadd C dX8_endsArbitration_53 ?_
  refine v_iastoreL C dX8_endsArbitration_54 ck_47 (by decide) rfl (fun σ6 => ?_)
  refine v_aload_n 2 C dX8_endsArbitration_55 rfl ?_
  refine v_getc C dX8_endsArbitration_56 lf_X8_27 ck_8 rfl ?_
  refine v_iconst C dX8_endsArbitration_59 kc_iconst_4 ?_
  refine v_bipush C dX8_endsArbitration_60 kc_bipush_m2 ?_
  refine v_iastoreL C dX8_endsArbitration_62 ck_47 (by decide) rfl (fun σ7 => ?_)
  refine v_aload_n 2 C dX8_endsArbitration_63 rfl ?_
  refine v_getc C dX8_endsArbitration_64 lf_X8_27 ck_8 rfl ?_
  refine v_iconst C dX8_endsArbitration_67 kc_iconst_5 ?_
  refine v_iconst C dX8_endsArbitration_68 kc_iconst_0 ?_
  refine v_iastoreL C dX8_endsArbitration_69 ck_47 (by decide) rfl (fun σ8 => ?_)
  refine v_aload_n 2 C dX8_endsArbitration_70 rfl ?_
  refine v_getc C dX8_endsArbitration_71 lf_X8_27 ck_8 rfl ?_
  refine v_iconst C dX8_endsArbitration_74 kc_iconst_3 ?_
  refine v_iload_n 1 C dX8_endsArbitration_75 rfl ?_
  refine v_iastoreL C dX8_endsArbitration_76 ck_47 (by decide) rfl (fun σ9 => ?_)
  refine v_iload_n 1 C dX8_endsArbitration_77 rfl ?_
  refine v_bipush C dX8_endsArbitration_78 kc_bipush_m2 ?_
  refine v_icmp_ne (tgt := 95) C dX8_endsArbitration_80 (by decide) ?_ ?_
  · skip
    refine v_iload_n 0 C dX8_endsArbitration_95 rfl ?_
    refine v_bipush C dX8_endsArbitration_96 kc_bipush_m2 ?_
    refine v_jn (fun j132 => ∀ (σ10 : St), V Y gV 132 [(0, .ref (adr Y 8 0)), (1, .int r2)] [] σ10 (j132 σ10)) ?_ ?_
    · intro σ10
      refine v_aload_n 0 C dX8_endsArbitration_132 rfl ?_
      refine v_iload_n 1 C dX8_endsArbitration_133 rfl ?_
      refine v_cV1v C dX8_endsArbitration_134 lv_X8_306 ck_8 (kX8_isElected r2 _) (by decide) (Nat.le_of_ble_eq_true rfl) (fun _ σ11 => ?_)
      exact v_vret C M dX8_endsArbitration_137
    · intro j132 hj132
      refine v_icmp_eq (tgt := 132) C dX8_endsArbitration_98 (by decide) ?_ ?_
      · skip
        exact v_lv (hj132 σ9) [2, 1] rfl
      · skip
        refine v_iload_n 0 C dX8_endsArbitration_101 rfl ?_
        refine v_iload_n 1 C dX8_endsArbitration_102 rfl ?_
        refine v_icmp_eq (tgt := 132) C dX8_endsArbitration_103 (by decide) ?_ ?_
        · skip
          exact v_lv (hj132 σ9) [2, 1] rfl
        · skip
          refine v_aload_n 2 C dX8_endsArbitration_106 rfl ?_
          refine v_getc C dX8_endsArbitration_107 lf_X8_27 ck_8 rfl ?_
          refine v_bipush C dX8_endsArbitration_110 kc_bipush_10 ?_
          refine v_dup2 C dX8_endsArbitration_112 rfl rfl ?_
          refine v_iaload C dX8_endsArbitration_113 ck_47 (by decide) rfl ?_
          refine v_iconst C dX8_endsArbitration_114 kc_iconst_1 ?_
          refine v_iadd C dX8_endsArbitration_115 ?_
          refine v_iastoreL C dX8_endsArbitration_116 ck_47 (by decide) rfl (fun σ12 => ?_)
          refine v_aload_n 2 C dX8_endsArbitration_117 rfl ?_
          refine v_getc C dX8_endsArbitration_118 lf_X8_27 ck_8 rfl ?_
          refine v_iload_n 0 C dX8_endsArbitration_121 rfl ?_
          refine v_bipush C dX8_endsArbitration_122 kc_bipush_9 ?_
          refine v_cS2p C dX8_endsArbitration_124 ls_X8_201 (kX8_at x3 (nI 9) _) (by decide) (Nat.le_of_ble_eq_true rfl) ?_
          refine v_dup2 C dX8_endsArbitration_127 rfl rfl ?_
          refine v_iaload C dX8_endsArbitration_128 ck_47 (by decide) rfl ?_
          refine v_iconst C dX8_endsArbitration_129 kc_iconst_1 ?_
          refine v_iadd C dX8_endsArbitration_130 ?_
          refine v_iastoreL C dX8_endsArbitration_131 ck_47 (by decide) rfl (fun σ13 => ?_)
          exact v_lv (hj132 σ13) [2, 1] rfl
  · skip
    refine v_aload_n 2 C dX8_endsArbitration_83 rfl ?_
    refine v_getc C dX8_endsArbitration_84 lf_X8_27 ck_8 rfl ?_
    refine v_bipush C dX8_endsArbitration_87 kc_bipush_8 ?_
    refine v_dup2 C dX8_endsArbitration_89 rfl rfl ?_
    refine v_iaload C dX8_endsArbitration_90 ck_47 (by decide) rfl ?_
    refine v_iconst C dX8_endsArbitration_91 kc_iconst_1 ?_
    refine v_iadd C dX8_endsArbitration_92 ?_
    refine v_iastoreL C dX8_endsArbitration_93 ck_47 (by decide) rfl (fun σ14 => ?_)
    exact v_vret C M dX8_endsArbitration_94
end
