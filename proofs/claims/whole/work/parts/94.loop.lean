/-! ===== the law's loop ===== -/
theorem and_63 (x : Int32) : ∃ v, v < 64 ∧ x &&& nI 63 = nI v := by
  refine ⟨x.toBitVec.toNat &&& 63, Nat.lt_succ_of_le Nat.and_le_right, ?_⟩
  apply Int32.toBitVec_inj.mp
  apply BitVec.eq_of_toNat_eq
  have h : x.toBitVec.toNat &&& 63 ≤ 63 := Nat.and_le_right
  show (x.toBitVec &&& BitVec.ofNat 32 63).toNat = (BitVec.ofNat 32 (x.toBitVec.toNat &&& 63)).toNat
  rw [BitVec.toNat_and, BitVec.toNat_ofNat, BitVec.toNat_ofNat, Nat.mod_eq_of_lt (show 63 < 2 ^ 32 by omega), Nat.mod_eq_of_lt (by omega)]
theorem in_n {a L : Nat} (h : a < L) (hL : L ≤ 3072) : vp_in (nI a) L := by
  rintro (q | q)
  · rw [lt_0n (by omega)] at q; exact q
  · rw [cl (by omega)] at q; omega
theorem inx_n {a L : Nat} (h : a + 6 ≤ L) (hL : L ≤ 3072) : Inx (nI a) L :=
  ⟨in_n (by omega) hL, by show vp_in (nI a + nI 1) L; rw [add_n]; exact in_n (by omega) hL, by show vp_in (nI a + nI 2) L; rw [add_n]; exact in_n (by omega) hL, by show vp_in (nI a + nI 3) L; rw [add_n]; exact in_n (by omega) hL, by show vp_in (nI a + nI 4) L; rw [add_n]; exact in_n (by omega) hL, by show vp_in (nI a + nI 5) L; rw [add_n]; exact in_n (by omega) hL⟩
theorem six_le {a L : Nat} (hL : L ≤ 3072) (ha : a < 10000) (h : ¬ nI L - nI 6 < nI a) : a + 6 ≤ L := by
  by_cases q : L < 6
  · have key : ∀ L, L < 6 → nI L - nI 6 < 0 := by decide
    exact absurd (Int32.lt_of_lt_of_le (key L q) (by rw [ge_0 (by omega)]; trivial)) h
  · rw [sub_n (by omega), lt_n (by omega) (by omega)] at h
    omega
section LOOP
variable {X : Cx} {g : Unit → Option Value} {res : Option (Unit × St)} {b L K S : Nat} {xs : Nat → Int32}
set_option maxRecDepth 20000 in
theorem law_loop (hL : L ≤ 3072) (hK : K ≤ 1000) (hS : S ≤ 100000) (hC : ∀ k n, k ≤ 601024 → n ≤ 7293034 → Ok (Xw X k n) RL cL_law 7 12) (hs : ∀ k n, Sc (Xw X k n) b L xs) (hl : X.1.2.1.stackTraces = false) (hT : Etx X) (hRm : ∀ k n, k ≤ 601024 → n ≤ 7293034 → Rmx X k n)
    (hend : ∀ (lv : List (Nat × Value)) (σ : St), V (Xw X 601024 7293034) g 1671 lv [] σ res) : ∀ (n N : Nat) (σ : St), L ≤ 6 * N + n → 6 * N ≤ 3072 → Rel σ N → V (Xw X (K + N) (S + 6 * N)) g 23 (lvL X b (nI (6 * N))) [] σ res := by
  intro n
  induction n with
  | zero =>
    intro N σ h1 h2 hR
    have C := hC (K + N) (S + 6 * N) (by omega) (by omega)
    refine v_iload 0 C dL_law_23 rfl ?_
    refine v_aload_n 4 C dL_law_25 rfl ?_
    refine v_slen C (hs _ _) dL_law_26 ?_
    refine v_bipush C dL_law_27 kc_bipush_6 ?_
    refine v_isub C dL_law_29 ?_
    refine v_icmp_gt_b (tgt := 1671) C dL_law_30 (by decide) (fun _ => v_widen (by omega) (by omega) (hend _ _)) (fun h => ?_)
    have := six_le hL (by omega) h
    omega
  | succ n ih =>
    intro N σ h1 h2 hR
    have C := hC (K + N) (S + 6 * N) (by omega) (by omega)
    refine v_iload 0 C dL_law_23 rfl ?_
    refine v_aload_n 4 C dL_law_25 rfl ?_
    refine v_slen C (hs _ _) dL_law_26 ?_
    refine v_bipush C dL_law_27 kc_bipush_6 ?_
    refine v_isub C dL_law_29 ?_
    refine v_icmp_gt_b (tgt := 1671) C dL_law_30 (by decide) (fun _ => v_widen (by omega) (by omega) (hend _ _)) (fun h => ?_)
    have h6 := six_le hL (by omega) h
    have hi := inx_n h6 hL
    have C' := hC (K + N + 1) (S + 6 * N + 6) (by omega) (by omega)
    have next' : ∀ σ' : St, Rel σ' (N + 1) → V (Xw X (K + N + 1) (S + 6 * N + 6)) g 1665 (lvL X b (nI (6 * N))) [] σ' res := fun σ' hR' => by
      refine v_iinc (v := nI (6 * (N + 1))) 0 C' dL_law_1665 rfl (by show nI (6 * N) + nI 6 = _; rw [add_n]; rfl) (by decide) rfl ?_
      refine v_goto (tgt := 23) C' dL_law_1668 (by decide) ?_
      exact ih (N + 1) σ' (by omega) (by omega) hR'
    have next : ∀ σ' : St, Rel σ' (N + 1) → V (Xw X (K + N) (S + 6 * N)) g 1665 (lvL X b (nI (6 * N))) [] σ' res := fun σ' hR' => v_widen (by omega) (by omega) (next' σ' hR')
    have hN : N ≤ 600 := by omega
    refine v_aload_n 4 C dL_law_33 rfl ?_
    refine v_iload 0 C dL_law_34 rfl ?_
    refine v_sld C (hs _ _) hi.1 dL_law_36 ?_
    refine v_bipush C dL_law_37 kc_bipush_63 ?_
    refine v_iand C dL_law_39 ?_
    obtain ⟨v, hv, e⟩ := and_63 (xs (nI (6 * N)).toNatClampNeg)
    rw [e]
    have hx : (nI v).toInt = (v : Int) := nI_toInt (by omega)
    by_cases q : 41 < v
    · exact v_swOut (tgt := 1665) C dL_law_40 (Or.inr (by rw [hx]; omega)) (by decide) (next σ hR.up)
    · match v, hx, q with
      | 0, hx, _ => exact v_swIn (off := 184) (tgt := 224) C dL_law_40 (by rw [hx]; decide) (by rw [hx]; decide) (by rw [hx]; rfl) (by decide) (lc_0 C (hs _ _) hi hR hN next)
      | 1, hx, _ => exact v_swIn (off := 257) (tgt := 297) C dL_law_40 (by rw [hx]; decide) (by rw [hx]; decide) (by rw [hx]; rfl) (by decide) (lc_1 C (hs _ _) hi hR hN next)
      | 2, hx, _ => exact v_swIn (off := 282) (tgt := 322) C dL_law_40 (by rw [hx]; decide) (by rw [hx]; decide) (by rw [hx]; rfl) (by decide) (lc_2 C (hs _ _) hi hR hN next)
      | 3, hx, _ => exact v_swIn (off := 295) (tgt := 335) C dL_law_40 (by rw [hx]; decide) (by rw [hx]; decide) (by rw [hx]; rfl) (by decide) (lc_3 C (hs _ _) hi hR hN next)
      | 4, hx, _ => exact v_swIn (off := 308) (tgt := 348) C dL_law_40 (by rw [hx]; decide) (by rw [hx]; decide) (by rw [hx]; rfl) (by decide) (lc_4 C (hs _ _) hi hR hN next)
      | 5, hx, _ => exact v_swIn (off := 333) (tgt := 373) C dL_law_40 (by rw [hx]; decide) (by rw [hx]; decide) (by rw [hx]; rfl) (by decide) (lc_5 C (hs _ _) hi hR hN next)
      | 6, hx, _ => exact v_swIn (off := 370) (tgt := 410) C dL_law_40 (by rw [hx]; decide) (by rw [hx]; decide) (by rw [hx]; rfl) (by decide) (lc_6 C (hs _ _) hi hR hN next)
      | 7, hx, _ => exact v_swIn (off := 395) (tgt := 435) C dL_law_40 (by rw [hx]; decide) (by rw [hx]; decide) (by rw [hx]; rfl) (by decide) (lc_7 C (hs _ _) hi hR hN next)
      | 8, hx, _ => exact v_swIn (off := 432) (tgt := 472) C dL_law_40 (by rw [hx]; decide) (by rw [hx]; decide) (by rw [hx]; rfl) (by decide) (lc_8 C (hs _ _) hi hR hN next)
      | 9, hx, _ => exact v_swIn (off := 493) (tgt := 533) C dL_law_40 (by rw [hx]; decide) (by rw [hx]; decide) (by rw [hx]; rfl) (by decide) (lc_9 C (hs _ _) hi hR hN next)
      | 10, hx, _ => exact v_swIn (off := 554) (tgt := 594) C dL_law_40 (by rw [hx]; decide) (by rw [hx]; decide) (by rw [hx]; rfl) (by decide) (lc_10 C (hs _ _) hi hR hN next)
      | 11, hx, _ => exact v_swIn (off := 615) (tgt := 655) C dL_law_40 (by rw [hx]; decide) (by rw [hx]; decide) (by rw [hx]; rfl) (by decide) (lc_11 C (hs _ _) hi hR hN next)
      | 12, hx, _ => exact v_swIn (off := 676) (tgt := 716) C dL_law_40 (by rw [hx]; decide) (by rw [hx]; decide) (by rw [hx]; rfl) (by decide) (lc_12 C (hs _ _) hi hR hN next)
      | 13, hx, _ => exact v_swIn (off := 725) (tgt := 765) C dL_law_40 (by rw [hx]; decide) (by rw [hx]; decide) (by rw [hx]; rfl) (by decide) (lc_13 C (hs _ _) hi hR hN next)
      | 14, hx, _ => exact v_swIn (off := 762) (tgt := 802) C dL_law_40 (by rw [hx]; decide) (by rw [hx]; decide) (by rw [hx]; rfl) (by decide) (lc_14 C (hs _ _) hi hR hN next)
      | 15, hx, _ => exact v_swIn (off := 799) (tgt := 839) C dL_law_40 (by rw [hx]; decide) (by rw [hx]; decide) (by rw [hx]; rfl) (by decide) (lc_15 C (hs _ _) hi hR hN next)
      | 16, hx, _ => exact v_swIn (off := 836) (tgt := 876) C dL_law_40 (by rw [hx]; decide) (by rw [hx]; decide) (by rw [hx]; rfl) (by decide) (lc_16 C (hs _ _) hi hR hN next)
      | 17, hx, _ => exact v_swIn (off := 873) (tgt := 913) C dL_law_40 (by rw [hx]; decide) (by rw [hx]; decide) (by rw [hx]; rfl) (by decide) (lc_17 C (hs _ _) hi hR hN next)
      | 18, hx, _ => exact v_swIn (off := 922) (tgt := 962) C dL_law_40 (by rw [hx]; decide) (by rw [hx]; decide) (by rw [hx]; rfl) (by decide) (lc_18 C (hs _ _) hi hR hN next)
      | 19, hx, _ => exact v_swIn (off := 983) (tgt := 1023) C dL_law_40 (by rw [hx]; decide) (by rw [hx]; decide) (by rw [hx]; rfl) (by decide) (lc_19 C (hs _ _) hi hR hN next)
      | 20, hx, _ => exact v_swIn (off := 1020) (tgt := 1060) C dL_law_40 (by rw [hx]; decide) (by rw [hx]; decide) (by rw [hx]; rfl) (by decide) (lc_20 C (hs _ _) hi hR hN next)
      | 21, hx, _ => exact v_swIn (off := 1045) (tgt := 1085) C dL_law_40 (by rw [hx]; decide) (by rw [hx]; decide) (by rw [hx]; rfl) (by decide) (lc_21 C (hs _ _) hi hR hN next)
      | 22, hx, _ => exact v_swIn (off := 1082) (tgt := 1122) C dL_law_40 (by rw [hx]; decide) (by rw [hx]; decide) (by rw [hx]; rfl) (by decide) (lc_22 C (hs _ _) hi hR hN next)
      | 23, hx, _ => exact v_swIn (off := 1107) (tgt := 1147) C dL_law_40 (by rw [hx]; decide) (by rw [hx]; decide) (by rw [hx]; rfl) (by decide) (lc_23 C (hs _ _) hi hR hN next)
      | 24, hx, _ => exact v_swIn (off := 1132) (tgt := 1172) C dL_law_40 (by rw [hx]; decide) (by rw [hx]; decide) (by rw [hx]; rfl) (by decide) (lc_24 C (hs _ _) hi hR hN next)
      | 25, hx, _ => exact v_swIn (off := 1157) (tgt := 1197) C dL_law_40 (by rw [hx]; decide) (by rw [hx]; decide) (by rw [hx]; rfl) (by decide) (lc_25 C (hs _ _) hi hR hN next)
      | 26, hx, _ => exact v_swIn (off := 1194) (tgt := 1234) C dL_law_40 (by rw [hx]; decide) (by rw [hx]; decide) (by rw [hx]; rfl) (by decide) (lc_26 C (hs _ _) hi hR hN next)
      | 27, hx, _ => exact v_swIn (off := 1231) (tgt := 1271) C dL_law_40 (by rw [hx]; decide) (by rw [hx]; decide) (by rw [hx]; rfl) (by decide) (lc_27 C (hs _ _) hi hR hN next)
      | 28, hx, _ => exact v_swIn (off := 1256) (tgt := 1296) C dL_law_40 (by rw [hx]; decide) (by rw [hx]; decide) (by rw [hx]; rfl) (by decide) (lc_28 C (hs _ _) hi hR hN next)
      | 29, hx, _ => exact v_swIn (off := 1269) (tgt := 1309) C dL_law_40 (by rw [hx]; decide) (by rw [hx]; decide) (by rw [hx]; rfl) (by decide) (lc_29 C (hs _ _) hi hR hN next)
      | 30, hx, _ => exact v_swIn (off := 1294) (tgt := 1334) C dL_law_40 (by rw [hx]; decide) (by rw [hx]; decide) (by rw [hx]; rfl) (by decide) (lc_30 C (hs _ _) hi hR hN next)
      | 31, hx, _ => exact v_swIn (off := 1307) (tgt := 1347) C dL_law_40 (by rw [hx]; decide) (by rw [hx]; decide) (by rw [hx]; rfl) (by decide) (lc_31 C (hs _ _) hi hR hN next)
      | 32, hx, _ => exact v_swIn (off := 1344) (tgt := 1384) C dL_law_40 (by rw [hx]; decide) (by rw [hx]; decide) (by rw [hx]; rfl) (by decide) (lc_32 C (hs _ _) hi hR hN next)
      | 33, hx, _ => exact v_swIn (off := 1369) (tgt := 1409) C dL_law_40 (by rw [hx]; decide) (by rw [hx]; decide) (by rw [hx]; rfl) (by decide) (lc_33 C (hs _ _) hi hR hN next)
      | 34, hx, _ => exact v_swIn (off := 1406) (tgt := 1446) C dL_law_40 (by rw [hx]; decide) (by rw [hx]; decide) (by rw [hx]; rfl) (by decide) (lc_34 C (hs _ _) hi hR hN next)
      | 35, hx, _ => exact v_swIn (off := 1443) (tgt := 1483) C dL_law_40 (by rw [hx]; decide) (by rw [hx]; decide) (by rw [hx]; rfl) (by decide) (lc_35 C (hs _ _) hi hR hN next)
      | 36, hx, _ => exact v_swIn (off := 1480) (tgt := 1520) C dL_law_40 (by rw [hx]; decide) (by rw [hx]; decide) (by rw [hx]; rfl) (by decide) (lc_36 C (hs _ _) hi hR hN next)
      | 37, hx, _ => exact v_swIn (off := 1505) (tgt := 1545) C dL_law_40 (by rw [hx]; decide) (by rw [hx]; decide) (by rw [hx]; rfl) (by decide) (lc_37 C (hs _ _) hi hR hN next)
      | 38, hx, _ => exact v_swIn (off := 1518) (tgt := 1558) C dL_law_40 (by rw [hx]; decide) (by rw [hx]; decide) (by rw [hx]; rfl) (by decide) (lc_38 C (hs _ _) hi hR hN next)
      | 39, hx, _ => exact v_swIn (off := 1531) (tgt := 1571) C dL_law_40 (by rw [hx]; decide) (by rw [hx]; decide) (by rw [hx]; rfl) (by decide) (lc_39 C C' (hs _ _) (hs _ _) hl hT (hRm _ _ (by omega) (by omega)) hi hR next')
      | 40, hx, _ => exact v_swIn (off := 1587) (tgt := 1627) C dL_law_40 (by rw [hx]; decide) (by rw [hx]; decide) (by rw [hx]; rfl) (by decide) (lc_40 C (hs _ _) hi hR hN next)
      | 41, hx, _ => exact v_swIn (off := 1612) (tgt := 1652) C dL_law_40 (by rw [hx]; decide) (by rw [hx]; decide) (by rw [hx]; rfl) (by decide) (lc_41 C (hs _ _) hi hR hN next)
      | v + 42, _, q => exact absurd (by omega) q
end LOOP
