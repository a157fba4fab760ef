/-! ===== the law's case of never ===== -/
theorem wI_wI {σ : St} {a b j : Nat} {u v : Int32} : wI (wI σ a b j u) a b j v = wI σ a b j v := by
  refine Prod.ext (funext fun x => funext fun y => funext fun z => ?_) rfl
  rw [rI, rI, rI]
  by_cases h : x = a ∧ y = b ∧ z = j
  · rw [if_pos h, if_pos h]
  · rw [if_neg h, if_neg h, if_neg h]
section NEVERC
variable {R : Type} {X : Cx} {g : R → Option Value} {σ : St} {res : Option (R × St)} {b L N k n : Nat} {xs : Nat → Int32} {i : Int32}
set_option maxRecDepth 20000 in
theorem lc_39 (C : Ok (Xw X k n) RL cL_law 7 12) (C' : Ok (Xw X (k + 1) (n + 6)) RL cL_law 7 12) (hs : Sc (Xw X k n) b L xs) (hs' : Sc (Xw X (k + 1) (n + 6)) b L xs) (hl : X.1.2.1.stackTraces = false) (hT : Etx X) (hrm : Rmx X (k + 1) (n + 6)) (hi : Inx i L) (hR : Rel σ N)
    (kk : ∀ σ' : St, Rel σ' (N + 1) → V (Xw X (k + 1) (n + 6)) g 1665 (lvL X b i) [] σ' res) : V (Xw X k n) g 1571 (lvL X b i) [] σ res := by
  obtain ⟨⟨p, l, e, Rm, s, m⟩, ⟨args, below, meth, c, cells, slots⟩, Q, ad, cy, D, adK, adV⟩ := X
  obtain ⟨o, hN, e0, eL⟩ := act_neverL (xs (i + 1).toNatClampNeg) hR
  -- behind the law's own never
  have tail : ∀ (a rb : Int32) (τ τ2 : St), fX8_never (xs (i + 1).toNatClampNeg) τ = some (rb, τ2) → τ2.1 8 0 0 = a → (a = 0 → τ2.2.1 56 0 0 = rb.toInt64) → Rel τ2 (N + 1) → V (Xw ((p, l, e, Rm, s, m), (args, below, meth, c, cells, slots), Q, ad, cy, D, adK, adV) (k + 1) (n + 6)) g 1582 (lvL ((p, l, e, Rm, s, m), (args, below, meth, c, cells, slots), Q, ad, cy, D, adK, adV) b i) [.int a] τ res := fun a rb τ τ2 h1 h2 h3 h4 => by
    unfold lvL
    refine v_istore C' dL_law_1582 (by decide) rfl ?_
    refine v_aload_n 3 C' dL_law_1584 rfl ?_
    refine v_aload_n 5 C' dL_law_1585 rfl ?_
    refine v_iload 1 C' dL_law_1586 rfl ?_
    refine v_iconst (v := 1) C' dL_law_1588 (by decide) ?_
    refine v_iadd C' dL_law_1589 ?_
    refine v_sld C' hs' hi.2.1 dL_law_1590 ?_
    refine v_ask (as := [.int (xs (i + 1).toNatClampNeg)]) C' dL_law_1591 lv_L_186 ck_8 (kX8_never (xs (i + 1).toNatClampNeg) τ) (by decide) rfl (by decide) h1 ?_
    refine v_istore C' dL_law_1594 (by decide) rfl ?_
    refine v_aload_n 4 C' dL_law_1596 rfl ?_
    refine v_ask (as := []) C' dL_law_1597 lv_L_187 ck_8 (kX8_thrown τ2) (by decide) rfl (by decide) (rfl : fX8_thrown τ2 = some (τ2.1 8 0 0, τ2)) ?_
    refine v_iload 1 C' dL_law_1600 rfl ?_
    refine v_icmp_eq_b (tgt := 1607) C' dL_law_1602 (by decide) (fun _ => ?_) (fun h => absurd h2 h)
    have fin : V (Xw ((p, l, e, Rm, s, m), (args, below, meth, c, cells, slots), Q, ad, cy, D, adK, adV) (k + 1) (n + 6)) g 1624 ((6, .int rb) :: (5, .int a) :: lvL ((p, l, e, Rm, s, m), (args, below, meth, c, cells, slots), Q, ad, cy, D, adK, adV) b i) [] τ2 res := by
      refine v_goto (tgt := 1665) C' dL_law_1624 (by decide) ?_
      exact v_lv (kk τ2 h4) [2, 3, 4, 5, 6] rfl
    refine v_iload 1 C' dL_law_1607 rfl ?_
    refine v_if_ne_b (tgt := 1624) C' dL_law_1609 (by decide) (fun _ => fin) (fun h => ?_)
    refine v_aload_n 3 C' dL_law_1612 rfl ?_
    refine v_iconst C' dL_law_1613 kc_iconst_0 ?_
    have e2 : V (Xw ((p, l, e, Rm, s, m), (args, below, meth, c, cells, slots), Q, ad, cy, D, adK, adV) (k + 1) (n + 6)) g 1615 ((6, .int rb) :: (5, .int a) :: lvL ((p, l, e, Rm, s, m), (args, below, meth, c, cells, slots), Q, ad, cy, D, adK, adV) b i) [.long (τ2.2.1 56 0 (0 : Int32).toNatClampNeg)] τ2 res := by
      refine v_iload 0 C' dL_law_1615 rfl ?_
      refine v_i2l C' dL_law_1617 ?_
      refine v_lcmp C' dL_law_1618 ?_
      refine v_if_eq_b (tgt := 1624) C' dL_law_1619 (by decide) (fun _ => fin) (fun h' => absurd ((lg_cmp_eq _ _).mpr ?_) h')
      rw [sb_cl0]
      exact h3 h
    have e3 := v_laload (X := Xw ((p, l, e, Rm, s, m), (args, below, meth, c, cells, slots), Q, ad, cy, D, adK, adV) (k + 1) (n + 6)) (ci := 56) (k := 0) (n := 1) (i := 0) C' dL_law_1614 (by decide) rfl rfl e2
    rw [gi_0 (by decide)] at e3
    exact e3
  unfold lvL
  refine v_aload_n 3 C dL_law_1571 rfl ?_
  refine v_aload_n 4 C dL_law_1572 rfl ?_
  refine v_iload 0 C dL_law_1573 rfl ?_
  refine v_iconst (v := 1) C dL_law_1575 (by decide) ?_
  refine v_iadd C dL_law_1576 ?_
  refine v_sld C hs hi.2.1 dL_law_1577 ?_
  refine v_aload_n 1 C dL_law_1578 rfl ?_
  refine v_lnever (X := ((p, l, e, Rm, s, m), (args, below, meth, c, cells, slots), Q, ad, cy, D, adK, adV)) (st := []) C hl hT dL_law_1579 hN (by decide) (by decide) hrm (fun b1 hb => ?_) (fun ho => ?_)
  · have h1 := eL (nI b1).toInt64
    rw [hb] at h1
    refine tail 0 (nI b1) _ _ h1 (wIe ⟨rfl, rfl, rfl⟩) (fun _ => ?_) (rel_8 (rel_L _ hR) 0)
    show (wL σ 56 0 0 (nI b1).toInt64).2.1 56 0 0 = _
    rw [rL, if_pos ⟨rfl, rfl, rfl⟩]
  · rw [ho] at e0
    refine tail (nI 1) 0 σ _ e0 (wIe ⟨rfl, rfl, rfl⟩) (fun z => absurd z (by decide)) ?_
    rw [wI_wI]
    exact rel_8 hR (nI 1)
end NEVERC
