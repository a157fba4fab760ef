/-! ===== act: in how many ticks one is master next ===== -/
/-- the same bus; b has been master c times at least -/
def uLo (u : BU) (b c : Nat) : BU := (u.1, u.2.1, u.2.2.1, u.2.2.2.1, u.2.2.2.2.1, u.2.2.2.2.2.1, u.2.2.2.2.2.2.1, uP u, fun x => if x = b then c else 0)
theorem UOk.lo {u : BU} (h : UOk u) (b c : Nat) : UOk (uLo u b c) := h
theorem BM.lo {u : BU} {σ : St} (h : BM σ u) (b c : Nat) : BM σ (uLo u b c) := h
theorem RR.lo {u : BU} {σ : St} {k t p s a b c : Nat} {r : Nat → Int32} (h : RR u σ k r t p s a) (hb : b < uN u) (hc : r (18 + 12 * b + 6) = nI c) (hc2 : c < 2147483648) (hs : s < 2147483648) : RR (uLo u b c) σ k r t p s a := by
  obtain ⟨d, h0, h1, h2, h3, h4, h5, h6, h7, h8, h9, h10, h11⟩ := h
  refine ⟨d, h0, h1, h2, h3, h4, h5, h6, h7, h8, fun x hx => ?_, h10, h11⟩
  obtain ⟨g1, c', g2, g3, g4⟩ := h9 x hx
  refine ⟨g1, c', g2, ?_, g4⟩
  show (if x = b then c else 0) ≤ c'
  by_cases q : x = b
  · rw [if_pos q]
    subst q
    rw [hc] at g2
    have := (nI_eq hc2 (by omega)).mp g2
    omega
  · rw [if_neg q]; exact Nat.zero_le _
theorem c_acc0 {σ : St} {k b : Nat} (hb : b < 6) : fX5_account k (nI b) 0 σ = some (σ.1 38 (6 * k + b) 0, σ) := by
  unfold fX5_account
  have := isAcc (b := b) (j := 0) hb (by omega)
  rw [nI_0] at this
  rw [this, if_neg (by decide), gi_n (by omega) (by omega), gi_0 (by omega), cl (by omega), sb_cl0]
theorem s_till {u : BU} {b c0 : Nat} (hu : UOk u) (hb : b < uN u) (hl : uL u b = c0) (hc0 : c0 < 100000000) : ∀ (d i : Nat) (σ σm : St) (t s a m m' : Nat), i + d = 2000 → t + d < 100000000 → s + 2 * d < 100000000 → TS u σ 1 σm t t s a → AOk u t a → σm.1 47 0 (18 + 12 * b + 6) = nI c0 → d < m → d < m' → ∃ (σ' σm' : St) (x v : Int32) (c : Nat), LX4_ticksToMaster_13 1 (nI b) (nI c0) (fun (σ6 : St) => some ((-2), σ6)) m (nI (i + 1)) σ = some (v, σ') ∧ (∀ ke : Int32 → St → Option (Int32 × St), LX8_till_35 (nI b) (nI c0) ke m' (nI i) σm = ke x σm') ∧ σm'.1 47 0 (18 + 12 * b + 6) = nI c ∧ c < 2000000000 ∧ v = (if c ≤ c0 then -2 else x) ∧ Kp (SCt 1) σ σ' ∧ Kp SMt σm σm' ∧ M8 σm σm' ∧ D13 σ' := by
  have hn := hu.n6
  intro d
  induction d with
  | zero =>
    intro i σ σm t s a m m' hi ht hs hT hA hc hm hm'
    obtain ⟨m, rfl⟩ : ∃ y, m = y + 1 := ⟨m - 1, by omega⟩
    obtain ⟨m', rfl⟩ : ∃ y, m' = y + 1 := ⟨m' - 1, by omega⟩
    refine ⟨σ, σm, nI i, -2, c0, ?_, fun ke => ?_, hc, by omega, by rw [if_pos (Nat.le_refl _)], kp_rf, kp_rf, M8.rf, hT.2.1⟩
    · rw [LX4_ticksToMaster_13, if_pos (by rw [lt_n (by omega) (by omega)]; omega)]
    · rw [LX8_till_35, if_pos (by rw [le_n (by omega) (by omega)]; omega)]
  | succ d ih =>
    intro i σ σm t s a m m' hi ht hs hT hA hc hm hm'
    obtain ⟨m, rfl⟩ : ∃ y, m = y + 1 := ⟨m - 1, by omega⟩
    obtain ⟨m', rfl⟩ : ∃ y, m' = y + 1 := ⟨m' - 1, by omega⟩
    obtain ⟨σ1, σm1, a1, f1, f2, f3, f4, f5⟩ := s_tick hu (by omega) (by omega) hT hA
    have kc : Kp (SCt 1) σ σ1 := fr_fX4_tick 1 σ _ _ f1
    have km : Kp SMt σm σm1 := fr_fX8_tick σm _ _ f2
    have f3' := f3
    obtain ⟨⟨d', h0, h1, h2, h3, h4, h5, h6, h7, h8, h9, -⟩, -, -⟩ := f3
    obtain ⟨g1, c, g2, g3, g4⟩ := h9 b hb
    have e0 := g1 0 (by omega)
    rw [Nat.add_zero] at e0
    have eC : LX4_ticksToMaster_13 1 (nI b) (nI c0) (fun (σ6 : St) => some ((-2), σ6)) (m + 1) (nI (i + 1)) σ = (if nI c = nI c0 then LX4_ticksToMaster_13 1 (nI b) (nI c0) (fun (σ6 : St) => some ((-2), σ6)) m (nI (i + 1 + 1)) σ1 else some (nI (i + 1), σ1)) := by
      rw [LX4_ticksToMaster_13, if_neg (by rw [lt_n (by omega) (by omega)]; omega), f1, bdS, c_acc0 (by omega), bdS, e0, g2, add_n]
    have eM : ∀ ke : Int32 → St → Option (Int32 × St), LX8_till_35 (nI b) (nI c0) ke (m' + 1) (nI i) σm = LX8_till_35 (nI b) (nI c0) ke m' (nI (i + 1)) σm1 := fun ke => by
      rw [LX8_till_35, if_neg (by rw [le_n (by omega) (by omega)]; omega), at8, gi_n (by omega) (by omega), cl (by omega), hc, if_pos rfl, f2, bdS, add_n]
    by_cases q : c = c0
    · subst q
      obtain ⟨σ', σm', x, v, c', j1, j2, j3, j4, j5, j6, j7, j8, j9⟩ := ih (i + 1) σ1 σm1 (t + 1) (s + 2) a1 m m' (by omega) (by omega) (by omega) f3' f4 g2 (by omega) (by omega)
      refine ⟨σ', σm', x, v, c', by rw [eC, if_pos rfl]; exact j1, fun ke => by rw [eM]; exact j2 ke, j3, j4, j5, kc.tr j6 (fun e he => he), km.tr j7 (fun e he => he), f5.tr j8, j9⟩
    · have hcc : c0 < c := by omega
      obtain ⟨m', rfl⟩ : ∃ y, m' = y + 1 := ⟨m' - 1, by omega⟩
      refine ⟨σ1, σm1, nI (i + 1), nI (i + 1), c, by rw [eC, if_neg (by rw [eq_n (by omega) (by omega)]; exact q)], fun ke => ?_, g2, by omega, by rw [if_neg (by omega)], kc, km, f5, f3'.2.1⟩
      rw [eM, LX8_till_35]
      by_cases z : 2000 ≤ i + 1
      · rw [if_pos (by rw [le_n (by omega) (by omega)]; exact z)]
      · rw [if_neg (by rw [le_n (by omega) (by omega)]; exact z), at8, gi_n (by omega) (by omega), cl (by omega), g2, if_neg (by rw [eq_n (by omega) (by omega)]; exact q)]
theorem act_till (p1 : Int32) : Act (fX7_till p1) (fX8_till p1) := by
  intro σ N h hN
  have no : fX7_hasBoard p1 σ = some (0, σ) → (∀ σ1, Sm8 σ σ1 → fX8_isBoard p1 σ1 = some (0, σ1)) → ∃ r σ1 σ2, fX7_till p1 σ = some (r, σ1) ∧ fX8_till p1 σ1 = some (r, σ2) ∧ Rel σ2 (N + 1) := fun k1 k2 => by
    refine act_val (w := nI 1) (v := -1) h (Or.inr (Or.inl rfl)) ?_ ?_
    · unfold fX7_till
      rw [k1, bdS, if_pos rfl]; rfl
    · unfold fX8_till
      rw [k2 _ Sm8.cR, bdS, un_0]; exact m_no (by decide)
  rcases h.2.2.2.2 with hN | ⟨b1, b2, u, t, s, a, t1, t2, hT, hK⟩
  · exact no (k_boardN hN p1).1 (k_boardN hN p1).2
  · rcases k_board b1 b2 hT p1 with ⟨b, q1, rfl, q3, q4⟩ | ⟨q3, q4⟩
    · have hu := hT.1
      have hn := hu.n6
      obtain ⟨σ8, d1, d2, d3, d4⟩ := k_guess hT h.2.2.1
      have d3' := d3
      obtain ⟨dd, -, -, -, -, -, -, -, -, -, h9, -⟩ := d3
      obtain ⟨g1, c0, g2, g3, g4⟩ := h9 b q1
      have e0 := g1 0 (by omega)
      rw [Nat.add_zero] at e0
      have hlo := d3'.lo q1 g2 (by omega) (by omega)
      have run : ∀ σm : St, σm.1 44 0 = σ.1 44 0 → σm.1 47 0 = σ.1 47 0 → _ := fun σm e1 e2 => s_till (u := uLo u b c0) (b := b) (c0 := c0) (hu.lo b c0) q1 (show (if b = b then c0 else 0) = c0 from if_pos rfl) (by omega) 2000 0 σ8 σm t s a FU FU (by omega) (by omega) (by omega) ⟨by rw [e2]; exact hlo, d4, (hT.2.2.1.fr e1).lo b c0⟩ hT.2.2.2.2 (by rw [e2]; exact g2) (by have := FU_gt; omega) (by have := FU_gt; omega)
      obtain ⟨σ9, -, -, v, -, j1, -, -, -, -, kc, -, -, -⟩ := run σ rfl rfl
      have hs9 : Sm8 σ (cR σ9 0) := ((Sm8.kp d2 (by decide)).tr (Sm8.kp kc (by decide))).tr Sm8.cR
      obtain ⟨s10, ⟨l1, l2, l3⟩, le⟩ := m_aside (σ := mR (cR σ9 0) 0) (fun (σ2 : St) => some ((), σ2))
      have k10 : Kp [(48, 0, 1)] (mR (cR σ9 0) 0) s10 := kp_of l2 l3
      have e47' : s10.1 47 0 = σ.1 47 0 := by rw [kpc k10 47 0 rfl, mR_o (by omega), hs9 47 0 (by omega)]
      obtain ⟨σ9', σm', x, v', c, i1, i2, i3, i4, i5, i6, i7, i8, i9⟩ := run s10 (by rw [kpc k10 44 0 rfl, mR_o (by omega), hs9 44 0 (by omega)]) e47'
      rw [j1] at i1
      cases i1
      obtain ⟨s15, ⟨r1, r2, r3⟩, re⟩ := m_tback (σ := σm') (fun (σ2 : St) => some ((), σ2))
      have k15 : Kp [(47, 0, 1)] σm' s15 := kp_of r2 r3
      have cm : Cm8 (cR σ9 0) s15 := ((Cm8.mR.tr (Cm8.kp k10 (by decide))).tr (Cm8.kp i7 (by decide))).tr (Cm8.kp k15 (by decide))
      have h1' : s15.1 8 0 1 = 0 := by rw [kpc k15 8 0 rfl, i8 1 (by omega) (by omega) (by omega) (by omega) (by omega), kpc k10 8 0 rfl, mR_1]
      refine ⟨v, cR σ9 0, s15, ?_, ?_, rel_run (t := t) (s := s) (a := a) h b1 b2 hT hK ?_ ?_ hT.2.2.2.2 (by omega) (by omega) ?_ ?_ ?_⟩
      · unfold fX7_till fX4_ticksToMaster
        rw [q3, bdS, if_neg (by decide), d1, bdS, c_acc0 (by omega), bdS, e0, g2]
        have j1' : LX4_ticksToMaster_13 1 (nI b) (nI c0) (fun (σ6 : St) => some ((-2), σ6)) FU (nI 1) σ8 = some (v, σ9) := j1
        rw [j1', bdS]; rfl
      · unfold fX8_till
        rw [q4 _ hs9, bdS, un_1]
        refine m_yes.trans ?_
        have la : fX8_laysAside (mR (cR σ9 0) 0) = some ((), s10) := le
        have tb' : fX8_takesBack σm' = some ((), s15) := re
        have g2' : s10.1 47 0 (18 + 12 * b + 6) = nI c0 := by rw [e47']; exact g2
        have i2' := i2 (fun (x8 : Int32) (σ9 : St) => gi (fX8_at (nI b) (nI 6)) 251 <| lt (if (σ9.1 47 0 (fX8_at (nI b) (nI 6)).toNatClampNeg) ≤ nI c0 then 0 else (nI 1)) fun (x13 : Int32) => bd (fX8_takesBack σ9) fun _ (σ14 : St) => some (if x13 = 0 then (-2) else x8, σ14))
        rw [nI_0] at i2'
        rw [la, bdS, at8, gi_n (by omega) (by omega), cl (by omega), g2', ltD]
        rw [at8, cl (show 18 + 12 * b + 6 < 2147483648 by omega)] at i2'
        rw [i2', gi_n (by omega) (by omega), i3, ltD, tb', bdS, i5]
        by_cases z : c ≤ c0
        · rw [if_pos z, if_pos (show nI c ≤ nI c0 by rw [le_n (by omega) (by omega)]; exact z), if_pos rfl]
        · rw [if_neg z, if_neg (show ¬ nI c ≤ nI c0 by rw [le_n (by omega) (by omega)]; exact z), if_neg (by decide)]
      · exact ((((((Qr.kp d2 (by unfold okR; decide) (fun j z => by rw [kpc d2 8 0 rfl])).tr (Qr.kp kc (by unfold okR; decide) (fun j z => by rw [kpc kc 8 0 rfl]))).tr Qr.cR).tr Qr.mR).tr (Qr.kp k10 (by unfold okR; decide) (fun j z => by rw [kpc k10 8 0 rfl]))).tr (Qr.kp i7 (by unfold okR; decide) (fun j z => i8 j (by omega) (by omega) (by omega) (by omega) (by omega)))).tr (Qr.kp k15 (by unfold okR; decide) (fun j z => by rw [kpc k15 8 0 rfl]))
      · refine RR.row hu (r := σ.1 47 0) (hT.2.2.2.1.f0 hu ((((Fr0.kp d2 (by unfold ok0; decide)).tr (Fr0.kp kc (by unfold ok0; decide))).tr Fr0.cR).tr (Fr0.cm cm))) (fun y hy => ?_)
        rw [r1 y hy, kpc i7 48 0 rfl, l1 y hy, mR_o (by omega), hs9 47 0 (by omega)]
      · rw [(cm 7 0 (by omega) (by omega)).1, cR_10, h1']
      · rw [h1']; decide
      · exact i9.fr (by rw [(cm 1 0 (by omega) (by omega)).1, cR_o (by omega)]) (fun o => by rw [(cm 22 o (by omega) (by omega)).1, cR_o (by omega)])
    · exact no q3 q4
