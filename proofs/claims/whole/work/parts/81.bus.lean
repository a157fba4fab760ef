/-! ===== act: bus ===== -/
theorem BC.frp {σ σ' : St} {P : Nat} {u : BU} (h : BC σ P u) (hc : ∀ a, (a = 2 ∨ 24 ≤ a ∧ a ≤ 30) → σ'.1 a P = σ.1 a P) : BC σ' P u := by
  unfold BC
  rw [hc 2 (by omega), hc 24 (by omega), hc 25 (by omega), hc 26 (by omega), hc 27 (by omega), hc 28 (by omega), hc 29 (by omega), hc 30 (by omega)]
  exact h
theorem RR.frp {u : BU} {σ σ' : St} {k t p s a : Nat} {r : Nat → Int32} (h : RR u σ k r t p s a) (hB : ∀ a, (a = 2 ∨ 24 ≤ a ∧ a ≤ 30) → σ'.1 a (uP u) = σ.1 a (uP u)) (hc : ∀ a b, (a = 4 ∨ a = 5 ∨ 32 ≤ a ∧ a ≤ 41) → σ'.1 a b = σ.1 a b) (hR : σ'.2.2 4 k 1 = σ.2.2 4 k 1) : RR u σ' k r t p s a := by
  obtain ⟨d, ⟨P, p1, p2, p3⟩, h1, h2, h3, h4, h5, h6, h7, h8, h9, h10, h11⟩ := h
  subst p3
  exact ⟨d, ⟨_, hR.trans p1, p2.frp hB, rfl⟩, h1.fr (fun j _ => by rw [hc 4 k (by omega)]) (fun j g => rfl), h2.fr (hc 5 k (by omega)) (fun j g1 g2 => rfl) (Nat.le_refl _), h3, h4.fr (hc 33 k (by omega)) (fun j g1 g2 => rfl), h5.fr (fun a g => hc a k (by omega)) (fun b _ j _ => rfl) (Nat.le_refl _), h6.fr (by rw [hc 4 k (by omega)]) (fun b _ => rfl), h7.fr (hc 36 k (by omega)) (fun b _ => rfl), h8.fr (hc 32 k (by omega)) rfl (fun b _ j _ _ => rfl), h9.fr (fun b _ => hc 38 _ (by omega)) (fun b _ j _ => rfl) (Nat.le_refl _), h10.fr (fun x _ => hc 40 _ (by omega)) (fun j g1 g2 => rfl), h11.fr (hc 41 k (by omega)) (fun j g => rfl)⟩
theorem m_cp {σ : St} (ke : St → Option (Int32 × St)) : ∃ s', ((∀ j, j < 59 → s'.1 44 0 j = σ.1 45 0 j) ∧ (∀ x y, ¬ (x = 44 ∧ y = 0) → s'.1 x y = σ.1 x y) ∧ s'.2 = σ.2) ∧ LX8_bus_68 ke FU 0 σ = ke s' := by
  have L := lp0 (fun m i (s : St) => LX8_bus_68 ke m (nI i) s) ke 59 (by omega) (fun i s => (∀ j, j < i → s.1 44 0 j = σ.1 45 0 j) ∧ (∀ x y, ¬ (x = 44 ∧ y = 0) → s.1 x y = σ.1 x y) ∧ s.2 = σ.2) σ ⟨fun j hj => absurd hj (Nat.not_lt_zero j), fun _ _ _ => rfl, rfl⟩
    (fun m s _ => by
      rw [LX8_bus_68, if_pos (by rw [le_n (by omega) (by omega)]; exact Nat.le_refl _)])
    (fun m i s hi hI => by
      obtain ⟨j1, j2, j3⟩ := hI
      rw [LX8_bus_68, if_neg (by rw [le_n (by omega) (by omega)]; omega), gi_n hi (by omega), gi_n hi (by omega), ltD, cl (by omega), add_n]
      refine ⟨_, ⟨fun j hj => ?_, fun x y z => (wIk z).trans (j2 x y z), j3⟩, rfl⟩
      by_cases q : j = i
      · rw [wIe (by omega), j2 45 0 (by omega), q]
      · rw [wIj (by omega)]; exact j1 j (by omega))
  rw [nI_0] at L
  exact L
/-- the bus that both hold now -/
def uFin (u : BU) (P : Nat) : BU := (u.1, uS u, uC u, uR u, uT u, uB u, uK u, P, fun _ => 0)
theorem ok_fin {u : BU} {P : Nat} (h : UP u) (hd : HdOk u 1) (h1 : 1 ≤ uN u) : UOk (uFin u P) := by
  obtain ⟨h2, h3, h4, h5, h6, h7, h8, h9, h10, h11⟩ := h
  obtain ⟨g1, g2, g3⟩ := hd.2.1 rfl
  exact ⟨⟨h1, h2⟩, g1, g2, g3, h3, h4, h5, h6, h7, h8, h9, h10, h11⟩
theorem bc_fin {u : BU} {σ : St} {P : Nat} {Ws : Nat → List Nat} (hP : P < 6) (h : PC σ P u 1 Ws) : BC σ P (uFin u P) := by
  obtain ⟨⟨a1, a2, a3⟩, a4, a5, a6⟩ := h
  obtain ⟨b1, b2, b3⟩ := a4 rfl
  exact ⟨hP, b1, b2, b3, a1, a2, fun b hb => (a5 b hb).1, a6⟩
theorem bm_fin {u : BU} {σ σ' : St} {P : Nat} {Ws : Nat → List Nat} (hu : UP u) (h : PM σ u 1 Ws) (hc : ∀ j, j < 59 → σ'.1 44 0 j = σ.1 45 0 j) : BM σ' (uFin u P) := by
  obtain ⟨⟨a1, a2, a3⟩, a4, a5, a6⟩ := h
  obtain ⟨b1, b2, b3⟩ := a4 rfl
  have n6 := hu.1
  have n12 := hu.2.1
  refine ⟨(hc 0 (by omega)).trans b1, (hc 1 (by omega)).trans b2, (hc 2 (by omega)).trans b3, (hc 3 (by omega)).trans a1, (hc 4 (by omega)).trans a2, fun b hb => ?_, fun i hi => ?_⟩
  · have hb' : b < uN u := hb
    exact ⟨(hc _ (by omega)).trans (a5 b hb).1.1, (hc _ (by omega)).trans (a5 b hb).1.2.1, (hc _ (by omega)).trans (a5 b hb).1.2.2⟩
  · have hi' : i < uA u := hi
    exact ⟨(hc _ (by omega)).trans (a6 i hi).1, (hc _ (by omega)).trans (a6 i hi).2.1, (hc _ (by omega)).trans (a6 i hi).2.2⟩
theorem act_bus (p1 : Int32) : Act (fX7_bus p1) (fX8_bus p1) := by
  intro σ N h hN
  obtain ⟨c, c1, c2, c3, c4⟩ := h.2.1
  have bad : (p1 < 0 ∨ ¬ p1 ≤ nI c) → ∃ r σ1 σ2, fX7_bus p1 σ = some (r, σ1) ∧ fX8_bus p1 σ1 = some (r, σ2) ∧ Rel σ2 (N + 1) := fun hb => by
    refine ⟨-1, cR σ (nI 2), mR (cR σ (nI 2)) (nI 2), ?_, ?_, h.ref (by simp)⟩
    · unfold fX7_bus
      simp only [jnD]
      rw [c2, c_refused, bdS]
      by_cases z : p1 < 0
      · rw [if_pos z]
      · rw [if_neg z, if_neg (hb.resolve_left z)]
    · unfold fX8_bus fX8_in
      rw [cR_o (by omega), c3]
      have e : (if (if p1 < 0 then (0 : Int32) else if nI c < p1 then 0 else nI 1) = 0 then nI 2 else (0 : Int32)) = nI 2 := by
        by_cases z : p1 < 0
        · rw [if_pos z, if_pos rfl]
        · rw [if_neg z, if_pos (Int32.not_le.mp (hb.resolve_left z)), if_pos rfl]
      rw [e, m_refused, bdS, if_neg (show ¬ nI 2 = 0 by decide), if_neg (show ¬ nI 1 = 0 by decide)]
  by_cases q0 : p1 < 0
  · exact bad (Or.inl q0)
  by_cases q1 : p1 ≤ nI c
  case neg => exact bad (Or.inr q1)
  obtain ⟨n, hn31, rfl⟩ := nat_of q0
  have hnc : n ≤ c := by rw [le_n (by omega) (by omega)] at q1; exact q1
  obtain ⟨⟨a1, a2, a3⟩, -, hD, ⟨b1, b2, b3⟩, hB⟩ := h
  obtain ⟨P, hP⟩ : ∃ P, σ.2.2 7 0 7 = P := ⟨_, rfl⟩
  obtain ⟨Pc, hPc⟩ : ∃ Pc, σ.2.2 7 0 6 = Pc := ⟨_, rfl⟩
  rw [hP] at b2 b3
  rw [hPc] at b1 b3
  have hT : ∀ i, i < c → σ.1 43 0 i = nI ((σ.1 43 0 i).toNatClampNeg) ∧ (σ.1 43 0 i).toNatClampNeg < 256 := fun i hi => by
    obtain ⟨v, v1, v2, -⟩ := c4 i hi
    rw [v2, cl (by omega)]
    exact ⟨rfl, v1⟩
  have hCX : CX σ (fun i => (σ.1 43 0 i).toNatClampNeg) n := ⟨c, c2, hnc, c1, fun i hi => by
    obtain ⟨v, v1, v2, v3⟩ := c4 i (by omega)
    show σ.1 42 0 i &&& nI 255 = nI ((σ.1 43 0 i).toNatClampNeg) ∧ _
    rw [← (hT i (by omega)).1, v2, v3]
    exact ⟨rfl, (hT i (by omega)).2⟩⟩
  have key := fun (σm : St) (hm : σm.1 43 0 = σ.1 43 0) => l_read (σm := σm) b2 hCX (fun i hi => by rw [hm]; exact hT i (by omega))
  have hin : ∀ w : Int32, (if fX8_in (nI n) 0 (nI c) = 0 then w else 0) = 0 := fun w => by
    unfold fX8_in
    rw [if_neg q0, if_neg (show ¬ nI c < nI n by rw [lt_n (by omega) (by omega)]; omega), if_neg (show ¬ nI 1 = 0 by decide)]
  rcases key σ rfl with ⟨σf, -, k, k1, k6, e1, -, e3, k', q, hk', hq, g1, g2, -, -, gC, -⟩ | ⟨σf, -, e1, -, u1, W1, pc1, -, up1, -, un1, gC, -⟩
  · -- a fault
    have hkk : k' = k := by
      have := g1.symm.trans e3
      rw [eq_n (by omega) (by omega)] at this
      exact this
    subst hkk
    have fC : ∀ x y, ¬ (x = 3 ∧ y = 0) → ¬ ((x = 2 ∨ 23 ≤ x ∧ x ≤ 30) ∧ y = P) → σf.1 x y = σ.1 x y := gC.1
    have f2 : σf.2.1 = σ.2.1 ∧ ∀ a b d, ¬ (a = 3 ∧ b = 0 ∧ d = 3) → σf.2.2 a b d = σ.2.2 a b d := by
      rw [gC.2]
      exact ⟨rfl, fun a b d z => wRo z⟩
    have eF : fX7_bus (nI n) σ = some (-1, cR (wI (wI (wI σf 7 0 11 (nI k')) 6 0 1 0) 7 0 12 (nI q)) (nI 4)) := by
      unfold fX7_bus fX6_clear
      simp only [jnD]
      rw [if_neg q0, c2, if_pos q1, hP, gd_t b2, e1, bdS, ltD, ltD, bdS, wIj (by omega), wIe (by omega), if_neg (by rw [← nI_0, eq_n (by omega) (by omega)]; omega), ltD, wIj (by omega), wIj (by omega), g2, c_refused, bdS]
    obtain ⟨σ1, hσ1⟩ : ∃ σ1, cR (wI (wI (wI σf 7 0 11 (nI k')) 6 0 1 0) 7 0 12 (nI q)) (nI 4) = σ1 := ⟨_, rfl⟩
    rw [hσ1] at eF
    have x1 : ∀ x y, x ≠ 6 → x ≠ 7 → σ1.1 x y = σf.1 x y := fun x y z1 z2 => by rw [← hσ1, cR_o z2, wIc z2, wIc z1, wIc z2]
    have x7 : ∀ j, j ≠ 10 → j ≠ 11 → j ≠ 12 → σ1.1 7 0 j = σf.1 7 0 j := fun j z1 z2 z3 => by rw [← hσ1, cR_j z1, wIj (by omega), wIj (by omega), wIj (by omega)]
    have x10 : σ1.1 7 0 10 = nI 4 := by rw [← hσ1, cR_10]
    have x11 : σ1.1 7 0 11 = nI k' := by rw [← hσ1, cR_j (by omega), wIj (by omega), wIj (by omega), wIe (by omega)]
    have x12 : σ1.1 7 0 12 = nI q := by rw [← hσ1, cR_j (by omega), wIe (by omega)]
    have x6 : σ1.1 6 0 1 = 0 := by rw [← hσ1, cR_o (by omega), wIj (by omega), wIe (by omega)]
    have x2 : σ1.2 = σf.2 := by rw [← hσ1]; rfl
    have hm43 : (wI (wI (mR σ1 0) 8 0 5 0) 8 0 2 0).1 43 0 = σ.1 43 0 := by rw [wIc (by omega), wIc (by omega), mR_o (by omega), x1 43 0 (by omega) (by omega), fC 43 0 (by omega) (by omega)]
    rcases key _ hm43 with ⟨σf', μ, l, l1, l6, y1, y2, y3, l', q', hl', hq', z1, z2, z3, z4, -, zM⟩ | ⟨σf', μ, y1, -⟩
    case inr =>
      rw [e1] at y1
      have : nI k' = 0 := congrArg Prod.fst (Option.some.inj y1)
      rw [← nI_0, eq_n (by omega) (by omega)] at this
      omega
    have es : σf = σf' := congrArg Prod.snd (Option.some.inj (e1.symm.trans y1))
    subst es
    have hl2 : l' = k' := by
      have := z1.symm.trans g1
      rw [eq_n (by omega) (by omega)] at this
      exact this
    have hq2 : q' = q := by
      have := z2.symm.trans g2
      rw [eq_n (by omega) (by omega)] at this
      exact this
    subst hl2 hq2
    have eG : fX8_bus (nI n) σ1 = some (-1, wI (wI (wI μ 8 0 2 (nI l')) 8 0 3 (nI q')) 8 0 1 (nI 4)) := by
      unfold fX8_bus fX8_no
      rw [x1 8 0 (by omega) (by omega), fC 8 0 (by omega) (by omega), c3, hin, m_refused, bdS, if_pos rfl, if_pos rfl, ltD, ltD, y2, bdS, if_pos rfl, z3, ltD, wIj (by omega), z4, ltD, ltD, bdS]
    refine ⟨_, _, _, eF, eG, ?_⟩
    have mA : ∀ x y, x ≠ 8 → ¬ (x = 45 ∧ y = 0) → μ.1 x y = σ1.1 x y := fun x y w1 w2 => by rw [zM.1 x y (by omega) w2, wIc w1, wIc w1, wIc w1, mR_o w1]
    have m8 : ∀ j, ¬ (10 ≤ j ∧ j ≤ 17) → j ≠ 0 → j ≠ 1 → j ≠ 2 → j ≠ 3 → j ≠ 5 → μ.1 8 0 j = σ.1 8 0 j := fun j w1 w2 w3 w4 w5 w6 => by rw [zM.2.1 j (by omega), wIj (by omega), wIj (by omega), wIj (by omega), mR_j (by omega), x1 8 0 (by omega) (by omega), fC 8 0 (by omega) (by omega)]
    have m5 : μ.1 8 0 5 = 0 := by rw [zM.2.1 5 (by omega), wIj (by omega), wIj (by omega), wIe (by omega)]
    have mR2 : ∀ a b d, ¬ (a = 3 ∧ b = 0 ∧ d = 3) → μ.2.2 a b d = σ.2.2 a b d := fun a b d w => by
      rw [zM.2.2.1]
      show σ1.2.2 a b d = _
      rw [x2]; exact f2.2 a b d w
    obtain ⟨σ2, hσ2⟩ : ∃ σ2, wI (wI (wI μ 8 0 2 (nI l')) 8 0 3 (nI q')) 8 0 1 (nI 4) = σ2 := ⟨_, rfl⟩
    rw [hσ2]
    have A : ∀ x y, x ≠ 3 → x ≠ 6 → x ≠ 7 → x ≠ 8 → x ≠ 45 → ¬ ((x = 2 ∨ 23 ≤ x ∧ x ≤ 30) ∧ y = P) → σ2.1 x y = σ.1 x y := fun x y w1 w2 w3 w4 w5 w6 => by rw [← hσ2, wIc w4, wIc w4, wIc w4, mA x y w4 (by omega), x1 x y w2 w3, fC x y (by omega) w6]
    have A7 : ∀ j, j ≠ 10 → j ≠ 11 → j ≠ 12 → σ2.1 7 0 j = σ.1 7 0 j := fun j w1 w2 w3 => by rw [← hσ2, wIc (by omega), wIc (by omega), wIc (by omega), mA 7 0 (by omega) (by omega), x7 j w1 w2 w3, fC 7 0 (by omega) (by omega)]
    have A8 : ∀ j, ¬ (10 ≤ j ∧ j ≤ 17) → j ≠ 0 → j ≠ 1 → j ≠ 2 → j ≠ 3 → j ≠ 5 → σ2.1 8 0 j = σ.1 8 0 j := fun j w1 w2 w3 w4 w5 w6 => by rw [← hσ2, wIj (by omega), wIj (by omega), wIj (by omega)]; exact m8 j w1 w2 w3 w4 w5 w6
    have B7 : ∀ j, σ2.1 7 0 j = σ1.1 7 0 j := fun j => by rw [← hσ2, wIc (by omega), wIc (by omega), wIc (by omega), mA 7 0 (by omega) (by omega)]
    have A2 : ∀ a b d, ¬ (a = 3 ∧ b = 0 ∧ d = 3) → σ2.2.2 a b d = σ.2.2 a b d := fun a b d w => by rw [← hσ2]; exact mR2 a b d w
    have s81 : σ2.1 8 0 1 = nI 4 := by rw [← hσ2, wIe (by omega)]
    have s83 : σ2.1 8 0 3 = nI q' := by rw [← hσ2, wIj (by omega), wIe (by omega)]
    have s82 : σ2.1 8 0 2 = nI l' := by rw [← hσ2, wIj (by omega), wIj (by omega), wIe (by omega)]
    refine ⟨⟨by rw [B7, x10, s81], by rw [B7, x11, s82], fun _ => by rw [B7, x12, s83]⟩, ⟨0, by omega, ?_, ?_, fun i hi => absurd hi (Nat.not_lt_zero i)⟩, hD.fr (by rw [A 1 0 (by omega) (by omega) (by omega) (by omega) (by omega) (by omega)]) (fun o => A 22 o (by omega) (by omega) (by omega) (by omega) (by omega) (by omega)), ?_, ?_⟩
    · rw [← hσ2, wIc (by omega), wIc (by omega), wIc (by omega), mA 6 0 (by omega) (by omega), x6, nI_0]
    · rw [← hσ2, wIj (by omega), wIj (by omega), wIj (by omega), m5, nI_0]
    · unfold Pls
      rw [A2 7 0 6 (by omega), A2 7 0 7 (by omega), hP, hPc]
      exact ⟨b1, b2, b3⟩
    · rcases hB with ⟨t1, t2, t3, t4, t5⟩ | ⟨t1, t2, u, t, s, a, t3, t4, ⟨v1, v2, v3, v4, v5⟩, t6⟩
      · exact Or.inl ⟨by rw [A7 8 (by omega) (by omega) (by omega)]; exact t1, by rw [A8 9 (by omega) (by omega) (by omega) (by omega) (by omega) (by omega)]; exact t2, by rw [A7 9 (by omega) (by omega) (by omega)]; exact t3, by rw [A8 21 (by omega) (by omega) (by omega) (by omega) (by omega) (by omega)]; exact t4, fun l hl => by rw [A 47 0 (by omega) (by omega) (by omega) (by omega) (by omega) (by omega)]; exact t5 l hl⟩
      · have hup : uP u = Pc := by
          obtain ⟨d, ⟨P', p1, p2, p3⟩, -⟩ := v4
          rw [← p3, ← p1, v2, hPc]
        have fr : ∀ (k : Nat) (r : Nat → Int32) (t s a : Nat), RR u σ k r t t s a → RR u σ2 k r t t s a := fun k r t s a hR =>
          hR.frp (fun x w => A x _ (by omega) (by omega) (by omega) (by omega) (by omega) (by rw [hup]; omega)) (fun x y w => A x y (by omega) (by omega) (by omega) (by omega) (by omega) (by omega)) (A2 4 k 1 (by omega))
        refine Or.inr ⟨by rw [A7 8 (by omega) (by omega) (by omega)]; exact t1, by rw [A8 9 (by omega) (by omega) (by omega) (by omega) (by omega) (by omega)]; exact t2, u, t, s, a, by omega, by omega, ⟨v1, by rw [A2 4 0 1 (by omega), A2 7 0 6 (by omega)]; exact v2, v3.fr (A 44 0 (by omega) (by omega) (by omega) (by omega) (by omega) (by omega)), ?_, v5⟩, ?_⟩
        · rw [A 47 0 (by omega) (by omega) (by omega) (by omega) (by omega) (by omega)]
          exact fr 0 _ _ _ _ v4
        · unfold KpT
          rw [A7 9 (by omega) (by omega) (by omega), A8 21 (by omega) (by omega) (by omega) (by omega) (by omega) (by omega)]
          rcases t6 with z | ⟨z1, z2, t', s', a', z3, z4, z5, z6, z7⟩
          · exact Or.inl z
          · refine Or.inr ⟨z1, z2, t', s', a', by omega, by omega, by rw [A2 4 2 1 (by omega), A2 7 0 6 (by omega)]; exact z5, ?_, z7⟩
            rw [A 49 0 (by omega) (by omega) (by omega) (by omega) (by omega) (by omega)]
            exact fr 2 _ _ _ _ z6
  · -- a bus
    have fC : ∀ x y, ¬ (x = 3 ∧ y = 0) → ¬ ((x = 2 ∨ 23 ≤ x ∧ x ≤ 30) ∧ y = P) → σf.1 x y = σ.1 x y := gC.1
    have f2 : σf.2.1 = σ.2.1 ∧ ∀ a b d, ¬ (a = 3 ∧ b = 0 ∧ d = 3) → σf.2.2 a b d = σ.2.2 a b d := by
      rw [gC.2]
      exact ⟨rfl, fun a b d z => wRo z⟩
    obtain ⟨σa, hσa⟩ : ∃ σa, wR (wR (wI (wI σf 7 0 11 0) 6 0 1 0) 7 0 6 P) 7 0 7 Pc = σa := ⟨_, rfl⟩
    have aA : ∀ x y, x ≠ 6 → x ≠ 7 → σa.1 x y = σf.1 x y := fun x y z1 z2 => by rw [← hσa, wR1, wR1, wIc z1, wIc z2]
    have a7 : ∀ j, j ≠ 11 → σa.1 7 0 j = σf.1 7 0 j := fun j z => by rw [← hσa, wR1, wR1, wIj (by omega), wIj (by omega)]
    have a11 : σa.1 7 0 11 = 0 := by rw [← hσa, wR1, wR1, wIj (by omega), wIe (by omega)]
    have a61 : σa.1 6 0 1 = 0 := by rw [← hσa, wR1, wR1, wIe (by omega)]
    have a76 : σa.2.2 7 0 6 = P := by rw [← hσa, wRo (by omega), wRe]
    have a77 : σa.2.2 7 0 7 = Pc := by rw [← hσa, wRe]
    have n6 := up1.1
    obtain ⟨σb, s1, s2, s3⟩ := c_start (σ := σa) b2 n6 (by rw [aA 2 P (by omega) (by omega)]; exact pc1.1.1)
    have s76 : σb.2.2 7 0 6 = P := by rw [s3.2.2 7 0 6 (by omega)]; exact a76
    have s77 : σb.2.2 7 0 7 = Pc := by rw [s3.2.2 7 0 7 (by omega)]; exact a77
    have eF : fX7_bus (nI n) σ = some (nI (uN u1), cR (wI (wI σb 7 0 8 (nI 1)) 7 0 9 0) 0) := by
      unfold fX7_bus fX6_clear
      simp only [jnD]
      rw [if_neg q0, c2, if_pos q1, hP, gd_t b2, e1, bdS, ltD, ltD, bdS, wIj (by omega), wIe (by omega), if_pos rfl]
      have r7 : (wI (wI σf 7 0 11 0) 6 0 1 0).2.2 7 0 7 = P := (f2.2 7 0 7 (by omega)).trans hP
      have r6 : (wI (wI σf 7 0 11 0) 6 0 1 0).2.2 7 0 6 = Pc := (f2.2 7 0 6 (by omega)).trans hPc
      rw [r7, r6, gd_t b1, gd_t b2, ltD, ltD, hσa, a76, gd_t b2, s1, bdS, gd_t (by decide), ltD, gd_t (by decide), ltD]
      have w6 : (wI (wI σb 7 0 8 (nI 1)) 7 0 9 0).2.2 7 0 6 = P := s76
      rw [w6, gd_t b2, c_accepted, bdS, wIc (by omega), wIc (by omega), s3.1 2 P (by omega) (by omega) (by omega), aA 2 P (by omega) (by omega), pc1.1.1]
    obtain ⟨σ1, hσ1⟩ : ∃ σ1, cR (wI (wI σb 7 0 8 (nI 1)) 7 0 9 0) 0 = σ1 := ⟨_, rfl⟩
    rw [hσ1] at eF
    have x1 : ∀ x y, x ≠ 7 → σ1.1 x y = σb.1 x y := fun x y z => by rw [← hσ1, cR_o z, wIc z, wIc z]
    have x7 : ∀ j, j ≠ 8 → j ≠ 9 → j ≠ 10 → σ1.1 7 0 j = σb.1 7 0 j := fun j z1 z2 z3 => by rw [← hσ1, cR_j z3, wIj (by omega), wIj (by omega)]
    have x8 : σ1.1 7 0 8 = nI 1 := by rw [← hσ1, cR_j (by omega), wIj (by omega), wIe (by omega)]
    have x9 : σ1.1 7 0 9 = 0 := by rw [← hσ1, cR_j (by omega), wIe (by omega)]
    have x10 : σ1.1 7 0 10 = 0 := by rw [← hσ1, cR_10]
    have x11 : σ1.1 7 0 11 = 0 := by rw [x7 11 (by omega) (by omega) (by omega), s3.1 7 0 (by omega) (by omega) (by omega), a11]
    have x2 : σ1.2 = σb.2 := by rw [← hσ1]; rfl
    have xo : ∀ x y, x ≠ 7 → x ≠ 6 → x ≠ 3 → ¬ ((x = 4 ∨ x = 5 ∨ 32 ≤ x ∧ x ≤ 36 ∨ x = 41) ∧ y = 0) → ¬ (x = 38 ∧ y < 6) → ¬ (x = 40 ∧ y < 16) → ¬ ((x = 2 ∨ 23 ≤ x ∧ x ≤ 30) ∧ y = P) → σ1.1 x y = σ.1 x y := fun x y w1 w2 w3 w4 w5 w6 w7 => by rw [x1 x y w1, s3.1 x y w4 w5 w6, aA x y w2 w1, fC x y (by omega) w7]
    have hm43 : (wI (wI (mR σ1 0) 8 0 5 0) 8 0 2 0).1 43 0 = σ.1 43 0 := by rw [wIc (by omega), wIc (by omega), mR_o (by omega), xo 43 0 (by omega) (by omega) (by omega) (by omega) (by omega) (by omega) (by omega)]
    rcases key _ hm43 with ⟨σf', μ, l, l1, l6, y1, -⟩ | ⟨σf', μ, y1, y2, u, Ws, pc, pm, up, hd, un, -, zM⟩
    · rw [e1] at y1
      have : 0 = nI l := congrArg Prod.fst (Option.some.inj y1)
      rw [← nI_0, eq_n (by omega) (by omega)] at this
      omega
    have es : σf = σf' := congrArg Prod.snd (Option.some.inj (e1.symm.trans y1))
    subst es
    have hun : uN u1 = uN u := by
      have := pc1.1.1.symm.trans pc.1.1
      rw [eq_n (by omega) (by have := up.1; omega)] at this
      exact this
    obtain ⟨μ1, ⟨w1, w2, w3⟩, we⟩ := m_cp (σ := μ) (fun (σ11 : St) => gd ((nI 1) = 0 ∨ (nI 1) = 1) <| lt (wI σ11 8 0 9 (nI 1)) fun (σ12 : St) => gd (0 = 0 ∨ 0 = 1) <| lt (wI σ12 8 0 21 0) fun (σ13 : St) => bd (fX8_beginsAnew σ13) fun _ (σ14 : St) => gi (nI 3) 59 <| some (σ14.1 44 0 (nI 3).toNatClampNeg, σ14))
    obtain ⟨σ2, d1, d2, d3, d4⟩ := m_anew (σ := wI (wI μ1 8 0 9 (nI 1)) 8 0 21 0)
    have eG : fX8_bus (nI n) σ1 = some (nI (uN u1), σ2) := by
      unfold fX8_bus
      rw [xo 8 0 (by omega) (by omega) (by omega) (by omega) (by omega) (by omega) (by omega), c3, hin, m_refused, bdS, if_pos rfl, if_pos rfl, ltD, ltD, y2, bdS, if_neg (show ¬ nI 1 = 0 by decide), we, gd_t (by decide), ltD, gd_t (by decide), ltD, d1, bdS, gi_n (by omega) (by omega), cl (by omega), d3 44 0 (by omega), wIc (by omega), wIc (by omega), w1 3 (by omega), pm.1.1, hun]
    refine ⟨_, _, _, eF, eG, ?_⟩
    have mA : ∀ x y, x ≠ 8 → ¬ (x = 45 ∧ y = 0) → ¬ (x = 44 ∧ y = 0) → ¬ (x = 47 ∧ y = 0) → σ2.1 x y = σ1.1 x y := fun x y g1 g2 g3 g4 => by rw [d3 x y g4, wIc g1, wIc g1, w2 x y g3, zM.1 x y (by omega) g2, wIc g1, wIc g1, wIc g1, mR_o g1]
    have m8 : ∀ j, ¬ (10 ≤ j ∧ j ≤ 17) → j ≠ 9 → j ≠ 21 → σ2.1 8 0 j = (wI (wI (mR σ1 0) 8 0 5 0) 8 0 2 0).1 8 0 j := fun j g1 g2 g3 => by rw [d3 8 0 (by omega), wIj (by omega), wIj (by omega), w2 8 0 (by omega), zM.2.1 j (by omega), wIj (by omega)]
    have m9 : σ2.1 8 0 9 = nI 1 := by rw [d3 8 0 (by omega), wIj (by omega), wIe (by omega)]
    have m21 : σ2.1 8 0 21 = 0 := by rw [d3 8 0 (by omega), wIe (by omega)]
    have mR2 : σ2.2.2 = σb.2.2 := by
      rw [d4]
      show μ1.2.2 = _
      rw [w3, zM.2.2.1]
      show σ1.2.2 = _
      rw [x2]
    have m1 : σ2.1 8 0 1 = 0 := by rw [m8 1 (by omega) (by omega) (by omega), wIj (by omega), wIj (by omega), mR_1]
    have m2 : σ2.1 8 0 2 = 0 := by rw [m8 2 (by omega) (by omega) (by omega), wIe (by omega)]
    have hok : UOk (uFin u P) := ok_fin up hd un
    refine ⟨⟨?_, ?_, fun z => ?_⟩, ⟨0, by omega, ?_, ?_, fun i hi => absurd hi (Nat.not_lt_zero i)⟩, hD.fr ?_ (fun o => ?_), ⟨?_, ?_, ?_⟩, Or.inr ⟨?_, m9, uFin u P, 0, 0, 0, by omega, by omega, ⟨hok, ?_, ?_, ?_, ⟨Nat.zero_le _, fun i hi => ?_⟩⟩, Or.inl ⟨?_, m21⟩⟩⟩
    · rw [mA 7 0 (by omega) (by omega) (by omega) (by omega), x10, m1]
    · rw [mA 7 0 (by omega) (by omega) (by omega) (by omega), x11, m2]
    · rw [m1] at z
      exact absurd z (by decide)
    · rw [mA 6 0 (by omega) (by omega) (by omega) (by omega), x1 6 0 (by omega), s3.1 6 0 (by omega) (by omega) (by omega), a61, nI_0]
    · rw [m8 5 (by omega) (by omega) (by omega), wIj (by omega), wIe (by omega), nI_0]
    · rw [mA 1 0 (by omega) (by omega) (by omega) (by omega), xo 1 0 (by omega) (by omega) (by omega) (by omega) (by omega) (by omega) (by omega)]
    · rw [mA 22 o (by omega) (by omega) (by omega) (by omega), xo 22 o (by omega) (by omega) (by omega) (by omega) (by omega) (by omega) (by omega)]
    · rw [mR2, s76]; exact b2
    · rw [mR2, s77]; exact b1
    · rw [mR2, s76, s77]; exact fun z => b3 z.symm
    · rw [mA 7 0 (by omega) (by omega) (by omega) (by omega), x8]
    · rw [mR2, s76]; exact s2.1
    · refine (bm_fin (σ' := μ1) up pm w1).fr ?_
      rw [d3 44 0 (by omega), wIc (by omega), wIc (by omega)]
    · have hRR : RR (uFin u P) σb 0 (σ2.1 47 0) 0 0 0 0 := by
        refine rr_start hok ?_ ?_ d2 (fun b => rfl)
        · refine (bc_fin b2 pc).frp (fun x g => ?_)
          rw [s3.1 x P (by omega) (by omega) (by omega), aA x P (by omega) (by omega)]
        · show C0 σb P (uN u)
          rw [← hun]; exact s2
      exact hRR.fr (fun x y g => by rw [mA x y (by omega) (by omega) (by omega) (by omega), x1 x y (by omega)]) (by rw [mR2])
    · have := hok.t i hi
      exact ⟨fun z => by omega, fun z => by omega⟩
    · rw [mA 7 0 (by omega) (by omega) (by omega) (by omega), x9]
