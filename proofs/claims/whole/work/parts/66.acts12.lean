/-! ===== acts: what is kept; what will be ===== -/
/-- the class's run 0 stays -/
def Fr0 (σ σ' : St) : Prop := (∀ a b, (a = 2 ∨ 24 ≤ a ∧ a ≤ 30) → σ'.1 a b = σ.1 a b) ∧ (∀ a, (a = 4 ∨ a = 5 ∨ 32 ≤ a ∧ a ≤ 36 ∨ a = 41) → σ'.1 a 0 = σ.1 a 0) ∧ (∀ b, b < 6 → σ'.1 38 b = σ.1 38 b) ∧ (∀ x, x < 16 → σ'.1 40 x = σ.1 40 x) ∧ σ'.2.2 4 0 1 = σ.2.2 4 0 1
theorem Fr0.tr {σ σ' σ'' : St} (h : Fr0 σ σ') (g : Fr0 σ' σ'') : Fr0 σ σ'' := ⟨fun a b z => (g.1 a b z).trans (h.1 a b z), fun a z => (g.2.1 a z).trans (h.2.1 a z), fun b z => (g.2.2.1 b z).trans (h.2.2.1 b z), fun b z => (g.2.2.2.1 b z).trans (h.2.2.2.1 b z), g.2.2.2.2.trans h.2.2.2.2⟩
def ok0 (e : Nat × Nat × Nat) : Prop := (e.1 = 0 ∨ e.1 = 1 ∨ e.1 = 3 ∨ e.1 = 7 ∨ e.1 = 8 ∨ 10 ≤ e.1 ∧ e.1 ≤ 22 ∨ e.1 = 31 ∨ 42 ≤ e.1) ∨ ((e.1 = 4 ∨ e.1 = 5 ∨ 32 ≤ e.1 ∧ e.1 ≤ 36 ∨ e.1 = 41) ∧ 1 ≤ e.2.1) ∨ (e.1 = 38 ∧ 6 ≤ e.2.1) ∨ (e.1 = 40 ∧ 16 ≤ e.2.1)
theorem Fr0.kp {S : List (Nat × Nat × Nat)} {σ σ' : St} (h : Kp S σ σ') (hS : ∀ e ∈ S, ok0 e) : Fr0 σ σ' := by
  have go : ∀ a b, (∀ e, ok0 e → ¬ (e.1 = a ∧ e.2.1 ≤ b ∧ b < e.2.2)) → σ'.1 a b = σ.1 a b ∧ σ'.2.2 a b = σ.2.2 a b := fun a b hh => ⟨(h a b (fun e he => hh e (hS e he))).1, (h a b (fun e he => hh e (hS e he))).2.2⟩
  refine ⟨fun a b z => (go a b (fun e he y => ?_)).1, fun a z => (go a 0 (fun e he y => ?_)).1, fun b z => (go 38 b (fun e he y => ?_)).1, fun b z => (go 40 b (fun e he y => ?_)).1, congrFun (go 4 0 (fun e he y => ?_)).2 1⟩
  all_goals (unfold ok0 at he; omega)
theorem Fr0.cm {σ σ' : St} (h : Cm8 σ σ') : Fr0 σ σ' := ⟨fun a b z => (h a b (by omega) (by omega)).1, fun a z => (h a 0 (by omega) (by omega)).1, fun b z => (h 38 b (by omega) (by omega)).1, fun b z => (h 40 b (by omega) (by omega)).1, by rw [(h 4 0 (by omega) (by omega)).2]⟩
theorem Fr0.cR {σ : St} {w : Int32} : Fr0 σ (cR σ w) := ⟨fun a b z => cR_o (by omega), fun a z => cR_o (by omega), fun b z => cR_o (by omega), fun b z => cR_o (by omega), rfl⟩
theorem RR.f0 {u : BU} {σ σ' : St} {t p s a : Nat} {r : Nat → Int32} (hu : UOk u) (h : RR u σ 0 r t p s a) (f : Fr0 σ σ') : RR u σ' 0 r t p s a := h.frk hu f.1 f.2.1 (fun b hb => by rw [Nat.mul_zero, Nat.zero_add]; exact f.2.2.1 b hb) (fun x hx => by rw [Nat.mul_zero, Nat.zero_add]; exact f.2.2.2.1 x hx) f.2.2.2.2
abbrev SCp (k0 : Nat) : List (Nat × Nat × Nat) := [(4, k0, k0 + 1), (32, k0, k0 + 1), (33, k0, k0 + 1), (34, k0, k0 + 1), (35, k0, k0 + 1), (36, k0, k0 + 1), (5, k0, k0 + 1), (38, 6 * k0, 6 * k0 + 6), (40, 16 * k0, 16 * k0 + 16), (41, k0, k0 + 1)]
theorem m_refB {w : Int32} {σ : St} {K : St → Option (Int32 × St)} : (bd (fX8_isRefused w σ) fun (r : Int32) (σ1 : St) => if r = 0 then K σ1 else some (0, σ1)) = if w = 0 then K (mR σ 0) else some (0, mR σ w) := by
  rw [m_refused, bdS]
  by_cases q : w = 0
  · rw [if_pos q, if_pos rfl, if_pos q, q]
  · rw [if_neg q, if_neg (by decide), if_neg q]
theorem kp_of {σ σ' : St} {ci : Nat} (h1 : ∀ x y, ¬ (x = ci ∧ y = 0) → σ'.1 x y = σ.1 x y) (h2 : σ'.2 = σ.2) : Kp [(ci, 0, 1)] σ σ' := fun x y g => by
  have hne : ¬ (x = ci ∧ y = 0) := fun z => g (ci, 0, 1) (List.mem_singleton.mpr rfl) ⟨z.1.symm, by rw [z.2]; exact Nat.le_refl _, by rw [z.2]; exact Nat.zero_lt_one⟩
  exact ⟨h1 x y hne, by rw [h2], by rw [h2]⟩
theorem act_keep : Act fX7_keep fX8_keep := by
  intro σ N h hN
  rcases h.2.2.2.2 with hN | ⟨b1, b2, u, t, s, a, t1, t2, hT, hK⟩
  · refine act_val (w := nI 1) (v := 0) h (Or.inr (Or.inl rfl)) ?_ ?_
    · unfold fX7_keep
      rw [if_pos hN.1]; rfl
    · unfold fX8_keep
      rw [e89, hN.2.1, un_0]
      exact m_refB.trans (if_neg (by decide))
  · have hu := hT.1
    obtain ⟨σ1, c1, c2⟩ := c_copy (k0 := 2) (k1 := 0) (by omega) (by omega) (by omega) hu hT.2.2.2.1
    have kc : Kp (SCp 2) σ σ1 := fr_fX4_copy 2 0 σ _ _ c1
    have z7 : ∀ j, j ≠ 9 → j ≠ 10 → (wI (wI σ1 7 0 9 (nI 1)) 7 0 10 0).1 7 0 j = σ.1 7 0 j := fun j g1 g2 => by rw [wIj (by omega), wIj (by omega), kpc kc 7 0 rfl]
    have zo : ∀ x y, x ≠ 7 → (wI (wI σ1 7 0 9 (nI 1)) 7 0 10 0).1 x y = σ1.1 x y := fun x y g => by rw [wIc g, wIc g]
    have z9 : (wI (wI σ1 7 0 9 (nI 1)) 7 0 10 0).1 7 0 9 = nI 1 := by rw [wIj (by omega), wIe (by omega)]
    have z10 : (wI (wI σ1 7 0 9 (nI 1)) 7 0 10 0).1 7 0 10 = 0 := wIe (by omega)
    have eF : fX7_keep σ = some (nI 1, wI (wI σ1 7 0 9 (nI 1)) 7 0 10 0) := by
      unfold fX7_keep
      rw [if_neg (by rw [b1]; decide), c1, bdS, gd_t (show nI 1 = 0 ∨ nI 1 = 1 by decide), ltD, ltD]
    generalize hσ3 : wI (wI σ1 7 0 9 (nI 1)) 7 0 10 0 = σ3 at z7 zo z9 z10 eF
    have z2 : σ3.2 = σ1.2 := by rw [← hσ3]; rfl
    have hs3 : ∀ x y, (x = 8 ∨ 43 ≤ x) → σ3.1 x y = σ.1 x y := fun x y g => by rw [zo x y (by omega)]; exact Sm8.kp kc (by decide) x y g
    obtain ⟨sk, ⟨k1, k2, k3⟩, ke⟩ := m_keep (σ := mR σ3 0) (fun (σ4 : St) => gd ((nI 1) = 0 ∨ (nI 1) = 1) <| lt (wI σ4 8 0 21 (nI 1)) fun (σ5 : St) => some (nI 1, σ5))
    have eG : fX8_keep σ3 = some (nI 1, wI sk 8 0 21 (nI 1)) := by
      unfold fX8_keep
      rw [hs3 8 0 (by omega), b2, un_1]
      refine (m_refB.trans (if_pos rfl)).trans ?_
      rw [ke, gd_t (show nI 1 = 0 ∨ nI 1 = 1 by decide), ltD]
    have w8 : ∀ j, j ≠ 0 → j ≠ 1 → j ≠ 3 → j ≠ 21 → (wI sk 8 0 21 (nI 1)).1 8 0 j = σ.1 8 0 j := fun j g1 g2 g3 g4 => by rw [wIj (by omega), k2 8 0 (by omega), mR_j ⟨g1, g2, g3⟩, hs3 8 0 (by omega)]
    have w81 : (wI sk 8 0 21 (nI 1)).1 8 0 1 = 0 := by rw [wIj (by omega), k2 8 0 (by omega), mR_1]
    have wo : ∀ x y, x ≠ 8 → ¬ (x = 49 ∧ y = 0) → (wI sk 8 0 21 (nI 1)).1 x y = σ3.1 x y := fun x y g1 g2 => by rw [wIc g1, k2 x y g2, mR_o g1]
    have w49 : ∀ j, j < 251 → (wI sk 8 0 21 (nI 1)).1 49 0 j = σ.1 47 0 j := fun j hj => by rw [wIj (by omega), k1 j hj, mR_o (by omega), hs3 47 0 (by omega)]
    have wv2 : (wI sk 8 0 21 (nI 1)).2 = σ1.2 := by
      show sk.2 = _
      rw [k3]
      exact z2
    have w21 : (wI sk 8 0 21 (nI 1)).1 8 0 21 = nI 1 := wIe (by omega)
    refine ⟨nI 1, σ3, wI sk 8 0 21 (nI 1), eF, eG, ?_⟩
    generalize wI sk 8 0 21 (nI 1) = σ2 at w8 w81 wo w49 wv2 w21
    have c7 : ∀ j, j ≠ 9 → j ≠ 10 → σ2.1 7 0 j = σ.1 7 0 j := fun j g1 g2 => by rw [wo 7 0 (by omega) (by omega)]; exact z7 j g1 g2
    have cls : ∀ x y, x ≠ 7 → x ≠ 8 → x < 43 → σ2.1 x y = σ1.1 x y := fun x y g1 g2 g3 => by rw [wo x y g2 (by omega), zo x y g1]
    have f0 : Fr0 σ σ2 := (Fr0.kp kc (by unfold ok0; decide)).tr ⟨fun x y z => cls x y (by omega) (by omega) (by omega), fun x z => cls x 0 (by omega) (by omega) (by omega), fun y z => cls 38 y (by omega) (by omega) (by omega), fun y z => cls 40 y (by omega) (by omega) (by omega), by rw [wv2]⟩
    obtain ⟨⟨-, a2, -⟩, ⟨c, d1, d2, d3, d4⟩, hD, ⟨p1, p2, p3⟩, -⟩ := h
    have r7 : ∀ j, σ2.2.2 7 0 j = σ.2.2 7 0 j := fun j => by rw [wv2, kpr kc 7 0 rfl]
    refine ⟨⟨by rw [wo 7 0 (by omega) (by omega), z10, w81], by rw [c7 11 (by omega) (by omega), w8 2 (by omega) (by omega) (by omega) (by omega)]; exact a2, fun z => by rw [w81] at z; exact absurd z (by decide)⟩, ⟨c, d1, by rw [cls 6 0 (by omega) (by omega) (by omega), kpc kc 6 0 rfl]; exact d2, by rw [w8 5 (by omega) (by omega) (by omega) (by omega)]; exact d3, fun i hi => by rw [wo 43 0 (by omega) (by omega), hs3 43 0 (by omega), cls 42 0 (by omega) (by omega) (by omega), kpc kc 42 0 rfl]; exact d4 i hi⟩, hD.fr (by rw [cls 1 0 (by omega) (by omega) (by omega), kpc kc 1 0 rfl]) (fun o => by rw [cls 22 o (by omega) (by omega) (by omega), kpc kc 22 o rfl]), ⟨by rw [r7]; exact p1, by rw [r7]; exact p2, by rw [r7, r7]; exact p3⟩, Or.inr ⟨by rw [c7 8 (by omega) (by omega)]; exact b1, by rw [w8 9 (by omega) (by omega) (by omega) (by omega)]; exact b2, u, t, s, a, by omega, by omega, ⟨hu, by rw [f0.2.2.2.2, r7]; exact hT.2.1, hT.2.2.1.fr (by rw [wo 44 0 (by omega) (by omega), hs3 44 0 (by omega)]), ?_, hT.2.2.2.2⟩, Or.inr ⟨by rw [wo 7 0 (by omega) (by omega)]; exact z9, w21, t, s, a, by omega, by omega, ?_, ?_, hT.2.2.2.2⟩⟩⟩
    · rw [wo 47 0 (by omega) (by omega), hs3 47 0 (by omega)]
      exact hT.2.2.2.1.f0 hu f0
    · obtain ⟨d', ⟨P, hP, -, hPu⟩, -⟩ := c2
      obtain ⟨d'', ⟨P', hP', -, hPu'⟩, -⟩ := hT.2.2.2.1
      rw [r7, wv2, hP, ← hT.2.1, hP', hPu, hPu']
    · refine RR.row hu (r := σ.1 47 0) ?_ w49
      exact c2.fr (fun x y z => cls x y (by omega) (by omega) (by omega)) (by rw [wv2])
theorem act_back : Act fX7_back fX8_back := by
  intro σ N h hN
  have no : σ.1 7 0 9 = 0 → σ.1 8 0 21 = 0 → ∃ r σ1 σ2, fX7_back σ = some (r, σ1) ∧ fX8_back σ1 = some (r, σ2) ∧ Rel σ2 (N + 1) := fun g1 g2 => by
    refine act_val (w := nI 1) (v := 0) h (Or.inr (Or.inl rfl)) ?_ ?_
    · unfold fX7_back
      rw [if_pos g1]; rfl
    · unfold fX8_back
      rw [e89, g2, un_0]
      exact m_refB.trans (if_neg (by decide))
  rcases h.2.2.2.2 with hN | ⟨b1, b2, u, t, s, a, t1, t2, hT, hK⟩
  · exact no hN.2.2.1 hN.2.2.2.1
  · have hK' := hK
    rcases hK with z | ⟨z1, z2, t', s', a', y1, y2, y3, y4, y5⟩
    · exact no z.1 z.2
    · have hu := hT.1
      obtain ⟨σ1, c1, c2⟩ := c_copy (k0 := 0) (k1 := 2) (by omega) (by omega) (by omega) hu y4
      have kc : Kp (SCp 0) σ σ1 := fr_fX4_copy 0 2 σ _ _ c1
      have eF : fX7_back σ = some (nI 1, cR σ1 0) := by
        unfold fX7_back
        rw [if_neg (by rw [z1]; decide), c1, bdS]; rfl
      have hs1 : Sm8 σ (cR σ1 0) := (Sm8.kp kc (by decide)).tr Sm8.cR
      obtain ⟨sk, ⟨k1, k2, k3⟩, ke⟩ := m_back (σ := mR (cR σ1 0) 0) (fun (σ4 : St) => some (nI 1, σ4))
      have eG : fX8_back (cR σ1 0) = some (nI 1, sk) := by
        unfold fX8_back
        rw [hs1 8 0 (by omega), z2, un_1]
        exact (m_refB.trans (if_pos rfl)).trans ke
      have kb : Kp [(47, 0, 1)] (mR (cR σ1 0) 0) sk := kp_of k2 k3
      have cm : Cm8 (cR σ1 0) sk := Cm8.mR.tr (Cm8.kp kb (by decide))
      refine ⟨nI 1, cR σ1 0, sk, eF, eG, rel_run (t := t') (s := s') (a := a') h b1 b2 hT hK' ((((Qr.kp kc (by unfold okR; decide) (fun j z => by rw [kpc kc 8 0 rfl])).tr Qr.cR).tr Qr.mR).tr (Qr.kp kb (by unfold okR; decide) (fun j z => by rw [kpc kb 8 0 rfl]))) ?_ y5 (by omega) (by omega) ?_ ?_ ?_⟩
      · refine RR.row hu (r := σ.1 49 0) ((c2.ccR).cm cm) (fun j hj => ?_)
        rw [k1 j hj, mR_o (by omega), hs1 49 0 (by omega)]
      · rw [(cm 7 0 (by omega) (by omega)).1, cR_10, kpc kb 8 0 rfl, mR_1]
      · rw [kpc kb 8 0 rfl, mR_1]; decide
      · exact h.2.2.1.fr (by rw [(cm 1 0 (by omega) (by omega)).1, cR_o (by omega), kpc kc 1 0 rfl]) (fun o => by rw [(cm 22 o (by omega) (by omega)).1, cR_o (by omega), kpc kc 22 o rfl])
/-- the guess begins as the run is -/
theorem k_guess {u : BU} {σ : St} {t s a : Nat} (hT : Told u σ t s a) (hD : D13 σ) : ∃ σ8, fX4_copy 1 0 (σ) = some ((), σ8) ∧ Kp (SCp 1) σ σ8 ∧ RR u σ8 1 (σ.1 47 0) t t s a ∧ D13 σ8 := by
  obtain ⟨σ8, c1, c2⟩ := c_copy (k0 := 1) (k1 := 0) (by omega) (by omega) (by omega) hT.1 hT.2.2.2.1
  have kc : Kp (SCp 1) σ σ8 := fr_fX4_copy 1 0 σ _ _ c1
  exact ⟨σ8, c1, kc, c2, hD.fr (by rw [kpc kc 1 0 rfl]) (fun o => kpc kc 22 o rfl)⟩
theorem act_will (p1 p2 : Int32) : Act (fX7_will p1 p2) (fX8_will p1 p2) := by
  intro σ N h hN
  have hst : fX8_in p1 (nI 1) (nI 999) = fX7_isStepCount p1 := rfl
  have no1 : (σ.1 7 0 8 = 0 ∨ fX7_isBelow p2 (nI 11) = 0) → σ.1 8 0 9 = σ.1 7 0 8 → ∃ r σ1 σ2, fX7_will p1 p2 σ = some (r, σ1) ∧ fX8_will p1 p2 σ1 = some (r, σ2) ∧ Rel σ2 (N + 1) := fun hc h9 => by
    refine act_val (w := nI 1) (v := -1) h (Or.inr (Or.inl rfl)) ?_ ?_
    · refine (c_gate (w := nI 1) ?_).trans (if_neg (by decide))
      by_cases q : σ.1 7 0 8 = 0
      · rw [if_pos q, if_pos rfl]
      · rw [if_neg q, if_pos (hc.resolve_left q), if_pos rfl]
    · unfold fX8_will
      rw [in_10, e89, h9]
      by_cases q : σ.1 7 0 8 = 0
      · rw [if_pos q]; exact m_no (by decide)
      · rw [if_neg q, if_pos (hc.resolve_left q)]; exact m_no (by decide)
  rcases h.2.2.2.2 with hN | ⟨b1, b2, u, t, s, a, t1, t2, hT, hK⟩
  · exact no1 (Or.inl hN.1) (by rw [hN.1, hN.2.1])
  · by_cases q0 : fX7_isBelow p2 (nI 11) = 0
    · exact no1 (Or.inr q0) (by rw [b1, b2])
    · by_cases q : fX7_isStepCount p1 = 0
      · refine act_val (w := nI 2) (v := -1) h (Or.inr (Or.inr (Or.inl rfl))) ?_ ?_
        · exact (c_gate (w := nI 2) (by rw [b1, if_neg (show ¬ nI 1 = 0 by decide), if_neg q0, if_neg (by decide), if_pos q])).trans (if_neg (by decide))
        · unfold fX8_will
          rw [in_10, e89, b2, if_neg (show ¬ nI 1 = 0 by decide), if_neg q0, hst, if_pos q]; exact m_no (by decide)
      · obtain ⟨j, j1, rfl, j3⟩ := below_of (by omega) q0
        have hn : ∃ n, 1 ≤ n ∧ n ≤ 999 ∧ p1 = nI n := by
          have q' := q
          unfold fX7_isStepCount at q'
          by_cases z : p1 < nI 1
          · rw [if_pos z] at q'; exact absurd rfl q'
          · have z0 : ¬ p1 < 0 := fun y => z (Int32.lt_trans y (by decide))
            obtain ⟨b, hb, rfl⟩ := nat_of z0
            rw [if_neg z] at q'
            rw [lt_n (by omega) (by omega)] at z
            by_cases z2 : nI 999 < nI b
            · rw [if_pos z2] at q'; exact absurd rfl q'
            · rw [lt_n (by omega) (by omega)] at z2
              exact ⟨b, by omega, by omega, rfl⟩
        obtain ⟨n, n1, n2, rfl⟩ := hn
        have hu := hT.1
        have hT0 : Told u (cR σ 0) t s a := by
          obtain ⟨k1, k2, k3, k4, k5⟩ := hT
          exact ⟨k1, k2, k3.fr (cR_o (by omega)), by rw [cR_o (by omega)]; exact k4.ccR, k5⟩
        have hD0 : D13 (cR σ 0) := h.2.2.1.fr (by rw [cR_o (by omega)]) (fun o => cR_o (by omega))
        obtain ⟨σ8, d1, d2, d3, d4⟩ := k_guess hT0 hD0
        rw [cR_o (by omega)] at d3
        obtain ⟨m, hm⟩ : ∃ m, FU = m + 1 + n := ⟨FU - 1 - n, by have := FU_gt; omega⟩
        have adv : ∀ σ' : St, (∀ (m j : Nat) (ke : St → Option (Unit × St)), j + n = n → n < 90000 → LX4_advance_2 1 (nI n) ke (m + n) (nI j) σ8 = LX4_advance_2 1 (nI n) ke m (nI n) σ') → fX4_advance 1 (nI n) σ8 = some ((), σ') := fun σ' g => by
          unfold fX4_advance
          have := g (m + 1) 0 (fun (σ2 : St) => some ((), σ2)) (by omega) (by omega)
          rw [nI_0] at this
          rw [hm, this, LX4_advance_2, if_pos (by rw [le_n (by omega) (by omega)]; exact Nat.le_refl _)]
        obtain ⟨σ9, -, -, -, -, -, kc, -, g4, -, -⟩ := s_ticks (k := 1) hu n n σ8 σ t s a (by omega) (by omega) ⟨d3, d4, hT.2.2.1⟩ hT.2.2.2.2
        have hadv := adv σ9 g4
        have hs9 : Sm8 σ σ9 := (Sm8.cR.tr (Sm8.kp d2 (by decide))).tr (Sm8.kp kc (by decide))
        obtain ⟨s10, ⟨l1, l2, l3⟩, le⟩ := m_aside (σ := mR σ9 0) (fun (σ2 : St) => some ((), σ2))
        have k10 : Kp [(48, 0, 1)] (mR σ9 0) s10 := kp_of l2 l3
        have e10 : s10.1 47 0 = σ.1 47 0 := by rw [kpc k10 47 0 rfl, mR_o (by omega), hs9 47 0 (by omega)]
        obtain ⟨σ9', σm', a', T', A', M', kc', km', g4', -, g6'⟩ := s_ticks (k := 1) hu n n σ8 s10 t s a (by omega) (by omega) ⟨by rw [e10]; exact d3, d4, hT.2.2.1.fr (by rw [kpc k10 44 0 rfl, mR_o (by omega), hs9 44 0 (by omega)])⟩ hT.2.2.2.2
        have hadv' := adv σ9' g4'
        rw [hadv] at hadv'
        cases hadv'
        obtain ⟨v, v1, v2⟩ := k_state (j := j) (t := t + n) hu (by omega) T'.1 T'.2.2 j1
        obtain ⟨s15, ⟨r1, r2, r3⟩, re⟩ := m_tback (σ := σm') (fun (σ2 : St) => some ((), σ2))
        have k15 : Kp [(47, 0, 1)] σm' s15 := kp_of r2 r3
        have cm : Cm8 σ9 s15 := ((Cm8.mR.tr (Cm8.kp k10 (by decide))).tr (Cm8.kp km' (by decide))).tr (Cm8.kp k15 (by decide))
        have h1' : s15.1 8 0 1 = 0 := by rw [kpc k15 8 0 rfl, M' 1 (by omega) (by omega) (by omega) (by omega) (by omega), kpc k10 8 0 rfl, mR_1]
        refine ⟨v, σ9, s15, ?_, ?_, rel_run (t := t) (s := s) (a := a) h b1 b2 hT hK ?_ ?_ hT.2.2.2.2 (by omega) (by omega) ?_ ?_ ?_⟩
        · refine (c_gate (w := 0) (by rw [b1, if_neg (show ¬ nI 1 = 0 by decide), if_neg q0, if_neg (by decide), if_neg q])).trans ((if_pos rfl).trans ?_)
          rw [d1, bdS, hadv, bdS, v1, bdS]
        · unfold fX8_will
          rw [in_10, hs9 8 0 (by omega), b2, if_neg (show ¬ nI 1 = 0 by decide), if_neg q0, hst, if_neg q]
          refine m_yes.trans ?_
          have la : fX8_laysAside (mR σ9 0) = some ((), s10) := le
          have tb' : fX8_takesBack σm' = some ((), s15) := re
          have := g6' (m + 1) 0 (nI j) (fun (σ12 : St) => bd (fX8_told (nI j) σ12) fun (r14 : Int32) (σ13 : St) => bd (fX8_takesBack σ13) fun _ (σ15 : St) => some (r14, σ15)) (by omega) (by omega)
          rw [nI_0] at this
          rw [la, bdS, hm, this, LX8_will_52, if_pos (by rw [le_n (by omega) (by omega)]; exact Nat.le_refl _), v2, bdS, tb', bdS]
        · exact (((((Qr.cR.tr (Qr.kp d2 (by unfold okR; decide) (fun j z => by rw [kpc d2 8 0 rfl]))).tr (Qr.kp kc (by unfold okR; decide) (fun j z => by rw [kpc kc 8 0 rfl]))).tr Qr.mR).tr (Qr.kp k10 (by unfold okR; decide) (fun j z => by rw [kpc k10 8 0 rfl]))).tr (Qr.kp km' (by unfold okR; decide) (fun j z => M' j (by omega) (by omega) (by omega) (by omega) (by omega)))).tr (Qr.kp k15 (by unfold okR; decide) (fun j z => by rw [kpc k15 8 0 rfl]))
        · refine RR.row hu (r := σ.1 47 0) (hT.2.2.2.1.f0 hu (((Fr0.cR.tr (Fr0.kp d2 (by unfold ok0; decide))).tr (Fr0.kp kc (by unfold ok0; decide))).tr (Fr0.cm cm))) (fun x hx => ?_)
          rw [r1 x hx, kpc km' 48 0 rfl, l1 x hx, mR_o (by omega), hs9 47 0 (by omega)]
        · rw [(cm 7 0 (by omega) (by omega)).1, kpc kc 7 0 rfl, kpc d2 7 0 rfl, cR_10, h1']
        · rw [h1']; decide
        · exact T'.2.1.fr (by rw [(cm 1 0 (by omega) (by omega)).1]) (fun o => (cm 22 o (by omega) (by omega)).1)
