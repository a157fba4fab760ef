/-! ===== acts: lines, who waits for whom, ticks, what is kept ===== -/
theorem RR.line {u : BU} {σ σm : St} {k t p s a l v : Nat} (hu : UOk u) (h : RR u σ k (σm.1 47 0) t p s a) (hl : l < 6) (hv : v ≤ 2) : RR u (wI σ 33 k l (nI v)) k ((wI σm 47 0 (12 + l) (nI v)).1 47 0) t p s a := by
  have hn := hu.n6
  obtain ⟨d, h0, h1, h2, h3, h4, h5, h6, h7, h8, h9, h10, h11⟩ := h
  refine ⟨d, h0.fr (fun a b g => wIc (by omega)) rfl, h1.fr (fun j _ => wIj (by omega)) (fun j g => wIj (by omega)), h2.fr (wIc (by omega)) (fun j g1 g2 => wIj (by omega)) (Nat.le_refl _), h3.fr (wIj (by omega)), fun l' hl' => ?_, h5.fr (fun a g => wIc (by omega)) (fun b' g j' g2 => wIj (by omega)) (Nat.le_refl _), h6.fr (wIj (by omega)) (fun b' g => wIj (by omega)), h7.fr (wIc (by omega)) (fun b' g => wIj (by omega)), h8.fr (wIc (by omega)) (wIj (by omega)) (fun b' g j' g1 g2 => wIj (by omega)), h9.fr (fun b _ => wIc (by omega)) (fun b' g j' g2 => wIj (by omega)) (Nat.le_refl _), h10.fr (fun x _ => wIc (by omega)) (fun j g1 g2 => wIj (by omega)), h11.fr (wIc (by omega)) (fun j g => wIj (by omega))⟩
  by_cases q : l' = l
  · exact ⟨v, wIe (by omega), wIe (by omega), hv⟩
  · obtain ⟨v', x1, x2, x3⟩ := h4 l' hl'
    exact ⟨v', (wIj (by omega)).trans x1, (wIj (by omega)).trans x2, x3⟩
theorem RR.wait {u : BU} {σ σm : St} {k t p s a b : Nat} {w : Nat → Option Nat} {o : Option Nat} (hu : UOk u) (h : RR u σ k (σm.1 47 0) t p s a) (hb : b < uN u) (hw : ∀ c, c < uN u → σ.1 36 k c = wv (w c) ∧ σm.1 47 0 (18 + 12 * c + 3) = wv (w c)) (hA : ∃ μ, Acy (fun c => if c = b then o else w c) (uN u) μ ∧ ∀ c, c < uN u → μ c < uN u) : RR u (wI σ 36 k b (wv o)) k ((wI σm 47 0 (18 + 12 * b + 3) (wv o)).1 47 0) t p s a := by
  have hn := hu.n6
  obtain ⟨d, h0, h1, h2, h3, h4, h5, h6, h7, h8, h9, h10, h11⟩ := h
  refine ⟨d, h0.fr (fun a b g => wIc (by omega)) rfl, h1.fr (fun j _ => wIj (by omega)) (fun j g => wIj (by omega)), h2.fr (wIc (by omega)) (fun j g1 g2 => wIj (by omega)) (Nat.le_refl _), h3.fr (wIj (by omega)), h4.fr (wIc (by omega)) (fun j g1 g2 => wIj (by omega)), h5.fr (fun a g => wIc (by omega)) (fun b' g j' g2 => wIj (by omega)) (Nat.le_refl _), h6.fr (wIj (by omega)) (fun b' g => wIj (by omega)), ?_, h8.fr (wIc (by omega)) (wIj (by omega)) (fun b' g j' g1 g2 => wIj (by omega)), h9.fr (fun b _ => wIc (by omega)) (fun b' g j' g2 => wIj (by omega)) (Nat.le_refl _), h10.fr (fun x _ => wIc (by omega)) (fun j g1 g2 => wIj (by omega)), h11.fr (wIc (by omega)) (fun j g => wIj (by omega))⟩
  obtain ⟨μ, μ1, μ2⟩ := hA
  refine ⟨_, μ, μ1, μ2, fun c hc => ?_⟩
  by_cases q : c = b
  · rw [if_pos q]
    exact ⟨wIe (by omega), wIe (by omega)⟩
  · rw [if_neg q]
    exact ⟨(wIj (by omega)).trans (hw c hc).1, (wIj (by omega)).trans (hw c hc).2⟩
theorem ctN_lt {g : Nat → Bool} {n x : Nat} (hx : x < n) (h : ¬ g x = true) : ctN g n < n := by
  have le : ∀ m, ctN g m ≤ m := by
    intro m
    induction m with
    | zero => exact Nat.le_refl _
    | succ m ih => rw [ctN]; split <;> omega
  have key : ∀ m, x < m → ctN g m < m := by
    intro m
    induction m with
    | zero => intro z; omega
    | succ m ih =>
      intro z
      rw [ctN]
      by_cases e : x = m
      · rw [← e, if_neg h]; have := le x; omega
      · have := ih (by omega); split <;> omega
  exact key n hx
theorem ctN_sub {f g : Nat → Bool} {n x : Nat} (hs : ∀ y, f y = true → g y = true) (hx : x < n) (h1 : ¬ f x = true) (h2 : g x = true) : ctN f n < ctN g n := by
  have le : ∀ m, ctN f m ≤ ctN g m := by
    intro m
    induction m with
    | zero => exact Nat.le_refl _
    | succ m ih =>
      rw [ctN, ctN]
      by_cases q : f m = true
      · rw [if_pos q, if_pos (hs m q)]; omega
      · rw [if_neg q]; split <;> omega
  have key : ∀ m, x < m → ctN f m < ctN g m := by
    intro m
    induction m with
    | zero => intro z; omega
    | succ m ih =>
      intro z
      rw [ctN, ctN]
      by_cases e : x = m
      · rw [← e, if_neg h1, if_pos h2]; have := le x; omega
      · have := ih (by omega)
        by_cases q : f m = true
        · rw [if_pos q, if_pos (hs m q)]; omega
        · rw [if_neg q]; split <;> omega
  exact key n hx
/-- any measure that falls gives one below n -/
theorem acy_small {w : Nat → Option Nat} {n : Nat} {key : Nat → Nat} (h : Acy w n key) : ∃ μ, Acy w n μ ∧ ∀ c, c < n → μ c < n := by
  refine ⟨fun x => ctN (fun y => decide (key y < key x)) n, fun b hb c hc => ?_, fun c hc => ctN_lt hc (by simp)⟩
  obtain ⟨h1, h2⟩ := h b hb c hc
  refine ⟨h1, ctN_sub (x := c) (fun y hy => ?_) h1 (by simp) (decide_eq_true h2)⟩
  have := of_decide_eq_true hy
  exact decide_eq_true (by omega)
theorem acy_none {w : Nat → Option Nat} {n b : Nat} {μ : Nat → Nat} (h : Acy w n μ) : Acy (fun c => if c = b then none else w c) n μ := fun x hx y hy => by
  by_cases q : x = b
  · simp only [if_pos q] at hy; cases hy
  · simp only [if_neg q] at hy; exact h x hx y hy
/-- one more waits, for one that does not wait for it -/
theorem acy_some {w : Nat → Option Nat} {n b c : Nat} {μ : Nat → Nat} (hn : n ≤ 6) (h : Acy w n μ) (hm : ∀ x, x < n → μ x < n) (hc : c < n) (hd : ¬ dw 6 w c b = true) : Acy (fun x => if x = b then some c else w x) n (fun x => (if dw 6 w x b = true then 8 else 0) + μ x) := fun x hx y hy => by
  by_cases q : x = b
  · simp only [if_pos q] at hy
    cases hy
    have := hm c hc
    refine ⟨hc, ?_⟩
    show (if dw 6 w c b = true then 8 else 0) + μ c < (if dw 6 w x b = true then 8 else 0) + μ x
    rw [if_neg hd, q, if_pos (dw_self 6 w b)]
    omega
  · simp only [if_neg q] at hy
    obtain ⟨h1, h2⟩ := h x hx y hy
    have hmx := hm x hx
    refine ⟨h1, ?_⟩
    have e : dw 6 w x b = dw 6 w y b := by
      rw [dw_step hy q]
      exact dw_fuel h b 5 6 y h1 (by omega) (by omega)
    show (if dw 6 w y b = true then 8 else 0) + μ y < (if dw 6 w x b = true then 8 else 0) + μ x
    rw [e]
    omega
theorem Qr.w33 {σ : St} {j : Nat} {v : Int32} : Qr σ (wI σ 33 0 j v) := Qr.kp (kp_1 kp_rf) (by unfold okR; decide) (fun i z => wIj (by omega))
theorem Qr.w36 {σ : St} {j : Nat} {v : Int32} : Qr σ (wI σ 36 0 j v) := Qr.kp (kp_1 kp_rf) (by unfold okR; decide) (fun i z => wIj (by omega))
theorem Qr.w47 {σ : St} {j : Nat} {v : Int32} : Qr σ (wI σ 47 0 j v) := Qr.kp (kp_1 kp_rf) (by unfold okR; decide) (fun i z => wIj (by omega))
theorem act_stick (p1 p2 : Int32) : Act (fX7_stick p1 p2) (fX8_stick p1 p2) := by
  intro σ N h hN
  have hin2 : fX8_in p2 0 (nI 2) = (if p2 < 0 then 0 else (if (nI 2) < p2 then 0 else (nI 1))) := rfl
  have cgo : ∀ x : Int32, (jn (fun (x2 : Int32) (σ1 : St) => bd (fX7_accepts x2 (if p2 < 0 then 0 else (if (nI 2) < p2 then 0 else (nI 1))) σ1) fun (r9 : Int32) (σ8 : St) => (if r9 = 0 then some ((-1), σ8) else bd (fX4_letLine 0 p1 p2 σ8) fun (r11 : Int32) (σ10 : St) => some (r11, σ10))) fun j22 => j22 x σ) = if (if x = 0 then nI 1 else if fX8_in p2 0 (nI 2) = 0 then nI 2 else 0) = 0 then (bd (fX4_letLine 0 p1 p2 (cR σ 0)) fun (r11 : Int32) (σ10 : St) => some (r11, σ10)) else some (-1, cR σ (if x = 0 then nI 1 else if fX8_in p2 0 (nI 2) = 0 then nI 2 else 0)) := fun x => by
    rw [jnD]
    exact c_gate (K := fun σ8 => bd (fX4_letLine 0 p1 p2 σ8) fun (r11 : Int32) (σ10 : St) => some (r11, σ10)) rfl
  have no1 : (σ.1 7 0 8 = 0 ∨ fX7_isBelow p1 (nI 6) = 0) → σ.1 8 0 9 = σ.1 7 0 8 → ∃ r σ1 σ2, fX7_stick p1 p2 σ = some (r, σ1) ∧ fX8_stick p1 p2 σ1 = some (r, σ2) ∧ Rel σ2 (N + 1) := fun hc h9 => by
    refine act_val (w := nI 1) (v := -1) h (Or.inr (Or.inl rfl)) ?_ ?_
    · have : fX7_stick p1 p2 σ = _ := (show fX7_stick p1 p2 σ = (jn (fun (x2 : Int32) (σ1 : St) => bd (fX7_accepts x2 (if p2 < 0 then 0 else (if (nI 2) < p2 then 0 else (nI 1))) σ1) fun (r9 : Int32) (σ8 : St) => (if r9 = 0 then some ((-1), σ8) else bd (fX4_letLine 0 p1 p2 σ8) fun (r11 : Int32) (σ10 : St) => some (r11, σ10))) fun j22 => j22 0 σ) by
        unfold fX7_stick
        rw [jnD, jnD, jnD]
        by_cases q : σ.1 7 0 8 = 0
        · rw [if_pos q]
        · rw [if_neg q, if_pos (hc.resolve_left q)]).trans (cgo 0)
      rw [this, if_pos rfl, if_neg (by decide)]
    · unfold fX8_stick
      rw [in_5, e89, h9]
      by_cases q : σ.1 7 0 8 = 0
      · rw [if_pos q]; exact m_no (by decide)
      · rw [if_neg q, if_pos (hc.resolve_left q)]; exact m_no (by decide)
  rcases h.2.2.2.2 with hN | ⟨b1, b2, u, t, s, a, t1, t2, hT, hK⟩
  · exact no1 (Or.inl hN.1) (by rw [hN.1, hN.2.1])
  · by_cases q : fX7_isBelow p1 (nI 6) = 0
    · exact no1 (Or.inr q) (by rw [b1, b2])
    · have hu := hT.1
      obtain ⟨l, l1, rfl, l3⟩ := below_of (by omega) q
      have hF : fX7_stick (nI l) p2 σ = _ := (show fX7_stick (nI l) p2 σ = (jn (fun (x2 : Int32) (σ1 : St) => bd (fX7_accepts x2 (if p2 < 0 then 0 else (if (nI 2) < p2 then 0 else (nI 1))) σ1) fun (r9 : Int32) (σ8 : St) => (if r9 = 0 then some ((-1), σ8) else bd (fX4_letLine 0 (nI l) p2 σ8) fun (r11 : Int32) (σ10 : St) => some (r11, σ10))) fun j22 => j22 (nI 1) σ) by
        unfold fX7_stick
        rw [jnD, jnD, jnD, if_neg (by rw [b1]; decide), if_neg q]).trans (cgo (nI 1))
      rw [if_neg (show ¬ nI 1 = 0 by decide)] at hF
      by_cases q2 : fX8_in p2 0 (nI 2) = 0
      · refine act_val (w := nI 2) (v := -1) h (Or.inr (Or.inr (Or.inl rfl))) ?_ ?_
        · rw [hF, if_pos q2, if_neg (by decide)]
        · unfold fX8_stick
          rw [in_5, e89, b2, if_neg (show ¬ nI 1 = 0 by decide), if_neg q, if_pos q2]; exact m_no (by decide)
      · have hv : ∃ v, v ≤ 2 ∧ p2 = nI v := by
          unfold fX8_in at q2
          by_cases z : p2 < 0
          · rw [if_pos z] at q2; exact absurd rfl q2
          · obtain ⟨b, hb, rfl⟩ := nat_of z
            rw [if_neg z] at q2
            by_cases z2 : nI 2 < nI b
            · rw [if_pos z2] at q2; exact absurd rfl q2
            · rw [lt_n (by omega) (by omega)] at z2
              exact ⟨b, by omega, rfl⟩
        obtain ⟨v, hv2, rfl⟩ := hv
        obtain ⟨d, h0, h1, h2, h3, h4, -⟩ := hT.2.2.2.1
        obtain ⟨x, x1, x2, x3⟩ := h4 l l1
        have e33 : (cR σ 0).1 33 0 l = nI x := by rw [cR_o (by omega)]; exact x1
        have hc : Cm8 (wI (cR σ 0) 33 0 l (nI v)) (wI (mR (wI (cR σ 0) 33 0 l (nI v)) 0) 47 0 (12 + l) (nI v)) := Cm8.mR.tr (fun x y z1 z2 => ⟨wIc (by omega), rfl⟩)
        refine ⟨nI x, wI (cR σ 0) 33 0 l (nI v), wI (mR (wI (cR σ 0) 33 0 l (nI v)) 0) 47 0 (12 + l) (nI v), ?_, ?_, rel_run (t := t) (s := s) (a := a) h b1 b2 hT hK ?_ ?_ hT.2.2.2.2 (by omega) (by omega) ?_ ?_ ?_⟩
        · rw [hF, if_neg q2, if_pos rfl]
          unfold fX4_letLine
          rw [if_neg q, gi_n (by omega) (by omega), ltD, gi_n (by omega) (by omega), cl (by omega), ltD, bdS, e33]
        · unfold fX8_stick
          have e9 : (wI (cR σ 0) 33 0 l (nI v)).1 8 0 9 = nI 1 := by rw [wIj (by omega), e89]; exact b2
          rw [in_5, e9, if_neg (show ¬ nI 1 = 0 by decide), if_neg q, if_neg q2]
          refine m_yes.trans ?_
          have e7 : (mR (wI (cR σ 0) 33 0 l (nI v)) 0).1 47 0 (12 + l) = nI x := by rw [mR_o (by omega), wIj (by omega), cR_o (by omega)]; exact x2
          rw [add_n, gi_n (by omega) (by omega), ltD, gi_n (by omega) (by omega), cl (by omega), ltD, e7]
        · exact ((Qr.cR.tr Qr.w33).tr Qr.mR).tr Qr.w47
        · have hR0 : RR u (cR σ 0) 0 ((mR (wI (cR σ 0) 33 0 l (nI v)) 0).1 47 0) t t s a := by
            rw [mR_o (by omega), wIc (by omega), cR_o (by omega)]
            exact hT.2.2.2.1.ccR
          exact (hR0.line hu l1 hv2).cm hc
        · rw [(hc 7 0 (by omega) (by omega)).1, wIj (by omega), cR_10, wIj (by omega), mR_1]
        · rw [wIj (by omega), mR_1]; decide
        · exact h.2.2.1.fr (by rw [(hc 1 0 (by omega) (by omega)).1, wIj (by omega), cR_o (by omega)]) (fun o => by rw [(hc 22 o (by omega) (by omega)).1, wIc (by omega), cR_o (by omega)])
theorem act_ticks (p1 : Int32) : Act (fX7_ticks p1) (fX8_ticks p1) := by
  intro σ N h hN
  have hst : fX8_in p1 (nI 1) (nI 999) = fX7_isStepCount p1 := rfl
  rcases h.2.2.2.2 with hN | ⟨b1, b2, u, t, s, a, t1, t2, hT, hK⟩
  · refine act_val (w := nI 1) (v := -1) h (Or.inr (Or.inl rfl)) ?_ ?_
    · exact (c_gate (w := nI 1) (by rw [if_pos hN.1])).trans (if_neg (by decide))
    · unfold fX8_ticks
      rw [e89, if_pos hN.2.1]; exact m_no (by decide)
  · by_cases q : fX7_isStepCount p1 = 0
    · refine act_val (w := nI 2) (v := -1) h (Or.inr (Or.inr (Or.inl rfl))) ?_ ?_
      · exact (c_gate (w := nI 2) (by rw [b1, if_neg (by decide), if_pos q])).trans (if_neg (by decide))
      · unfold fX8_ticks
        rw [e89, b2, if_neg (show ¬ nI 1 = 0 by decide), hst, if_pos q]; exact m_no (by decide)
    · have hn : ∃ n, 1 ≤ n ∧ n ≤ 999 ∧ p1 = nI n := by
        unfold fX7_isStepCount at q
        by_cases z : p1 < nI 1
        · rw [if_pos z] at q; exact absurd rfl q
        · have z0 : ¬ p1 < 0 := fun y => z (Int32.lt_trans y (by decide))
          obtain ⟨b, hb, rfl⟩ := nat_of z0
          rw [if_neg z] at q
          rw [lt_n (by omega) (by omega)] at z
          by_cases z2 : nI 999 < nI b
          · rw [if_pos z2] at q; exact absurd rfl q
          · rw [lt_n (by omega) (by omega)] at z2
            exact ⟨b, by omega, by omega, rfl⟩
      obtain ⟨n, n1, n2, rfl⟩ := hn
      have hu := hT.1
      have hT0 : Told u (cR σ 0) t s a := by
        obtain ⟨k1, k2, k3, k4, k5⟩ := hT
        exact ⟨k1, k2, k3.fr (cR_o (by omega)), by rw [cR_o (by omega)]; exact k4.ccR, k5⟩
      have hD0 : D13 (cR σ 0) := h.2.2.1.fr (by rw [cR_o (by omega)]) (fun o => cR_o (by omega))
      obtain ⟨m, hm⟩ : ∃ m, FU = m + 1 + n := ⟨FU - 1 - n, by have := FU_gt; omega⟩
      have adv : ∀ σ' : St, (∀ (m j : Nat) (ke : St → Option (Unit × St)), j + n = n → n < 90000 → LX4_advance_2 0 (nI n) ke (m + n) (nI j) (cR σ 0) = LX4_advance_2 0 (nI n) ke m (nI n) σ') → fX4_advance 0 (nI n) (cR σ 0) = some ((), σ') := fun σ' g => by
        unfold fX4_advance
        have := g (m + 1) 0 (fun (σ2 : St) => some ((), σ2)) (by omega) (by omega)
        rw [nI_0] at this
        rw [hm, this, LX4_advance_2, if_pos (by rw [le_n (by omega) (by omega)]; exact Nat.le_refl _)]
      obtain ⟨σ', -, -, -, -, -, kc, -, g4, -, -⟩ := s_ticks (k := 0) hu n n (cR σ 0) (cR σ 0) t s a (by omega) (by omega) (ts_m hT0 hD0 rfl rfl) hT.2.2.2.2
      have hadv := adv σ' g4
      have hs1 : Sm8 (cR σ 0) σ' := Sm8.kp kc (by decide)
      obtain ⟨σ'', σm', a', T', A', M', kc', km', g4', g5', -⟩ := s_ticks (k := 0) hu n n (cR σ 0) (mR σ' 0) t s a (by omega) (by omega) (ts_m hT0 hD0 (by rw [mR_o (by omega), hs1 44 0 (by omega)]) (by rw [mR_o (by omega), hs1 47 0 (by omega)])) hT.2.2.2.2
      have hadv' := adv σ'' g4'
      rw [hadv] at hadv'
      cases hadv'
      have cm : Cm8 σ' σm' := Cm8.mR.tr (Cm8.kp km' (by decide))
      have T'' := T'
      obtain ⟨⟨d, h0, ⟨-, ⟨y1, y2⟩, -⟩, -⟩, -, -⟩ := T'
      refine ⟨σm'.1 47 0 1, σ', σm', ?_, ?_, rel_run (t := t + n) (s := s + 2 * n) (a := a') h b1 b2 hT hK ?_ (T''.1.cm cm) A' (by omega) (by omega) ?_ ?_ ?_⟩
      · refine (c_gate (w := 0) (by rw [b1, if_neg (by decide), if_neg q])).trans ((if_pos rfl).trans ?_)
        rw [hadv, bdS, y1]
      · unfold fX8_ticks
        have e9 : σ'.1 8 0 9 = nI 1 := by rw [hs1 8 0 (by omega), e89]; exact b2
        rw [e9, if_neg (show ¬ nI 1 = 0 by decide), hst, if_neg q]
        refine m_yes.trans ?_
        have := g5' (m + 1) 0 (fun (σ9 : St) => gi (nI 1) 251 <| some (σ9.1 47 0 (nI 1).toNatClampNeg, σ9)) (by omega) (by omega)
        rw [nI_0] at this
        rw [hm, this, LX8_ticks_38, if_pos (by rw [le_n (by omega) (by omega)]; exact Nat.le_refl _), gi_n (by omega) (by omega), cl (by omega)]
      · exact ((Qr.cR.tr (Qr.kp kc (by unfold okR; decide) (fun j z => by rw [kpc kc 8 0 rfl]))).tr Qr.mR).tr (Qr.kp km' (by unfold okR; decide) (fun j z => M' j (by omega) (by omega) (by omega) (by omega) (by omega)))
      · rw [(cm 7 0 (by omega) (by omega)).1, kpc kc 7 0 rfl, cR_10, M' 1 (by omega) (by omega) (by omega) (by omega) (by omega), mR_1]
      · rw [M' 1 (by omega) (by omega) (by omega) (by omega) (by omega), mR_1]; decide
      · exact T''.2.1.fr (by rw [(cm 1 0 (by omega) (by omega)).1]) (fun o => (cm 22 o (by omega) (by omega)).1)
