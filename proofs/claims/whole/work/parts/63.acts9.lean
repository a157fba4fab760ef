/-! ===== acts that change the run ===== -/
/-- what an act on the run leaves as it was -/
def Qr (σ σ' : St) : Prop := (∀ a b, (a = 2 ∨ 24 ≤ a ∧ a ≤ 30 ∨ a = 6 ∨ a = 42 ∨ a = 43 ∨ a = 44 ∨ a = 49) → σ'.1 a b = σ.1 a b) ∧ (∀ a, (a = 4 ∨ a = 5 ∨ 32 ≤ a ∧ a ≤ 36 ∨ a = 41) → σ'.1 a 2 = σ.1 a 2) ∧ (∀ b, 12 ≤ b → σ'.1 38 b = σ.1 38 b) ∧ (∀ b, 32 ≤ b → σ'.1 40 b = σ.1 40 b) ∧ (∀ j, σ'.2.2 7 0 j = σ.2.2 7 0 j) ∧ σ'.2.2 4 2 1 = σ.2.2 4 2 1 ∧ (∀ j, j ≠ 10 → σ'.1 7 0 j = σ.1 7 0 j) ∧ ∀ j, (j = 2 ∨ j = 5 ∨ j = 9 ∨ j = 21) → σ'.1 8 0 j = σ.1 8 0 j
theorem Qr.tr {σ σ' σ'' : St} (h : Qr σ σ') (g : Qr σ' σ'') : Qr σ σ'' :=
  ⟨fun a b z => (g.1 a b z).trans (h.1 a b z), fun a z => (g.2.1 a z).trans (h.2.1 a z), fun b z => (g.2.2.1 b z).trans (h.2.2.1 b z), fun b z => (g.2.2.2.1 b z).trans (h.2.2.2.1 b z), fun j => (g.2.2.2.2.1 j).trans (h.2.2.2.2.1 j), g.2.2.2.2.2.1.trans h.2.2.2.2.2.1, fun j z => (g.2.2.2.2.2.2.1 j z).trans (h.2.2.2.2.2.2.1 j z), fun j z => (g.2.2.2.2.2.2.2 j z).trans (h.2.2.2.2.2.2.2 j z)⟩
theorem Qr.cR {σ : St} {w : Int32} : Qr σ (cR σ w) := ⟨fun a b z => cR_o (by omega), fun a z => cR_o (by omega), fun b z => cR_o (by omega), fun b z => cR_o (by omega), fun _ => rfl, rfl, fun j z => cR_j z, fun j z => by rw [cR_o (by omega)]⟩
theorem Qr.mR {σ : St} {w : Int32} : Qr σ (mR σ w) := ⟨fun a b z => mR_o (by omega), fun a z => mR_o (by omega), fun b z => mR_o (by omega), fun b z => mR_o (by omega), fun _ => rfl, rfl, fun j z => by rw [mR_o (by omega)], fun j z => mR_j (by omega)⟩
def okR (e : Nat × Nat × Nat) : Prop := (e.1 = 0 ∨ e.1 = 1 ∨ e.1 = 3 ∨ e.1 = 8 ∨ 10 ≤ e.1 ∧ e.1 ≤ 23 ∨ e.1 = 31 ∨ e.1 = 45 ∨ e.1 = 46 ∨ e.1 = 47 ∨ e.1 = 48 ∨ 50 ≤ e.1) ∨ ((e.1 = 4 ∨ e.1 = 5 ∨ 32 ≤ e.1 ∧ e.1 ≤ 36 ∨ e.1 = 41) ∧ e.2.2 ≤ 2) ∨ (e.1 = 38 ∧ e.2.2 ≤ 12) ∨ (e.1 = 40 ∧ e.2.2 ≤ 32)
theorem Qr.kp {S : List (Nat × Nat × Nat)} {σ σ' : St} (h : Kp S σ σ') (hS : ∀ e ∈ S, okR e) (h8 : ∀ j, (j = 2 ∨ j = 5 ∨ j = 9 ∨ j = 21) → σ'.1 8 0 j = σ.1 8 0 j) : Qr σ σ' := by
  have go : ∀ a b, (∀ e, okR e → ¬ (e.1 = a ∧ e.2.1 ≤ b ∧ b < e.2.2)) → σ'.1 a b = σ.1 a b ∧ σ'.2.2 a b = σ.2.2 a b := fun a b hh => ⟨(h a b (fun e he => hh e (hS e he))).1, (h a b (fun e he => hh e (hS e he))).2.2⟩
  refine ⟨fun a b z => (go a b (fun e he y => ?_)).1, fun a z => (go a 2 (fun e he y => ?_)).1, fun b z => (go 38 b (fun e he y => ?_)).1, fun b z => (go 40 b (fun e he y => ?_)).1, fun j => congrFun (go 7 0 (fun e he y => ?_)).2 j, congrFun (go 4 2 (fun e he y => ?_)).2 1, fun j z => congrFun (go 7 0 (fun e he y => ?_)).1 j, h8⟩
  all_goals (unfold okR at he; omega)
/-- the class's cells stay -/
def Cm8 (σ1 σ2 : St) : Prop := ∀ a b, a ≠ 8 → a < 43 → σ2.1 a b = σ1.1 a b ∧ σ2.2.2 a b = σ1.2.2 a b
theorem Cm8.tr {σ σ' σ'' : St} (h : Cm8 σ σ') (g : Cm8 σ' σ'') : Cm8 σ σ'' := fun a b y z => ⟨(g a b y z).1.trans (h a b y z).1, (g a b y z).2.trans (h a b y z).2⟩
theorem Cm8.mR {σ : St} {w : Int32} : Cm8 σ (mR σ w) := fun a b y z => ⟨mR_o y, rfl⟩
theorem Cm8.kp {S : List (Nat × Nat × Nat)} {σ σ' : St} (h : Kp S σ σ') (hS : ∀ e ∈ S, e.1 = 8 ∨ 43 ≤ e.1) : Cm8 σ σ' := fun a b y z =>
  ⟨(h a b (fun e he q => by have := hS e he; omega)).1, (h a b (fun e he q => by have := hS e he; omega)).2.2⟩
theorem RR.cm {u : BU} {σ1 σ2 : St} {k t p s a : Nat} {r : Nat → Int32} (h : RR u σ1 k r t p s a) (hc : Cm8 σ1 σ2) : RR u σ2 k r t p s a :=
  h.fr (fun x y z => (hc x y (by omega) (by omega)).1) (by rw [(hc 4 k (by omega) (by omega)).2])
theorem RR.ccR {u : BU} {σ : St} {k t p s a : Nat} {r : Nat → Int32} {w : Int32} (h : RR u σ k r t p s a) : RR u (cR σ w) k r t p s a := h.fr (fun x y z => cR_o (by omega)) rfl
theorem RR.row {u : BU} {σ : St} {k t p s a : Nat} {r r' : Nat → Int32} (hu : UOk u) (h : RR u σ k r t p s a) (hr : ∀ j, j < 251 → r' j = r j) : RR u σ k r' t p s a := by
  have hn := hu.n6
  obtain ⟨d, h0, h1, h2, h3, h4, h5, h6, h7, h8, h9, h10, h11⟩ := h
  refine ⟨d, h0, h1.fr (fun j _ => rfl) (fun j g => hr j (by omega)), h2.fr rfl (fun j g1 g2 => hr j (by omega)) (Nat.le_refl _), h3.fr (hr 11 (by omega)), h4.fr rfl (fun j g1 g2 => hr j (by omega)), h5.fr (fun a g => rfl) (fun b g j g2 => hr _ (by omega)) (Nat.le_refl _), h6.fr rfl (fun b g => hr _ (by omega)), h7.fr rfl (fun b g => hr _ (by omega)), h8.fr rfl (hr 4 (by omega)) (fun b g j g1 g2 => hr _ (by omega)), h9.fr (fun b g => rfl) (fun b g j g2 => hr _ (by omega)) (Nat.le_refl _), h10.fr (fun x g => rfl) (fun j g1 g2 => hr j (by omega)), fun j g1 g2 => ?_⟩
  have : j % 64 < 64 := Nat.mod_lt _ (by omega)
  rw [hr _ (by omega)]
  exact h11 j g1 g2
theorem rel_run {u : BU} {σ σ' : St} {N t s a t0 s0 a0 : Nat} (h : Rel σ N) (b1 : σ.1 7 0 8 = nI 1) (b2 : σ.1 8 0 9 = nI 1) (hT0 : Told u σ t0 s0 a0) (hK : KpT u σ N) (q : Qr σ σ') (hR : RR u σ' 0 (σ'.1 47 0) t t s a) (ha : AOk u t a) (ht : t ≤ 1000 * (N + 1)) (hs : s ≤ 2000 * (N + 1)) (hT : σ'.1 7 0 10 = σ'.1 8 0 1) (h4 : ¬ σ'.1 8 0 1 = nI 4) (hD : D13 σ') : Rel σ' (N + 1) := by
  obtain ⟨⟨-, a2, -⟩, ⟨c, c1, c2, c3, c4⟩, -, ⟨p1, p2, p3⟩, -⟩ := h
  obtain ⟨q1, q2, q3, q4, q5, q6, q7, q8⟩ := q
  obtain ⟨k1, k2, k3, k4, k5⟩ := hT0
  have hPP : σ'.2.2 4 0 1 = σ.2.2 4 0 1 := by
    obtain ⟨d, ⟨P, hP, -, hPu⟩, -⟩ := k4
    obtain ⟨d', ⟨P', hP', -, hPu'⟩, -⟩ := hR
    rw [hP, hP', hPu, hPu']
  refine ⟨⟨hT, by rw [q7 11 (by omega), q8 2 (by omega)]; exact a2, fun z => absurd z h4⟩, ⟨c, c1, by rw [q1 6 0 (by omega)]; exact c2, by rw [q8 5 (by omega)]; exact c3, fun i hi => by rw [q1 43 0 (by omega), q1 42 0 (by omega)]; exact c4 i hi⟩, hD, ?_, Or.inr ⟨by rw [q7 8 (by omega)]; exact b1, by rw [q8 9 (by omega)]; exact b2, u, t, s, a, ht, hs, ⟨k1, by rw [hPP, q5]; exact k2, k3.fr (q1 44 0 (by omega)), hR, ha⟩, ?_⟩⟩
  · unfold Pls
    rw [q5 6, q5 7]
    exact ⟨p1, p2, p3⟩
  · unfold KpT
    rw [q7 9 (by omega), q8 21 (by omega)]
    rcases hK with z | ⟨z1, z2, t', s', a', z3, z4, z5, z6, z7⟩
    · exact Or.inl z
    · refine Or.inr ⟨z1, z2, t', s', a', by omega, by omega, by rw [q6, q5]; exact z5, ?_, z7⟩
      rw [q1 49 0 (by omega)]
      exact z6.frk k1 (fun x y g => q1 x y (by omega)) (fun x g => q2 x g) (fun b g => q3 _ (by omega)) (fun x g => q4 _ (by omega)) q6
/-- the row's cells are where they were -/
theorem ts_m {u : BU} {σ σm : St} {t s a : Nat} (hT : Told u σ t s a) (hD : D13 σ) (e44 : σm.1 44 0 = σ.1 44 0) (e47 : σm.1 47 0 = σ.1 47 0) : TS u σ 0 σm t t s a := ⟨by rw [e47]; exact hT.2.2.2.1, hD, hT.2.2.1.fr e44⟩
theorem act_ask (p1 p2 : Int32) : Act (fX7_ask p1 p2) (fX8_ask p1 p2) := by
  intro σ N h hN
  have no : fX7_hasBoard p1 σ = some (0, σ) → (∀ σ1, Sm8 σ σ1 → fX8_isBoard p1 σ1 = some (0, σ1)) → ∃ r σ1 σ2, fX7_ask p1 p2 σ = some (r, σ1) ∧ fX8_ask p1 p2 σ1 = some (r, σ2) ∧ Rel σ2 (N + 1) := fun k1 k2 => by
    refine act_val (w := nI 1) (v := -1) h (Or.inr (Or.inl rfl)) ?_ ?_
    · unfold fX7_ask
      rw [k1, bdS, if_pos rfl]; rfl
    · unfold fX8_ask
      rw [k2 _ Sm8.cR, bdS, if_pos rfl]; exact m_no (by decide)
  rcases h.2.2.2.2 with hN | ⟨b1, b2, u, t, s, a, t1, t2, hT, hK⟩
  · exact no (k_boardN hN p1).1 (k_boardN hN p1).2
  · rcases k_board b1 b2 hT p1 with ⟨b, q1, rfl, q3, q4⟩ | ⟨q3, q4⟩
    · have hu := hT.1
      have hn := hu.n6
      have no2 : (p2 < nI 1 ∨ ¬ p2 ≤ nI 99) → ∃ r σ1 σ2, fX7_ask (nI b) p2 σ = some (r, σ1) ∧ fX8_ask (nI b) p2 σ1 = some (r, σ2) ∧ Rel σ2 (N + 1) := fun hc => by
        refine act_val (w := nI 2) (v := -1) h (Or.inr (Or.inr (Or.inl rfl))) ?_ ?_
        · unfold fX7_ask
          rw [q3, bdS, if_neg (by decide), jnD]
          by_cases z : p2 < nI 1
          · rw [if_pos z]; rfl
          · rw [if_neg z, if_neg (hc.resolve_left z)]; rfl
        · unfold fX8_ask
          rw [q4 _ Sm8.cR, bdS, if_neg (show ¬ nI 1 = 0 by decide)]
          have : fX8_in p2 (nI 1) (nI 99) = 0 := by
            unfold fX8_in
            by_cases z : p2 < nI 1
            · rw [if_pos z]
            · rw [if_neg z, if_pos (Int32.not_le.mp (hc.resolve_left z))]
          rw [this, if_pos rfl]; exact m_no (by decide)
      by_cases z1 : p2 < nI 1
      · exact no2 (Or.inl z1)
      by_cases z2 : p2 ≤ nI 99
      · have z0 : ¬ p2 < 0 := fun z => z1 (Int32.lt_trans z (by decide))
        obtain ⟨v, v1, rfl⟩ := nat_of z0
        have hv : v ≤ 99 := by rw [le_n (by omega) (by omega)] at z2; exact z2
        have hin : fX8_in (nI v) (nI 1) (nI 99) = nI 1 := by
          unfold fX8_in
          rw [if_neg z1, if_neg (Int32.not_lt.mpr z2)]
        obtain ⟨σ6, -, x, e1, -, hx, T0, -⟩ := s_hear hu (ts_m hT h.2.2.1 rfl rfl) q1 hv
        have kc := fr_fX4_hear 0 (nI b) (nI v) σ _ _ e1
        have hs6 : Sm8 σ σ6 := Sm8.kp kc (by decide)
        have cont : ∀ w : Int32, (∃ σm', TS u σ6 0 σm' t t s a ∧ fX8_asks (nI b) (nI v) (mR (cR σ6 w) 0) = some (x, σm') ∧ M8 (mR (cR σ6 w) 0) σm' ∧ Kp [(47, 0, 1)] (mR (cR σ6 w) 0) σm') := fun w => by
          have hs1 : Sm8 σ (cR σ6 w) := hs6.tr Sm8.cR
          obtain ⟨σ6', σm', x', g1, g2, -, g4, g5⟩ := s_hear hu (ts_m (σm := mR (cR σ6 w) 0) hT h.2.2.1 (by rw [mR_o (by omega), hs1 44 0 (by omega)]) (by rw [mR_o (by omega), hs1 47 0 (by omega)])) q1 hv
          rw [e1] at g1
          cases g1
          exact ⟨σm', g4, g2, g5, fr_fX8_asks _ _ _ _ _ g2⟩
        have fin : ∀ (w : Int32) (σm' σ2 : St), (w = 0 ∨ w = nI 1 ∨ w = nI 2 ∨ w = nI 5) → TS u σ6 0 σm' t t s a → M8 (mR (cR σ6 w) 0) σm' → Kp [(47, 0, 1)] (mR (cR σ6 w) 0) σm' → (∀ x y, x ≠ 8 → σ2.1 x y = σm'.1 x y) → σ2.2 = σm'.2 → (∀ j, j ≠ 1 → σ2.1 8 0 j = σm'.1 8 0 j) → σ2.1 8 0 1 = w → Rel σ2 (N + 1) := fun w σm' σ2 hw g1 g2 g3 g4 g5 g6 g7 => by
          have cm : Cm8 (cR σ6 w) σ2 := (Cm8.mR.tr (Cm8.kp g3 (by decide))).tr (fun x y z1 z2 => ⟨g4 x y z1, by rw [g5]⟩)
          have hq : Qr σ σ2 := (((Qr.kp kc (by unfold okR; decide) (fun j z => by rw [kpc kc 8 0 rfl])).tr Qr.cR).tr Qr.mR).tr ((Qr.kp g3 (by unfold okR; decide) (fun j z => g2 j (by omega) (by omega) (by omega) (by omega) (by omega))).tr ⟨fun x y z => g4 x y (by omega), fun x z => g4 x 2 (by omega), fun y z => g4 38 y (by omega), fun y z => g4 40 y (by omega), fun j => by rw [g5], by rw [g5], fun j z => by rw [g4 7 0 (by omega)], fun j z => g6 j (by omega)⟩)
          refine rel_run (t := t) (s := s) (a := a) h b1 b2 hT hK hq ?_ hT.2.2.2.2 (by omega) (by omega) ?_ ?_ ?_
          · rw [g4 47 0 (by omega)]
            exact (g1.1.ccR).cm cm
          · rw [(cm 7 0 (by omega) (by omega)).1, cR_10, g7]
          · rw [g7]; exact w12_4 hw
          · exact g1.2.1.fr (by rw [(cm 1 0 (by omega) (by omega)).1, cR_o (by omega)]) (fun o => by rw [(cm 22 o (by omega) (by omega)).1, cR_o (by omega)])
        have hF : fX7_ask (nI b) (nI v) σ = (if x = 0 then some (-1, cR σ6 (nI 5)) else bd (fX4_askers 0 σ6) fun (r9 : Int32) (σ8 : St) => bd (fJ6_bitCount_0f7a4 r9 σ8) fun (r11 : Int32) (σ10 : St) => bd (fX7_accepted r11 σ10) fun (r13 : Int32) (σ12 : St) => some (r13, σ12)) := by
          unfold fX7_ask
          rw [q3, bdS, if_neg (by decide), jnD, if_neg z1, if_pos z2, e1, bdS]
          rfl
        have hG : ∀ w, fX8_ask (nI b) (nI v) (cR σ6 w) = bd (fX8_asks (nI b) (nI v) (mR (cR σ6 w) 0)) fun (r11 : Int32) (σ10 : St) => (if r11 = 0 then bd (fX8_no (nI 5) σ10) fun (r13 : Int32) (σ12 : St) => some (r13, σ12) else bd (fX8_askingOnes σ10) fun (r15 : Int32) (σ14 : St) => bd (fX8_bitsOf r15 σ14) fun (r17 : Int32) (σ16 : St) => some (r17, σ16)) := fun w => by
          unfold fX8_ask
          rw [q4 _ (hs6.tr Sm8.cR), bdS, if_neg (show ¬ nI 1 = 0 by decide), hin, if_neg (show ¬ nI 1 = 0 by decide)]
          exact m_yes
        rcases hx with rfl | rfl
        · obtain ⟨σm', c1, c2, c3, c4⟩ := cont (nI 5)
          refine ⟨-1, cR σ6 (nI 5), wI σm' 8 0 1 (nI 5), by rw [hF, if_pos rfl], ?_, fin (nI 5) σm' _ (Or.inr (Or.inr (Or.inr rfl))) c1 c3 c4 (fun x y z => wIc z) rfl (fun j z => wIj (by omega)) (wIe (by omega))⟩
          rw [hG, c2, bdS, if_pos rfl]; rfl
        · obtain ⟨σm', c1, c2, c3, c4⟩ := cont 0
          have c1' := c1
          obtain ⟨⟨d, ⟨P, hP', hB, hPu⟩, -, -, -, -, h5, -⟩, -, hM⟩ := c1
          obtain ⟨ak, sn, hak⟩ := h5.fn (by omega)
          have h64 : asN (uN u) ak < 64 := bsN_64 hn _
          refine ⟨nI (pop6 (asN (uN u) ak)), cR σ6 0, σm', ?_, ?_, fin 0 σm' _ (Or.inl rfl) c1' c3 c4 (fun x y z => rfl) rfl (fun j z => rfl) (by rw [c3 1 (by omega) (by omega) (by omega) (by omega) (by omega), mR_1])⟩
          · rw [hF, if_neg (by decide), c_askers (n := uN u) (ak := ak) ⟨by rw [hP']; exact hB.1, by rw [hP']; exact hB.2.2.2.2.1, hn⟩ (fun b hb => ⟨(hak b hb).1.1, (hak b hb).1.2.2⟩), bdS, c_bits _ h64, bdS]; rfl
          · rw [hG, c2, bdS, if_neg (by decide), m_asking hn hM.2.2.2.1 (fun b hb => ⟨(hak b hb).1.2.1, (hak b hb).1.2.2⟩), bdS, m_bits _ h64, bdS]
      · exact no2 (Or.inr z2)
    · exact no q3 q4
