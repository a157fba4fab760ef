/-! ===== acts: who waits for whom; what is kept; what will be ===== -/
theorem m_aside {σ : St} (ke : St → Option (Unit × St)) : ∃ s', ((∀ j, j < 251 → s'.1 48 0 j = σ.1 47 0 j) ∧ (∀ x y, ¬ (x = 48 ∧ y = 0) → s'.1 x y = σ.1 x y) ∧ s'.2 = σ.2) ∧ LX8_laysAside_2 ke FU 0 σ = ke s' := by
  obtain ⟨s, hs, e⟩ := lp0 (fun m i (s : St) => LX8_laysAside_2 ke m (nI i) s) (fun s => ke s) 251 (by omega)
    (fun i s => (∀ j, j < i → s.1 48 0 j = σ.1 47 0 j) ∧ (∀ x y, ¬ (x = 48 ∧ y = 0) → s.1 x y = σ.1 x y) ∧ s.2 = σ.2) σ ⟨fun j hj => by omega, fun _ _ _ => rfl, rfl⟩
    (fun m s _ => by
      rw [LX8_laysAside_2, if_pos (by rw [le_n (by omega) (by omega)]; exact Nat.le_refl _)])
    (fun m i s hi hI => by
      obtain ⟨i1, i2, i3⟩ := hI
      rw [LX8_laysAside_2, if_neg (by rw [le_n (by omega) (by omega)]; omega), gi_n (by omega) (by omega), gi_n (by omega) (by omega), cl (by omega), ltD, add_n]
      refine ⟨_, ⟨fun j hj => ?_, fun x y h => ?_, ?_⟩, rfl⟩
      · by_cases z : j = i
        · subst z
          rw [wIe (by omega), i2 47 0 (by omega)]
        · rw [wIj (by omega)]; exact i1 j (by omega)
      · rw [wIk h]; exact i2 x y h
      · exact i3)
  exact ⟨s, hs, e⟩
theorem m_tback {σ : St} (ke : St → Option (Unit × St)) : ∃ s', ((∀ j, j < 251 → s'.1 47 0 j = σ.1 48 0 j) ∧ (∀ x y, ¬ (x = 47 ∧ y = 0) → s'.1 x y = σ.1 x y) ∧ s'.2 = σ.2) ∧ LX8_takesBack_2 ke FU 0 σ = ke s' := by
  obtain ⟨s, hs, e⟩ := lp0 (fun m i (s : St) => LX8_takesBack_2 ke m (nI i) s) (fun s => ke s) 251 (by omega)
    (fun i s => (∀ j, j < i → s.1 47 0 j = σ.1 48 0 j) ∧ (∀ x y, ¬ (x = 47 ∧ y = 0) → s.1 x y = σ.1 x y) ∧ s.2 = σ.2) σ ⟨fun j hj => by omega, fun _ _ _ => rfl, rfl⟩
    (fun m s _ => by
      rw [LX8_takesBack_2, if_pos (by rw [le_n (by omega) (by omega)]; exact Nat.le_refl _)])
    (fun m i s hi hI => by
      obtain ⟨i1, i2, i3⟩ := hI
      rw [LX8_takesBack_2, if_neg (by rw [le_n (by omega) (by omega)]; omega), gi_n (by omega) (by omega), gi_n (by omega) (by omega), cl (by omega), ltD, add_n]
      refine ⟨_, ⟨fun j hj => ?_, fun x y h => ?_, ?_⟩, rfl⟩
      · by_cases z : j = i
        · subst z
          rw [wIe (by omega), i2 48 0 (by omega)]
        · rw [wIj (by omega)]; exact i1 j (by omega)
      · rw [wIk h]; exact i2 x y h
      · exact i3)
  exact ⟨s, hs, e⟩
theorem m_keep {σ : St} (ke : St → Option (Int32 × St)) : ∃ s', ((∀ j, j < 251 → s'.1 49 0 j = σ.1 47 0 j) ∧ (∀ x y, ¬ (x = 49 ∧ y = 0) → s'.1 x y = σ.1 x y) ∧ s'.2 = σ.2) ∧ LX8_keep_18 ke FU 0 σ = ke s' := by
  obtain ⟨s, hs, e⟩ := lp0 (fun m i (s : St) => LX8_keep_18 ke m (nI i) s) (fun s => ke s) 251 (by omega)
    (fun i s => (∀ j, j < i → s.1 49 0 j = σ.1 47 0 j) ∧ (∀ x y, ¬ (x = 49 ∧ y = 0) → s.1 x y = σ.1 x y) ∧ s.2 = σ.2) σ ⟨fun j hj => by omega, fun _ _ _ => rfl, rfl⟩
    (fun m s _ => by
      rw [LX8_keep_18, if_pos (by rw [le_n (by omega) (by omega)]; exact Nat.le_refl _)])
    (fun m i s hi hI => by
      obtain ⟨i1, i2, i3⟩ := hI
      rw [LX8_keep_18, if_neg (by rw [le_n (by omega) (by omega)]; omega), gi_n (by omega) (by omega), gi_n (by omega) (by omega), cl (by omega), ltD, add_n]
      refine ⟨_, ⟨fun j hj => ?_, fun x y h => ?_, ?_⟩, rfl⟩
      · by_cases z : j = i
        · subst z
          rw [wIe (by omega), i2 47 0 (by omega)]
        · rw [wIj (by omega)]; exact i1 j (by omega)
      · rw [wIk h]; exact i2 x y h
      · exact i3)
  exact ⟨s, hs, e⟩
theorem m_back {σ : St} (ke : St → Option (Int32 × St)) : ∃ s', ((∀ j, j < 251 → s'.1 47 0 j = σ.1 49 0 j) ∧ (∀ x y, ¬ (x = 47 ∧ y = 0) → s'.1 x y = σ.1 x y) ∧ s'.2 = σ.2) ∧ LX8_back_18 ke FU 0 σ = ke s' := by
  obtain ⟨s, hs, e⟩ := lp0 (fun m i (s : St) => LX8_back_18 ke m (nI i) s) (fun s => ke s) 251 (by omega)
    (fun i s => (∀ j, j < i → s.1 47 0 j = σ.1 49 0 j) ∧ (∀ x y, ¬ (x = 47 ∧ y = 0) → s.1 x y = σ.1 x y) ∧ s.2 = σ.2) σ ⟨fun j hj => by omega, fun _ _ _ => rfl, rfl⟩
    (fun m s _ => by
      rw [LX8_back_18, if_pos (by rw [le_n (by omega) (by omega)]; exact Nat.le_refl _)])
    (fun m i s hi hI => by
      obtain ⟨i1, i2, i3⟩ := hI
      rw [LX8_back_18, if_neg (by rw [le_n (by omega) (by omega)]; omega), gi_n (by omega) (by omega), gi_n (by omega) (by omega), cl (by omega), ltD, add_n]
      refine ⟨_, ⟨fun j hj => ?_, fun x y h => ?_, ?_⟩, rfl⟩
      · by_cases z : j = i
        · subst z
          rw [wIe (by omega), i2 49 0 (by omega)]
        · rw [wIj (by omega)]; exact i1 j (by omega)
      · rw [wIk h]; exact i2 x y h
      · exact i3)
  exact ⟨s, hs, e⟩
theorem act_waits (p1 p2 : Int32) : Act (fX7_waits p1 p2) (fX8_waits p1 p2) := by
  intro σ N h hN
  have no : fX7_hasBoard p1 σ = some (0, σ) → (∀ σ1, Sm8 σ σ1 → fX8_isBoard p1 σ1 = some (0, σ1)) → ∃ r σ1 σ2, fX7_waits p1 p2 σ = some (r, σ1) ∧ fX8_waits p1 p2 σ1 = some (r, σ2) ∧ Rel σ2 (N + 1) := fun k1 k2 => by
    refine act_val (w := nI 1) (v := -1) h (Or.inr (Or.inl rfl)) ?_ ?_
    · unfold fX7_waits
      rw [k1, bdS, if_pos rfl]; rfl
    · unfold fX8_waits
      rw [k2 _ Sm8.cR, bdS, jnD, if_pos rfl]; exact m_no (by decide)
  rcases h.2.2.2.2 with hN | ⟨b1, b2, u, t, s, a, t1, t2, hT, hK⟩
  · exact no (k_boardN hN p1).1 (k_boardN hN p1).2
  · rcases k_board b1 b2 hT p1 with ⟨b, q1, rfl, q3, q4⟩ | ⟨q3, q4⟩
    · have hT' := hT
      obtain ⟨hu, hP, hM, ⟨d, ⟨P, hP', hB, hPu⟩, h1, h2, h3, h4, h5, h6, ⟨w, μ, w1, w2, w3⟩, -⟩, -⟩ := hT
      have hn := hu.n6
      have n1 : ¬ nI b = -1 := by rw [nm1 (by omega)]; exact id
      have acc : ∀ o : Option Nat, (∃ μ, Acy (fun c => if c = b then o else w c) (uN u) μ ∧ ∀ c, c < uN u → μ c < uN u) → (if p2 = (-1) then (-2) else p2) = wv o → fX7_waits (nI b) p2 σ = (bd (fX4_letWait 0 (nI b) (if p2 = (-1) then (-2) else p2) σ) fun (r12 : Int32) (σ11 : St) => bd (fX7_accepted r12 σ11) fun (r14 : Int32) (σ13 : St) => some (r14, σ13)) → (∀ σ1, Sm8 σ σ1 → fX8_waits (nI b) p2 σ1 = (gi (fX8_at (nI b) (nI 3)) 251 <| lt ((mR σ1 0).1 47 0 (fX8_at (nI b) (nI 3)).toNatClampNeg) fun (x7 : Int32) => gi (fX8_at (nI b) (nI 3)) 251 <| lt (wI (mR σ1 0) 47 0 (fX8_at (nI b) (nI 3)).toNatClampNeg (if p2 = (-1) then (-2) else p2)) fun (σ11 : St) => some (x7, σ11))) → ∃ r σ1 σ2, fX7_waits (nI b) p2 σ = some (r, σ1) ∧ fX8_waits (nI b) p2 σ1 = some (r, σ2) ∧ Rel σ2 (N + 1) := fun o hA ho k1 k2 => by
        have hs1 : Sm8 σ (cR (wI σ 36 0 b (wv o)) 0) := Sm8.tr (σ' := wI σ 36 0 b (wv o)) (fun x y z => wIc (by omega)) Sm8.cR
        have hc : Cm8 (cR (wI σ 36 0 b (wv o)) 0) (wI (mR (cR (wI σ 36 0 b (wv o)) 0) 0) 47 0 (18 + 12 * b + 3) (wv o)) := Cm8.mR.tr (fun x y z1 z2 => ⟨wIc (by omega), rfl⟩)
        have e7 : (mR (cR (wI σ 36 0 b (wv o)) 0) 0).1 47 0 = σ.1 47 0 := by rw [mR_o (by omega), hs1 47 0 (by omega)]
        refine ⟨wv (w b), cR (wI σ 36 0 b (wv o)) 0, wI (mR (cR (wI σ 36 0 b (wv o)) 0) 0) 47 0 (18 + 12 * b + 3) (wv o), ?_, ?_, rel_run (t := t) (s := s) (a := a) h b1 b2 hT' hK (((Qr.w36.tr Qr.cR).tr Qr.mR).tr Qr.w47) ?_ hT'.2.2.2.2 (by omega) (by omega) ?_ ?_ ?_⟩
        · rw [k1, ho]
          unfold fX4_letWait
          rw [hP', gd_t hB.1, c_holds hB.2.2.2.2.1 q1 hn, bdS, if_neg (by decide), gi_n (by omega) (by omega), ltD, gi_n (by omega) (by omega), cl (by omega), ltD, bdS, (w3 b q1).1]; rfl
        · rw [k2 _ hs1, ho, at8, gi_n (by omega) (by omega), ltD, gi_n (by omega) (by omega), cl (by omega), ltD, e7, (w3 b q1).2]
        · have hR0 : RR u σ 0 ((mR (cR (wI σ 36 0 b (wv o)) 0) 0).1 47 0) t t s a := by rw [e7]; exact hT'.2.2.2.1
          exact ((hR0.wait (w := w) hu q1 (fun c hc => by rw [e7]; exact w3 c hc) hA).ccR).cm hc
        · rw [(hc 7 0 (by omega) (by omega)).1, cR_10, wIj (by omega), mR_1]
        · rw [wIj (by omega), mR_1]; decide
        · exact h.2.2.1.fr (by rw [(hc 1 0 (by omega) (by omega)).1, cR_o (by omega), wIj (by omega)]) (fun o' => by rw [(hc 22 o' (by omega) (by omega)).1, cR_o (by omega), wIc (by omega)])
      have ref : ∀ v : Int32, (v = 0 ∨ v = nI 1 ∨ v = nI 2 ∨ v = nI 5) → v ≠ 0 → fX7_waits (nI b) p2 σ = some (-1, cR σ v) → (∀ σ1, Sm8 σ σ1 → fX8_waits (nI b) p2 σ1 = some (-1, mR σ1 v)) → ∃ r σ1 σ2, fX7_waits (nI b) p2 σ = some (r, σ1) ∧ fX8_waits (nI b) p2 σ1 = some (r, σ2) ∧ Rel σ2 (N + 1) := fun v hv _ k1 k2 => act_val (w := v) (v := -1) h hv k1 (k2 _ Sm8.cR)
      by_cases z1 : p2 = -1
      · refine acc none ⟨μ, acy_none w1, w2⟩ (by rw [if_pos z1]; rfl) ?_ (fun σ1 g => ?_)
        · unfold fX7_waits
          rw [q3, bdS, if_neg (by decide)]
          simp only [jnD]
          rw [if_neg (by rw [z1]; exact fun y => n1 y.symm), if_pos z1, if_pos z1]
        · unfold fX8_waits
          rw [q4 σ1 g, bdS]
          simp only [jnD]
          rw [if_neg (by decide), if_pos z1, if_pos z1]
          exact m_yes
      · by_cases z2 : p2 = nI b
        · refine ref (nI 2) (Or.inr (Or.inr (Or.inl rfl))) (by decide) ?_ (fun σ1 g => ?_)
          · unfold fX7_waits
            rw [q3, bdS, if_neg (by decide)]
            simp only [jnD]
            rw [if_pos z2]; rfl
          · unfold fX8_waits
            rw [q4 σ1 g, bdS]
            simp only [jnD]
            rw [if_neg (by decide), if_neg z1, z2, q4 σ1 g, bdS, if_neg (by decide), if_pos rfl]
            exact m_no (by decide)
        · rcases k_board b1 b2 hT' p2 with ⟨c, c1, rfl, c3, c4⟩ | ⟨c3, c4⟩
          · have hcb : c ≠ b := fun y => z2 (by rw [y])
            have cw := c_waiters σ 0 (uN u) b w μ q1 ⟨by rw [hP']; exact hB.1, by rw [hP']; exact hB.2.2.2.2.1, hn⟩ w1 w2 (fun o ho => (w3 o ho).1)
            have h64 : bsN (uN u) (fun o => decide (o ≠ b) && dw 6 w o b) < 64 := bsN_64 hn _
            have hbit : (bsN (uN u) (fun o => decide (o ≠ b) && dw 6 w o b)).testBit c = dw 6 w c b := by rw [bsN_bit]; simp [c1, hcb]
            have mw : ∀ σ1, Sm8 σ σ1 → fX8_doesWait (nI c) (nI b) σ1 = some (if dw 6 w c b = true then nI 1 else 0, σ1) := fun σ1 g => m_waits σ1 w (uN u) μ hn w1 (fun b hb => by have := w2 b hb; omega) (fun o ho => by rw [g 47 0 (by omega)]; exact (w3 o ho).2) c1 q1
            have eF : fX7_waits (nI b) (nI c) σ = (if dw 6 w c b = true then some (-1, cR σ (nI 5)) else (bd (fX4_letWait 0 (nI b) (if nI c = (-1) then (-2) else nI c) σ) fun (r12 : Int32) (σ11 : St) => bd (fX7_accepted r12 σ11) fun (r14 : Int32) (σ13 : St) => some (r14, σ13))) := by
              unfold fX7_waits
              rw [q3, bdS, if_neg (by decide)]
              simp only [jnD]
              rw [if_neg z2, if_neg z1, c3, bdS, if_neg (by decide), if_neg z1, cw, bdS, has7 (by omega) (by omega), hbit]
              by_cases y : dw 6 w c b = true
              · rw [if_pos y, if_pos y, if_neg (by decide)]; rfl
              · rw [if_neg y, if_neg y, if_pos rfl]
            have eG : ∀ σ1, Sm8 σ σ1 → fX8_waits (nI b) (nI c) σ1 = (if dw 6 w c b = true then some (-1, mR σ1 (nI 5)) else (gi (fX8_at (nI b) (nI 3)) 251 <| lt ((mR σ1 0).1 47 0 (fX8_at (nI b) (nI 3)).toNatClampNeg) fun (x7 : Int32) => gi (fX8_at (nI b) (nI 3)) 251 <| lt (wI (mR σ1 0) 47 0 (fX8_at (nI b) (nI 3)).toNatClampNeg (if nI c = (-1) then (-2) else nI c)) fun (σ11 : St) => some (x7, σ11))) := fun σ1 g => by
              unfold fX8_waits
              rw [q4 σ1 g, bdS]
              simp only [jnD]
              rw [if_neg (by decide), if_neg z1, c4 σ1 g, bdS, if_neg (by decide), if_neg z2, if_neg z1, mw σ1 g, bdS]
              by_cases y : dw 6 w c b = true
              · rw [if_pos y, if_pos y, if_neg (by decide)]; exact m_no (by decide)
              · rw [if_neg y, if_neg y, if_pos rfl]; exact m_yes
            by_cases y : dw 6 w c b = true
            · exact ref (nI 5) (Or.inr (Or.inr (Or.inr rfl))) (by decide) (by rw [eF, if_pos y]) (fun σ1 g => by rw [eG σ1 g, if_pos y])
            · exact acc (some c) (acy_small (acy_some hn w1 w2 c1 y)) (by rw [if_neg z1]; rfl) (by rw [eF, if_neg y]) (fun σ1 g => by rw [eG σ1 g, if_neg y])
          · refine ref (nI 2) (Or.inr (Or.inr (Or.inl rfl))) (by decide) ?_ (fun σ1 g => ?_)
            · unfold fX7_waits
              rw [q3, bdS, if_neg (by decide)]
              simp only [jnD]
              rw [if_neg z2, if_neg z1, c3, bdS, if_pos rfl]; rfl
            · unfold fX8_waits
              rw [q4 σ1 g, bdS]
              simp only [jnD]
              rw [if_neg (by decide), if_neg z1, c4 σ1 g, bdS, if_pos rfl]
              exact m_no (by decide)
    · exact no q3 q4
