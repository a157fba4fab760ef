/-! ===== the model lays a whole pass ===== -/
abbrev SP : List (Nat × Nat × Nat) := [(8, 0, 1), (51, 0, 1), (52, 0, 1), (53, 0, 1), (54, 0, 1), (55, 0, 1)]
theorem m_tick {σ : St} {p : PP} (hp : POk p) (h : MPr σ p) {x : PT} {t : Nat} (ht : t < 401) (hA : MA σ p x t) (ke : St → Option (Unit × St)) :
    ∃ σ', (Kp SP σ σ' ∧ (∀ j, j ≠ 29 → σ'.1 8 0 j = σ.1 8 0 j) ∧ MA σ' p (tick p x t) (t + 1)) ∧ LX8_laysPass_43 (nI t) (fun σ6 => LX8_laysPass_67 (nI t) (fun σ8 => LX8_laysPass_91 (nI t) ke FU 0 σ8) FU 0 σ6) FU 0 σ = ke σ' := by
  obtain ⟨s1, ⟨a1, a2⟩, e1⟩ := m_t1 hp h ht hA (fun σ6 => LX8_laysPass_67 (nI t) (fun σ8 => LX8_laysPass_91 (nI t) ke FU 0 σ8) FU 0 σ6)
  have hM1 := h.kp a1 rfl rfl rfl (by rw [kpc a1 8 0 rfl])
  have hA1 : A55 s1 (pN p) (tI x) := fun o ho u hu => by rw [kpc a1 55 0 rfl]; exact hA.2.1 o ho u hu
  obtain ⟨s2, ⟨b1, b2, b3, b4⟩, e2⟩ := m_t2 hp hM1 ht a2 hA1 (K := tK x) (by rw [kpc a1 8 0 rfl]; exact hA.2.2) (fun σ8 => LX8_laysPass_91 (nI t) ke FU 0 σ8)
  have hM2 := hM1.kp b1 rfl rfl rfl (b2 23 (by omega))
  obtain ⟨s3, ⟨c1, c2⟩, e3⟩ := m_t3 hp hM2 (t := t) (dr := kD p x t) (di := (kI p x t).1) (se := tS x) (ta := tT x) (ou := tO x) ht (fun o ho u hu => by rw [kpc b1 51 0 rfl]; exact a2 o ho u hu) b3
    (fun b hb u hu => by
      rw [kpc b1 52 0 rfl, kpc b1 53 0 rfl, kpc b1 54 0 rfl, kpc a1 52 0 rfl, kpc a1 53 0 rfl, kpc a1 54 0 rfl]
      exact (hA.1 b hb u hu).2) (kS p x t) (kT p x t) (kO p x t) rfl rfl rfl ke
  refine ⟨s3, ⟨((kp_rf.tr a1 (kp_pick [1] rfl)).tr b1 (kp_pick [0, 5] rfl)).tr c1 (kp_pick [2, 3, 4] rfl), fun j hj => ?_, fun b hb u hu => ⟨?_, c2 b hb u hu⟩, fun o ho u hu => ?_, ?_⟩, e1.trans (e2.trans e3)⟩
  · rw [kpc c1 8 0 rfl, b2 j hj, kpc a1 8 0 rfl]
  · rw [kpc c1 51 0 rfl, kpc b1 51 0 rfl]; exact a2 b hb u (by omega)
  · rw [kpc c1 55 0 rfl]; exact b3 o ho u hu
  · rw [kpc c1 8 0 rfl]; exact b4
theorem m_lays {σ : St} {p : PP} (hp : POk p) (h : MPr (wI σ 8 0 23 (nI (pC p))) p) :
    ∃ σ', fX8_laysPass (nI (pC p)) σ = some ((), σ') ∧ Kp SP σ σ' ∧ (∀ j, j ≠ 29 → j ≠ 23 → σ'.1 8 0 j = σ.1 8 0 j) ∧ MPr σ' p ∧ MA σ' p (tb p 401) 401 := by
  have hn := hp.1
  unfold fX8_laysPass
  simp only [ltD]
  obtain ⟨s1, ⟨a1, a2⟩, e1⟩ := lp0 (fun m i (s : St) => LX8_laysPass_12 (fun σ4 => LX8_laysPass_34 (fun σ11 => some ((), σ11)) FU 0 σ4) m (nI i) s) (fun s => LX8_laysPass_34 (fun σ11 => some ((), σ11)) FU 0 s) 2766 (by omega)
    (fun i s => Kp [(55, 0, 1)] (wI (wI σ 8 0 23 (nI (pC p))) 8 0 29 0) s ∧ ∀ u, u < i → s.1 55 0 u = nI 0) (wI (wI σ 8 0 23 (nI (pC p))) 8 0 29 0) ⟨kp_rf, fun u hu => by omega⟩
    (fun m s hI => by
      rw [LX8_laysPass_12, if_pos (by rw [le_n (by omega) (by omega)]; exact Nat.le_refl _)])
    (fun m i s hi hI => by
      rw [LX8_laysPass_12, if_neg (by rw [le_n (by omega) (by omega)]; omega)]
      simp (disch := omega) only [gi_n, cl, add_n, ltD]
      refine ⟨_, ⟨kp_1 hI.1, fun u hu => ?_⟩, rfl⟩
      rw [rI]
      by_cases q : u = i
      · rw [if_pos ⟨rfl, rfl, q⟩]; rfl
      · rw [if_neg (fun z => q z.2.2)]; exact hI.2 u (by omega))
  have g8 : ∀ j, j ≠ 29 → s1.1 8 0 j = (wI σ 8 0 23 (nI (pC p))).1 8 0 j := fun j hj => by
    rw [kpc a1 8 0 rfl, rI, if_neg (fun z => hj z.2.2)]
  have hM1 : MPr s1 p := by
    obtain ⟨m1, m2, m3, m4, m5, m6, m7⟩ := h
    have kk : Kp [(8, 0, 1), (55, 0, 1)] (wI σ 8 0 23 (nI (pC p))) s1 := (kp_rf.wI (fr_m 0 rfl (Nat.le_refl _) (by omega))).tr a1 (kp_pick [1] rfl)
    exact MPr.kp ⟨m1, m2, m3, m4, m5, m6, m7⟩ kk rfl rfl rfl (g8 23 (by omega))
  obtain ⟨s2, ⟨b1, b2, b3⟩, e2⟩ := lp0 (fun m i (s : St) => LX8_laysPass_34 (fun σ11 => some ((), σ11)) m (nI i) s) (fun s => some ((), s)) 401 (by omega)
    (fun i s => Kp SP s1 s ∧ (∀ j, j ≠ 29 → s.1 8 0 j = s1.1 8 0 j) ∧ MA s p (tb p i) i) s1 ⟨kp_rf, fun _ _ => rfl, fun b hb u hu => by omega, fun o ho u hu => ⟨a2 _ (by omega), by show 0 < 64; decide⟩, by
      show s1.1 8 0 29 = nI 0
      rw [kpc a1 8 0 rfl, rI, if_pos ⟨rfl, rfl, rfl⟩]; rfl⟩
    (fun m s hI => by
      rw [LX8_laysPass_34, if_pos (by rw [le_n (by omega) (by omega)]; exact Nat.le_refl _)])
    (fun m i s hi hI => by
      obtain ⟨c1, c2, c3⟩ := hI
      have hM := hM1.kp c1 rfl rfl rfl (c2 23 (by omega))
      rw [LX8_laysPass_34, if_neg (by rw [le_n (by omega) (by omega)]; omega)]
      obtain ⟨s', ⟨d1, d2, d3⟩, e⟩ := m_tick hp hM hi c3 (fun σ10 => LX8_laysPass_34 (fun σ11 => some ((), σ11)) m (nI i + nI 1) σ10)
      refine ⟨s', ⟨c1.tr d1 (fun _ z => z), fun j hj => (d2 j hj).trans (c2 j hj), d3⟩, ?_⟩
      exact e.trans (by rw [add_n]))
  refine ⟨s2, e1.trans e2, ?_, fun j h1 h2 => ?_, hM1.kp b1 rfl rfl rfl (b2 23 (by omega)), b3⟩
  · exact (((kp_rf.wI (fr_m 0 rfl (Nat.le_refl _) (by omega))).wI (fr_m 0 rfl (Nat.le_refl _) (by omega))).tr a1 (kp_pick [5] rfl)).tr b1 (fun _ z => z)
  · rw [b2 j h1, g8 j h1, rI, if_neg (fun z => h2 z.2.2)]
