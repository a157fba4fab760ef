/-! ===== the whole text is read ===== -/
def u00 : BU := ((0, 0, 0, 0, 0), fun _ => 0, fun _ => 0, fun _ => 0, fun _ => 0, fun _ => 0, fun _ => 0, 0, fun _ => 0)
theorem l_read {P : Nat} {σ σm : St} {T : Nat → Nat} {n : Nat} (hP : P < 6) (hC : CX σ T n) (hM : ∀ i, i < n → σm.1 43 0 i = nI (T i) ∧ T i < 256) : Red P (wR σ 3 0 3 P) (wI σm 8 0 10 (nI n)) (fX3_read (nI n) P σ) (fX8_readAll (nI n) σm) := by
  have hn := hC.n7
  have hfu := FU_gt
  unfold fX3_read fX8_readAll fX2_clear
  have g0 : ∀ x : Option (Unit × St), gd (0 = 0 ∨ 0 = 1) x = x := fun x => gd_t (by decide)
  have g1 : ∀ x : Option (Int32 × St), gd (0 = 0 ∨ 0 = 1) x = x := fun x => gd_t (by decide)
  rw [if_neg (by rw [lt_n (by omega) (by omega)]; omega)]
  simp only [ltD, bdS, g0, g1]
  rw [gi_n (by omega) (by omega), gi_n (by omega) (by omega), cl (by omega), cl (by omega)]
  have hX : MX (wI (wI (wI (wI (wI σm 8 0 10 (nI n)) 8 0 12 0) 8 0 17 0) 45 0 3 0) 45 0 4 0) T n := by
    refine ⟨?_, hn, fun i hi => ?_⟩
    · rw [wIj (by omega), wIj (by omega), wIj (by omega), wIj (by omega), wIe (by omega)]
    · rw [wIc (by omega), wIc (by omega), wIc (by omega), wIc (by omega), wIc (by omega)]
      exact hM i hi
  obtain ⟨σm1, g1, g2, g3⟩ := m_step hX (Nat.zero_le n) (by rw [wIj (by omega), wIj (by omega), wIj (by omega), wIe (by omega)]; exact nI_0.symm)
  rw [g1, bdS]
  have key := l_all (P := P) (σ0 := wR σ 3 0 3 P) (σm0 := wI σm 8 0 10 (nI n)) hn 701 FU FU 0 0
    (wI (wI (wI (wI (wI (wI (wI (wI (wI (wI (wR σ 3 0 3 P) 3 0 4 (nI n)) 3 0 5 0) 3 0 1 0) 3 0 0 0) 2 P 0 (nI 1)) 2 P 1 0) 2 P 2 (nI 1)) 2 P 3 0) 2 P 4 0) 2 P 5 0) σm1 u00 0 (fun _ => [])
    (by
      refine ⟨⟨?_, hX.f8 g2, Nat.zero_le _, ?_, ?_, g3⟩, ⟨⟨?_, ?_, ?_⟩, fun z => by omega, fun b hb => absurd hb (Nat.not_lt_zero b), fun b hb => absurd hb (Nat.not_lt_zero b)⟩, ⟨⟨?_, ?_, ?_⟩, fun z => by omega, fun b hb => absurd hb (Nat.not_lt_zero b), fun b hb => absurd hb (Nat.not_lt_zero b)⟩, ?_, ⟨by omega, fun z => by omega, fun _ => ⟨rfl, rfl⟩⟩, fun b hb => absurd hb (Nat.not_lt_zero b), ⟨?_, ?_⟩, hP, ?_, ?_⟩
      · unfold CX
        rw [wIc (by omega), wIc (by omega), wIc (by omega), wIc (by omega), wIc (by omega), wIc (by omega), wIc (by omega), wIc (by omega), wIc (by omega), wIc (by omega), wIc (by omega), wIc (by omega), wIc (by omega), wIc (by omega), wIc (by omega), wIc (by omega), wIc (by omega), wIc (by omega), wIc (by omega), wIc (by omega)]
        exact hC
      · rw [wIj (by omega), wIj (by omega), wIj (by omega), wIj (by omega), wIj (by omega), wIj (by omega), wIj (by omega), wIj (by omega), wIj (by omega), wIe (by omega)]
      · rw [wIj (by omega), wIj (by omega), wIj (by omega), wIj (by omega), wIj (by omega), wIj (by omega), wIj (by omega), wIj (by omega), wIe (by omega)]
        exact nI_0.symm
      · rw [wIj (by omega), wIj (by omega), wIe (by omega)]; exact nI_0.symm
      · rw [wIj (by omega), wIe (by omega)]; exact nI_0.symm
      · rw [wIe (by omega)]; exact nI_0.symm
      · rw [g2.1 45 0 (by omega), wIj (by omega), wIe (by omega)]; exact nI_0.symm
      · rw [g2.1 45 0 (by omega), wIe (by omega)]; exact nI_0.symm
      · rw [g2.2.2 17 (by omega), wIj (by omega), wIj (by omega), wIe (by omega)]; exact nI_0.symm
      · exact ⟨by decide, by decide, fun b hb => absurd hb (Nat.not_lt_zero b), fun a b ha => absurd ha (Nat.not_lt_zero a), fun b hb => absurd hb (Nat.not_lt_zero b), fun b hb => absurd hb (Nat.not_lt_zero b), fun b hb => absurd hb (Nat.not_lt_zero b), fun i j _ hj => absurd hj (Nat.not_lt_zero j), fun b hb => absurd hb (Nat.not_lt_zero b), fun b hb => absurd hb (Nat.not_lt_zero b)⟩
      · show (if 3 = 3 ∧ 0 = 0 ∧ 3 = 3 then P else σ.2.2 3 0 3) = P
        exact if_pos ⟨rfl, rfl, rfl⟩
      · rw [wIj (by omega), wIj (by omega), wIj (by omega), wIj (by omega), wIj (by omega), wIj (by omega), wIj (by omega), wIe (by omega)]
      · exact (((((((((FC.rf.w (by omega)).w (by omega)).w (by omega)).w (by omega)).w (by omega)).w (by omega)).w (by omega)).w (by omega)).w (by omega)).w (by omega)
      · exact ((((FM.rf.w8 (by omega)).w8 (by omega)).w45).w45).tr g2.fm)
    (by omega) (by omega) (by omega) (Nat.le_refl 0)
  rw [nI_0] at key
  exact key
