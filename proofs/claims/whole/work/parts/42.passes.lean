/-! ===== the model lays the pass that is asked about ===== -/
theorem m_passes {σ : St} {q : PP} {win : Nat} {p1 : Int32} (hq : POk q) (hB : MB σ q win) (hx : ∀ (b : Nat) (s : St), b < pN q → Kp SE σ s → fX8_wordOf (nI b) p1 s = some (nI (pW q b), s)) :
    ∃ σ', fX8_passes p1 (nI (pC q)) σ = some ((), σ') ∧ Kp SE σ σ' ∧ (∀ j, j ≠ 23 → j ≠ 29 → σ'.1 8 0 j = σ.1 8 0 j) ∧ MPr σ' q ∧ MA σ' q (tb q 401) 401 := by
  have hn := hq.1
  unfold fX8_passes
  obtain ⟨s, ⟨g1, g2, g3⟩, e⟩ := lp0 (fun m b (s : St) => LX8_passes_2 p1 (nI (pC q)) (fun (σ4 : St) => bd (fX8_laysPass (nI (pC q)) σ4) fun _ (σ5 : St) => some ((), σ5)) m (nI b) s) (fun s => bd (fX8_laysPass (nI (pC q)) s) fun _ (σ5 : St) => some ((), σ5)) (pN q) (by omega)
    (fun v r => Kp SE σ r ∧ (∀ j, r.1 8 0 j = σ.1 8 0 j) ∧ ∀ b, b < v → r.1 50 0 b = nI (pW q b)) σ ⟨kp_rf, fun _ => rfl, fun b hb => by omega⟩
    (fun m r hI => by
      have hM := hB.kp hI.1
      rw [LX8_passes_2]
      simp (disch := omega) only [gi_n, cl, hM.1, le_n, Nat.le_refl, if_true])
    (fun m v r hv hI => by
      obtain ⟨i1, i2, i3⟩ := hI
      have hM := hB.kp i1
      rw [LX8_passes_2, hx v r hv i1, bdS]
      simp (disch := omega) only [gi_n, cl, hM.1, le_n, ltD, add_n]
      rw [if_neg (by omega)]
      refine ⟨_, ⟨i1.wI (fr_m 6 rfl (Nat.le_refl _) (by omega)), fun j => ?_, fun b hb => ?_⟩, rfl⟩
      · rw [rI, if_neg (fun z => by omega)]; exact i2 j
      · rw [rI]
        by_cases z : b = v
        · rw [if_pos ⟨rfl, rfl, z⟩, z]
        · rw [if_neg (fun y => z y.2.2)]; exact i3 b (by omega))
  have hB12 := hB.kp g1
  have hM12 : MPr (wI s 8 0 23 (nI (pC q))) q := by
    have z : ∀ a b c, (a ≠ 8) → (wI s 8 0 23 (nI (pC q))).1 a b c = s.1 a b c := fun a b c h => by rw [rI, if_neg (fun z => h z.1)]
    refine ⟨?_, ?_, ?_, ?_, fun b hb => ?_, fun b hb => ?_, fun l hl => ?_⟩
    · rw [z _ _ _ (by omega)]; exact hB12.1
    · rw [z _ _ _ (by omega)]; exact hB12.2.1
    · rw [z _ _ _ (by omega)]; exact hB12.2.2.1
    · rw [rI, if_pos ⟨rfl, rfl, rfl⟩]
    · rw [z _ _ _ (by omega)]; exact hB12.2.2.2.2.1 b hb
    · rw [z _ _ _ (by omega)]; exact g3 b hb
    · rw [z _ _ _ (by omega)]; exact hB12.2.2.2.2.2 l hl
  obtain ⟨s13, e13, b1, b2, b3, b4⟩ := m_lays hq hM12
  refine ⟨s13, ?_, g1.tr b1 (kp_pick [0, 1, 2, 3, 4, 5] rfl), fun j h1 h2 => (b2 j h2 h1).trans (g2 j), b3, b4⟩
  rw [← nI_0] at *
  refine e.trans ?_
  rw [e13, bdS]
