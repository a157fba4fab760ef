/-! ===== the model lays a pass ===== -/
def MA (σ : St) (p : PP) (x : PT) (t : Nat) : Prop := (∀ b, b < pN p → ∀ u, u < t → (σ.1 51 0 (401 * b + u) = nI (tD x b u) ∧ tD x b u < 64) ∧ (σ.1 52 0 (401 * b + u) = nI (tS x b u) ∧ tS x b u < 64) ∧ (σ.1 53 0 (401 * b + u) = nI (tT x b u) ∧ tT x b u < 64) ∧ (σ.1 54 0 (401 * b + u) = wv (tO x b u) ∧ ∀ l, tO x b u = some l → l < 6)) ∧ A55 σ (pN p) (tI x) ∧ σ.1 8 0 29 = nI (tK x)
theorem m_t1 {σ : St} {p : PP} (hp : POk p) (h : MPr σ p) {x : PT} {t : Nat} (ht : t < 401) (hA : MA σ p x t) (ke : St → Option (Unit × St)) :
    ∃ σ', (Kp [(51, 0, 1)] σ σ' ∧ ∀ b, b < pN p → ∀ u, u ≤ t → σ'.1 51 0 (401 * b + u) = nI (kD p x t b u) ∧ kD p x t b u < 64) ∧ LX8_laysPass_43 (nI t) ke FU 0 σ = ke σ' := by
  have hn := hp.1
  have hg := hp.2.1
  obtain ⟨s, ⟨g1, g2⟩, e⟩ := lp0 (fun m i (s : St) => LX8_laysPass_43 (nI t) ke m (nI i) s) (fun s => ke s) (pN p) (by omega)
    (fun i s => Kp [(51, 0, 1)] σ s ∧ ∀ b, b < pN p → ∀ u, u ≤ t → (u < t ∨ b < i) → s.1 51 0 (401 * b + u) = nI (kD p x t b u)) σ ⟨kp_rf, fun b hb u hu hq => by
      rcases hq with hq | hq
      · unfold kD
        rw [col_ne _ _ _ (by omega)]
        exact ((hA.1 b hb u hq).1).1
      · omega⟩
    (fun m s hI => by
      have hM := h.kp hI.1 rfl rfl rfl (by rw [kpc hI.1 8 0 rfl])
      rw [LX8_laysPass_43]
      simp (disch := omega) only [gi_n, cl, hM.1, le_n, Nat.le_refl, if_true])
    (fun m i s hi hI => by
      have hM := h.kp hI.1 rfl rfl rfl (by rw [kpc hI.1 8 0 rfl])
      have e1 := m_drives hp hM (tO x) hi ht (fun hgt => by rw [kpc hI.1 54 0 rfl]; exact ((hA.1 i hi (t - pG p) (by omega)).2.2.2).1) (fun hgt l hl => ((hA.1 i hi (t - pG p) (by omega)).2.2.2).2 l hl)
      rw [LX8_laysPass_43, e1, bdS]
      simp (disch := omega) only [gi_n, cl, hM.1, le_n, add_n]
      rw [if_neg (by omega)]
      refine ⟨_, ⟨kp_1 hI.1, fun b hb u hu hq => ?_⟩, rfl⟩
      rw [rI]
      by_cases e2 : b = i ∧ u = t
      · obtain ⟨rfl, rfl⟩ := e2
        rw [if_pos ⟨rfl, rfl, rfl⟩]
        unfold kD
        rw [col_eq]
      · rw [if_neg (fun z => e2 (by omega))]
        exact hI.2 b hb u hu (by omega))
  refine ⟨s, ⟨g1, fun b hb u hu => ⟨g2 b hb u hu (Or.inr hb), ?_⟩⟩, e⟩
  unfold kD
  by_cases q : u = t
  · subst q; rw [col_eq]; exact drF_lt hp _ _ hb
  · rw [col_ne _ _ _ q]; exact ((hA.1 b hb u (by omega)).1).2
theorem m_t2 {σ : St} {p : PP} (hp : POk p) (h : MPr σ p) {t K : Nat} {dr di : Nat → Nat → Nat} (ht : t < 401) (hd : ∀ o, o < pN p → ∀ u, u ≤ t → σ.1 51 0 (401 * o + u) = nI (dr o u) ∧ dr o u < 64) (hA : A55 σ (pN p) di) (hK : σ.1 8 0 29 = nI K) (ke : St → Option (Unit × St)) :
    ∃ σ', (Kp [(8, 0, 1), (55, 0, 1)] σ σ' ∧ (∀ j, j ≠ 29 → σ'.1 8 0 j = σ.1 8 0 j) ∧ A55 σ' (pN p) (dpB p dr t (pN p) (di, K)).1 ∧ σ'.1 8 0 29 = nI (dpB p dr t (pN p) (di, K)).2) ∧ LX8_laysPass_67 (nI t) ke FU 0 σ = ke σ' := by
  have hn := hp.1
  obtain ⟨s, hs, e⟩ := lp0 (fun m i (s : St) => LX8_laysPass_67 (nI t) ke m (nI i) s) (fun s => ke s) (pN p) (by omega)
    (fun i s => Kp [(8, 0, 1), (55, 0, 1)] σ s ∧ (∀ j, j ≠ 29 → s.1 8 0 j = σ.1 8 0 j) ∧ A55 s (pN p) (dpB p dr t i (di, K)).1 ∧ s.1 8 0 29 = nI (dpB p dr t i (di, K)).2) σ ⟨kp_rf, fun _ _ => rfl, hA, hK⟩
    (fun m s hI => by
      have hM := h.kp hI.1 rfl rfl rfl (hI.2.1 23 (by omega))
      rw [LX8_laysPass_67]
      simp (disch := omega) only [gi_n, cl, hM.1, le_n, Nat.le_refl, if_true])
    (fun m i s hi hI => by
      obtain ⟨g1, g2, g3, g4⟩ := hI
      have hM := h.kp g1 rfl rfl rfl (g2 23 (by omega))
      obtain ⟨s', e1, k1, k2, k3, k4⟩ := m_dips hp hM dr _ hi ht (fun o ho u hu => by rw [kpc g1 51 0 rfl]; exact hd o ho u hu) g3 g4
      rw [LX8_laysPass_67, e1, bdS]
      simp (disch := omega) only [gi_n, cl, hM.1, le_n, add_n]
      rw [if_neg (by omega)]
      exact ⟨s', ⟨g1.tr k1 (fun _ z => z), fun j hj => (k2 j hj).trans (g2 j hj), k3, k4⟩, rfl⟩)
  exact ⟨s, hs, e⟩
theorem m_t3 {σ : St} {p : PP} (hp : POk p) (h : MPr σ p) {t : Nat} {dr di se ta : Nat → Nat → Nat} {ou : Nat → Nat → Option Nat} (ht : t < 401) (hd : ∀ o, o < pN p → ∀ u, u ≤ t → σ.1 51 0 (401 * o + u) = nI (dr o u) ∧ dr o u < 64) (hA : A55 σ (pN p) di)
    (hs : ∀ b, b < pN p → ∀ u, u < t → (σ.1 52 0 (401 * b + u) = nI (se b u) ∧ se b u < 64) ∧ (σ.1 53 0 (401 * b + u) = nI (ta b u) ∧ ta b u < 64) ∧ (σ.1 54 0 (401 * b + u) = wv (ou b u) ∧ ∀ l, ou b u = some l → l < 6))
    (se' ta' : Nat → Nat → Nat) (ou' : Nat → Nat → Option Nat) (h1 : se' = col se t (fun b => seF p dr di b t)) (h2 : ta' = col ta t (fun b => taF p se' b t)) (h3 : ou' = col ou t (fun b => ouF p ta' b t)) (ke : St → Option (Unit × St)) :
    ∃ σ', (Kp [(52, 0, 1), (53, 0, 1), (54, 0, 1)] σ σ' ∧ ∀ b, b < pN p → ∀ u, u < t + 1 → (σ'.1 52 0 (401 * b + u) = nI (se' b u) ∧ se' b u < 64) ∧ (σ'.1 53 0 (401 * b + u) = nI (ta' b u) ∧ ta' b u < 64) ∧ (σ'.1 54 0 (401 * b + u) = wv (ou' b u) ∧ ∀ l, ou' b u = some l → l < 6)) ∧ LX8_laysPass_91 (nI t) ke FU 0 σ = ke σ' := by
  have hn := hp.1
  have hse64 : ∀ b, b < pN p → ∀ u, u < t + 1 → se' b u < 64 := fun b hb u hu => by
    rw [h1]
    by_cases q : u = t
    · subst q; rw [col_eq]; exact bsN_64 (Nat.le_refl 6) _
    · rw [col_ne _ _ _ q]; exact ((hs b hb u (by omega)).1).2
  have hta64 : ∀ b, b < pN p → ∀ u, u < t + 1 → ta' b u < 64 := fun b hb u hu => by
    rw [h2]
    by_cases q : u = t
    · subst q
      rw [col_eq]
      exact orN_lt (fun v v1 v2 => hse64 b hb v (by omega))
    · rw [col_ne _ _ _ q]; exact ((hs b hb u (by omega)).2.1).2
  have hou6 : ∀ b, b < pN p → ∀ u, u < t + 1 → ∀ l, ou' b u = some l → l < 6 := fun b hb u hu l hl => by
    rw [h3] at hl
    by_cases q : u = t
    · subst q
      rw [col_eq] at hl
      unfold ouF at hl
      split at hl
      · exact hiN_lt hl
      · cases hl
    · rw [col_ne _ _ _ q] at hl; exact ((hs b hb u (by omega)).2.2).2 l hl
  obtain ⟨s, ⟨g1, g2⟩, e⟩ := lp0 (fun m i (s : St) => LX8_laysPass_91 (nI t) ke m (nI i) s) (fun s => ke s) (pN p) (by omega)
    (fun i s => Kp [(52, 0, 1), (53, 0, 1), (54, 0, 1)] σ s ∧ ∀ b, b < pN p → ∀ u, u < t + 1 → (u < t ∨ b < i) → s.1 52 0 (401 * b + u) = nI (se' b u) ∧ s.1 53 0 (401 * b + u) = nI (ta' b u) ∧ s.1 54 0 (401 * b + u) = wv (ou' b u)) σ ⟨kp_rf, fun b hb u hu hq => by
      rcases hq with hq | hq
      · rw [h1, h2, h3, col_ne _ _ _ (by omega), col_ne _ _ _ (by omega), col_ne _ _ _ (by omega)]
        have := hs b hb u hq
        exact ⟨this.1.1, this.2.1.1, this.2.2.1⟩
      · omega⟩
    (fun m s hI => by
      have hM := h.kp hI.1 rfl rfl rfl (by rw [kpc hI.1 8 0 rfl])
      rw [LX8_laysPass_91]
      simp (disch := omega) only [gi_n, cl, hM.1, le_n, Nat.le_refl, if_true])
    (fun m i s hi hI => by
      have hM := h.kp hI.1 rfl rfl rfl (by rw [kpc hI.1 8 0 rfl])
      have e1 := m_look hp hM dr di se' hi ht (fun o ho u hu => by rw [kpc hI.1 51 0 rfl]; exact hd o ho u hu) (by rw [kpc hI.1 55 0 rfl]; exact hA i hi t (by omega)) (fun u hu => ⟨(hI.2 i hi u (by omega) (Or.inl hu)).1, hse64 i hi u (by omega)⟩) se' (fun _ _ => rfl) (by rw [h1, col_eq])
      rw [LX8_laysPass_91, e1, bdS]
      simp (disch := omega) only [gi_n, cl, hM.1, le_n, add_n]
      rw [if_neg (by omega)]
      refine ⟨_, ⟨((hI.1.wI (fr_m 0 rfl (Nat.le_refl _) (by omega))).wI (fr_m 1 rfl (Nat.le_refl _) (by omega))).wI (fr_m 2 rfl (Nat.le_refl _) (by omega)), fun b hb u hu hq => ?_⟩, rfl⟩
      simp only [rI]
      by_cases e2 : b = i ∧ u = t
      · obtain ⟨rfl, rfl⟩ := e2
        simp only [true_and, and_true, if_true]
        have hta : ta' b u = taF p se' b u := by rw [h2, col_eq]
        refine ⟨by simp, by rw [hta]; simp, ?_⟩
        rw [h3, col_eq]
        unfold ouF
        rw [hta]
        try simp
      · have hne : ¬ 401 * b + u = 401 * i + t := fun z => e2 (by omega)
        simp only [hne, and_false, if_false]
        have := hI.2 b hb u hu (by omega)
        refine ⟨by simp [this.1], by simp [this.2.1], by simp [this.2.2]⟩)
  exact ⟨s, ⟨g1, fun b hb u hu => ⟨⟨(g2 b hb u hu (Or.inr hb)).1, hse64 b hb u hu⟩, ⟨(g2 b hb u hu (Or.inr hb)).2.1, hta64 b hb u hu⟩, (g2 b hb u hu (Or.inr hb)).2.2, hou6 b hb u hu⟩⟩, e⟩
