/-! ===== the model's dips ===== -/
/-- nothing but these classes has changed -/
theorem kpc {S : List (Nat × Nat × Nat)} {σ σ' : St} (h : Kp S σ σ') (ci k : Nat) (hne : S.all (fun e => !(e.1 == ci)) = true) : σ'.1 ci k = σ.1 ci k :=
  (h ci k (fun e he z => by
    have := List.all_eq_true.mp hne e he
    simp [z.1] at this)).1
theorem kpr {S : List (Nat × Nat × Nat)} {σ σ' : St} (h : Kp S σ σ') (ci k : Nat) (hne : S.all (fun e => !(e.1 == ci)) = true) : σ'.2.2 ci k = σ.2.2 ci k :=
  (h ci k (fun e he z => by
    have := List.all_eq_true.mp hne e he
    simp [z.1] at this)).2.2
def A55 (σ : St) (n : Nat) (di : Nat → Nat → Nat) : Prop := ∀ o, o < n → ∀ u, u < 461 → σ.1 55 0 (461 * o + u) = nI (di o u) ∧ di o u < 64
theorem kp_1 {σ0 σ : St} {ci k j : Nat} {v : Int32} (h : Kp [(ci, k, k + 1)] σ0 σ) : Kp [(ci, k, k + 1)] σ0 (wI σ ci k j v) := h.wI (fr_m 0 rfl (Nat.le_refl _) (Nat.lt_succ_self _))
theorem or64 {a l : Nat} (ha : a < 64) (hl : l < 6) : a ||| 2 ^ l < 64 := Nat.or_lt_two_pow (n := 6) ha (Nat.lt_of_lt_of_le (Nat.pow_lt_pow_right (by omega) hl) (by omega))
theorem m_mark {σ : St} {n o l from_ far : Nat} {di : Nat → Nat → Nat} (a1 a2 a3 : Int32) (ke : St → Option (Unit × St)) (hn : n ≤ 6) (ho : o < n) (hl : l < 6) (hf : from_ + 2 * far ≤ 461) (hA : A55 σ n di) :
    ∃ σ', (Kp [(55, 0, 1)] σ σ' ∧ A55 σ' n (fun o' u => if o' = o ∧ from_ ≤ u ∧ u < from_ + 2 * far then di o' u ||| 2 ^ l else di o' u)) ∧ LX8_dipsAt_114 a1 a2 a3 (nI l) (nI far) (nI o) (nI from_) ke FU (nI from_) σ = ke σ' := by
  obtain ⟨s, hs, e⟩ := lpU (fun m i (s : St) => LX8_dipsAt_114 a1 a2 a3 (nI l) (nI far) (nI o) (nI from_) ke m (nI i) s) (fun s => ke s) (from_ + 2 * far)
    (fun i s => from_ ≤ i ∧ Kp [(55, 0, 1)] σ s ∧ A55 s n (fun o' u => if o' = o ∧ from_ ≤ u ∧ u < i then di o' u ||| 2 ^ l else di o' u))
    (fun m s _ => by
      rw [LX8_dipsAt_114]
      simp (disch := omega) only [mul_n, add_n, le_n, Nat.le_refl, if_true])
    (fun m i s hi hI => by
      obtain ⟨h0, h1, h2⟩ := hI
      obtain ⟨h3, h4⟩ := h2 o ho i (by omega)
      have hd : (fun o' u => if o' = o ∧ from_ ≤ u ∧ u < i then di o' u ||| 2 ^ l else di o' u) o i = di o i := if_neg (fun z => by omega)
      rw [hd] at h3 h4
      rw [LX8_dipsAt_114]
      simp (disch := omega) only [mul_n, add_n, le_n, gi_n, cl, ltD, shl_1, h3, or_n]
      rw [if_neg (by omega)]
      refine ⟨_, ⟨by omega, kp_1 h1, fun o' ho' u hu => ?_⟩, rfl⟩
      obtain ⟨h5, h6⟩ := h2 o' ho' u hu
      rw [rI]
      by_cases e1 : o' = o ∧ u = i
      · obtain ⟨rfl, rfl⟩ := e1
        rw [if_pos ⟨rfl, rfl, rfl⟩]
        show _ = nI (if o' = o' ∧ from_ ≤ u ∧ u < u + 1 then _ else _) ∧ (if o' = o' ∧ from_ ≤ u ∧ u < u + 1 then _ else _) < 64
        rw [if_pos ⟨rfl, h0, Nat.lt_succ_self _⟩]
        exact ⟨rfl, or64 h4 hl⟩
      · have hne : ¬ (461 * o' + u = 461 * o + i) := fun z => e1 (by omega)
        rw [if_neg (fun z => hne z.2.2)]
        have : (fun o' u => if o' = o ∧ from_ ≤ u ∧ u < i + 1 then di o' u ||| 2 ^ l else di o' u) o' u = (fun o' u => if o' = o ∧ from_ ≤ u ∧ u < i then di o' u ||| 2 ^ l else di o' u) o' u := by
          show (if o' = o ∧ from_ ≤ u ∧ u < i + 1 then _ else _) = (if o' = o ∧ from_ ≤ u ∧ u < i then _ else _)
          by_cases q : o' = o ∧ from_ ≤ u ∧ u < i
          · rw [if_pos q, if_pos ⟨q.1, q.2.1, by omega⟩]
          · rw [if_neg q, if_neg (fun z => q ⟨z.1, z.2.1, by
              have h9 : u ≠ i := fun w => e1 ⟨z.1, w⟩
              omega⟩)]
        rw [this]
        exact ⟨h5, h6⟩) (2 * far) from_ σ FU rfl (by have := FU_gt; omega) ⟨Nat.le_refl _, kp_rf, fun o' ho' u hu => by
          show _ = nI (if o' = o ∧ from_ ≤ u ∧ u < from_ then _ else _) ∧ (if o' = o ∧ from_ ≤ u ∧ u < from_ then _ else _) < 64
          rw [if_neg (fun z => by omega)]
          exact hA o' ho' u hu⟩
  exact ⟨s, hs.2, e⟩
theorem MPr.kp {S : List (Nat × Nat × Nat)} {σ σ' : St} {p : PP} (h : MPr σ p) (hk : Kp S σ σ') (h44 : S.all (fun e => !(e.1 == 44)) = true) (h50 : S.all (fun e => !(e.1 == 50)) = true) (h47 : S.all (fun e => !(e.1 == 47)) = true) (h8 : σ'.1 8 0 23 = σ.1 8 0 23) : MPr σ' p := by
  have e1 := kpc hk 44 0 h44
  have e2 := kpc hk 50 0 h50
  have e3 := kpc hk 47 0 h47
  unfold MPr
  rw [e1, e2, e3, h8]
  exact h
theorem m_markAll {σ : St} {p : PP} (hp : POk p) (h : MPr σ p) {b l t far : Nat} {di : Nat → Nat → Nat} (a3 : Int32) (ke : St → Option (Unit × St)) (hb : b < pN p) (hl : l < 6) (ht : t < 401) (hf : far < 10) (hA : A55 σ (pN p) di) :
    ∃ σ', (Kp [(55, 0, 1)] σ σ' ∧ A55 σ' (pN p) (mkI p di b l t far)) ∧ LX8_dipsAt_88 (nI b) (nI t) a3 (nI l) (nI far) ke FU 0 σ = ke σ' := by
  have hn := hp.1
  obtain ⟨s, hs, e⟩ := lp0 (fun m i (s : St) => LX8_dipsAt_88 (nI b) (nI t) a3 (nI l) (nI far) ke m (nI i) s) (fun s => ke s) (pN p) (by omega)
    (fun i s => Kp [(55, 0, 1)] σ s ∧ A55 s (pN p) (fun o u => if o < i then mkI p di b l t far o u else di o u)) σ ⟨kp_rf, fun o ho u hu => by simp only [Nat.not_lt_zero, if_false]; exact hA o ho u hu⟩
    (fun m s hI => by
      have hM := h.kp hI.1 rfl rfl rfl (by rw [kpc hI.1 8 0 rfl])
      rw [LX8_dipsAt_88]
      simp (disch := omega) only [gi_n, cl, hM.1, le_n, Nat.le_refl, if_true])
    (fun m i s hi hI => by
      have hM := h.kp hI.1 rfl rfl rfl (by rw [kpc hI.1 8 0 rfl])
      have ha := apN_lt hp hb hi
      rw [LX8_dipsAt_88, m_apart hp hM hb hi, bdS]
      simp (disch := omega) only [gi_n, cl, hM.1, le_n, add_n, ltD]
      rw [if_neg (by omega)]
      obtain ⟨s', ⟨g1, g2⟩, e⟩ := m_mark (nI b) (nI t) a3 (fun (σ11 : St) => LX8_dipsAt_88 (nI b) (nI t) a3 (nI l) (nI far) ke m (nI (i + 1)) σ11) hn hi hl (from_ := t + apN (pS p) b i) (far := far) (by omega) hI.2
      refine ⟨s', ⟨hI.1.tr g1 (fun _ z => z), fun o ho u hu => ?_⟩, e⟩
      have g3 := g2 o ho u hu
      have hv : (fun o' u => if o' = i ∧ t + apN (pS p) b i ≤ u ∧ u < t + apN (pS p) b i + 2 * far then (fun o u => if o < i then mkI p di b l t far o u else di o u) o' u ||| 2 ^ l else (fun o u => if o < i then mkI p di b l t far o u else di o u) o' u) o u = (fun o u => if o < i + 1 then mkI p di b l t far o u else di o u) o u := by
        show (if o = i ∧ t + apN (pS p) b i ≤ u ∧ u < t + apN (pS p) b i + 2 * far then (if o < i then mkI p di b l t far o u else di o u) ||| 2 ^ l else (if o < i then mkI p di b l t far o u else di o u)) = (if o < i + 1 then mkI p di b l t far o u else di o u)
        by_cases e1 : o = i
        · subst e1
          rw [if_neg (Nat.lt_irrefl _), if_pos (Nat.lt_succ_self _)]
          unfold mkI
          by_cases q : t + apN (pS p) b o ≤ u ∧ u < t + apN (pS p) b o + 2 * far
          · rw [if_pos ⟨rfl, q⟩, if_pos q]
          · rw [if_neg (fun z => q z.2), if_neg q]
        · rw [if_neg (fun z => e1 z.1)]
          by_cases q : o < i
          · rw [if_pos q, if_pos (by omega)]
          · rw [if_neg q, if_neg (by omega)]
      rw [hv] at g3
      exact g3)
  refine ⟨s, ⟨hs.1, fun o ho u hu => ?_⟩, e⟩
  have := hs.2 o ho u hu
  simp only [ho, if_true] at this
  exact this
theorem mkI_64 {p : PP} {di : Nat → Nat → Nat} {b l t far : Nat} (hl : l < 6) {o u : Nat} (h : di o u < 64) : mkI p di b l t far o u < 64 := by
  unfold mkI
  split
  · exact or64 h hl
  · exact h
/-- what a board lets go of at a tick -/
theorem m_dips {σ : St} {p : PP} (hp : POk p) (h : MPr σ p) (dr di : Nat → Nat → Nat) {b t K : Nat} (hb : b < pN p) (ht : t < 401) (hd : ∀ o, o < pN p → ∀ u, u ≤ t → σ.1 51 0 (401 * o + u) = nI (dr o u) ∧ dr o u < 64) (hA : A55 σ (pN p) di) (hK : σ.1 8 0 29 = nI K) :
    ∃ σ', fX8_dipsAt (nI b) (nI t) σ = some ((), σ') ∧ Kp [(8, 0, 1), (55, 0, 1)] σ σ' ∧ (∀ j, j ≠ 29 → σ'.1 8 0 j = σ.1 8 0 j) ∧ A55 σ' (pN p) (dpL p dr b t (leN dr b t) 6 (di, K)).1 ∧ σ'.1 8 0 29 = nI (dpL p dr b t (leN dr b t) 6 (di, K)).2 := by
  have hn := hp.1
  have hle : leN dr b t < 64 := by
    unfold leN
    split
    · omega
    · apply Nat.lt_of_le_of_lt (m := dr b (t - 1))
      · apply Nat.le_of_testBit
        intro i
        rw [nan_bit]
        cases (dr b (t - 1)).testBit i <;> simp
      · exact (hd b hb (t - 1) (by omega)).2
  have hx : fX8_dipsAt (nI b) (nI t) σ = LX8_dipsAt_37 (nI b) (nI t) (nI (leN dr b t)) (fun (σ15 : St) => some ((), σ15)) FU 0 σ := by
    unfold fX8_dipsAt leN
    rw [jnD]
    by_cases q : t = 0
    · subst q
      rw [nI_0, if_pos rfl, if_pos rfl, nI_0]
    · have d1 := hd b hb (t - 1) (by omega)
      have d2 := hd b hb t (by omega)
      rw [if_neg q]
      simp (disch := omega) only [eq_0, q, if_false, sub_n, cell8, gi_n, cl, d1.1, d2.1, nan_n]
  obtain ⟨s, ⟨g1, g2, g3, g4⟩, e⟩ := lp0 (fun m i (s : St) => LX8_dipsAt_37 (nI b) (nI t) (nI (leN dr b t)) (fun (σ15 : St) => some ((), σ15)) m (nI i) s) (fun s => some ((), s)) 6 (by omega)
    (fun i s => Kp [(8, 0, 1), (55, 0, 1)] σ s ∧ (∀ j, j ≠ 29 → s.1 8 0 j = σ.1 8 0 j) ∧ A55 s (pN p) (dpL p dr b t (leN dr b t) i (di, K)).1 ∧ s.1 8 0 29 = nI (dpL p dr b t (leN dr b t) i (di, K)).2) σ ⟨kp_rf, fun _ _ => rfl, hA, hK⟩
    (fun m s _ => by
      rw [LX8_dipsAt_37]
      simp (disch := omega) only [le_n, Nat.le_refl, if_true])
    (fun m i s hi hI => by
      obtain ⟨g1, g2, g3, g4⟩ := hI
      have hM := h.kp g1 rfl rfl rfl (g2 23 (by omega))
      have hdr : ∀ o, o < pN p → s.1 51 0 (401 * o + t) = nI (dr o t) ∧ dr o t < 64 := fun o ho => by
        rw [kpc g1 51 0 rfl]
        exact hd o ho t (by omega)
      rw [LX8_dipsAt_37, m_nearest hp hM dr hb hi ht hdr, has8 (by omega) (by omega)]
      simp (disch := omega) only [le_n, jnD, add_n, bdS]
      rw [if_neg (by omega)]
      have hfar := nrN_lt hp dr hb i t (pN p) (Nat.le_refl _)
      have key : ∀ far : Nat, far = farN p dr b t (leN dr b t) i → far < 10 → ∃ s', (Kp [(8, 0, 1), (55, 0, 1)] σ s' ∧ (∀ j, j ≠ 29 → s'.1 8 0 j = σ.1 8 0 j) ∧ A55 s' (pN p) (dpL p dr b t (leN dr b t) (i + 1) (di, K)).1 ∧ s'.1 8 0 29 = nI (dpL p dr b t (leN dr b t) (i + 1) (di, K)).2) ∧ (if nI far = 0 then LX8_dipsAt_37 (nI b) (nI t) (nI (leN dr b t)) (fun (σ15 : St) => some ((), σ15)) m (nI (i + 1)) s else lt (wI s 8 0 29 ((s.1 8 0 29) + (nI 1))) fun (σ6 : St) => (LX8_dipsAt_88 (nI b) (nI t) (nI (leN dr b t)) (nI i) (nI far) (fun (σ12 : St) => LX8_dipsAt_37 (nI b) (nI t) (nI (leN dr b t)) (fun (σ15 : St) => some ((), σ15)) m (nI (i + 1)) σ12) FU 0 σ6)) = LX8_dipsAt_37 (nI b) (nI t) (nI (leN dr b t)) (fun (σ15 : St) => some ((), σ15)) m (nI (i + 1)) s' := by
        intro far hf1 hf2
        rw [dpL, ← hf1]
        by_cases q : far = 0
        · rw [if_pos q, if_pos (by rw [q, nI_0])]
          exact ⟨s, ⟨g1, g2, g3, g4⟩, rfl⟩
        · rw [if_neg q, if_neg (by rw [eq_0 (by omega)]; exact q), ltD]
          have g1' : Kp [(8, 0, 1), (55, 0, 1)] σ (wI s 8 0 29 ((s.1 8 0 29) + (nI 1))) := g1.wI (fr_m 0 rfl (Nat.le_refl _) (by omega))
          have g2' : ∀ j, j ≠ 29 → (wI s 8 0 29 ((s.1 8 0 29) + (nI 1))).1 8 0 j = σ.1 8 0 j := fun j hj => by
            rw [rI, if_neg (fun z => hj z.2.2)]
            exact g2 j hj
          have hM2 := h.kp g1' rfl rfl rfl (g2' 23 (by omega))
          have hA2 : A55 (wI s 8 0 29 ((s.1 8 0 29) + (nI 1))) (pN p) (dpL p dr b t (leN dr b t) i (di, K)).1 := fun o ho u hu => by
            rw [rI, if_neg (fun z => by omega)]
            exact g3 o ho u hu
          obtain ⟨s', ⟨k1, k2⟩, e⟩ := m_markAll hp hM2 (nI (leN dr b t)) (fun (σ12 : St) => LX8_dipsAt_37 (nI b) (nI t) (nI (leN dr b t)) (fun (σ15 : St) => some ((), σ15)) m (nI (i + 1)) σ12) hb hi ht hf2 hA2
          refine ⟨s', ⟨g1'.tr k1 (kp_pick [1] rfl), fun j hj => ?_, k2, ?_⟩, e⟩
          · rw [kpc k1 8 0 rfl]
            exact g2' j hj
          · rw [kpc k1 8 0 rfl, rI, if_pos ⟨rfl, rfl, rfl⟩, g4, add_n]
      by_cases q : (leN dr b t).testBit i = true
      · simp (disch := omega) only [q, if_true, eq_0]
        rw [if_neg (by omega)]
        have := key (nrN p dr b i t (pN p)) (by unfold farN; rw [if_pos q]) hfar
        simp (disch := omega) only [eq_0] at this
        exact this
      · simp only [q, if_false, if_true]
        have := key 0 (by unfold farN; rw [if_neg q]) (by omega)
        simp only [nI_0, if_true] at this
        exact this)
  exact ⟨s, by rw [hx]; exact e, g1, g2, g3, g4⟩
