/-! ===== the class side: letting go ===== -/
theorem c_dip {σ : St} {p : PP} (hp : POk p) (h : CPr σ p) {b l t far K : Nat} {di : Nat → Nat → Nat} (hb : b < pN p) (hl : l < 6) (ht : t < 401) (hf : far < 10) (hA : A22 σ (pN p) di) (hD : D13 σ) (hK : σ.1 1 0 16 = nI K) :
    ∃ σ', fX1_dip (nI b) (nI l) (nI t) (nI (2 * far)) σ = some ((), σ') ∧ Kp SD σ σ' ∧ (∀ j, j ≠ 13 → j ≠ 16 → σ'.1 1 0 j = σ.1 1 0 j) ∧ A22 σ' (pN p) (mkI p di b l t far) ∧ D13 σ' ∧ σ'.1 1 0 16 = nI (K + 1) := by
  have hn := hp.1
  unfold fX1_dip
  rw [ltD, hK, add_n]
  have k0 : Kp SD σ (wI σ 1 0 16 (nI (K + 1))) := kp_rf.wI (fr_m 0 rfl (Nat.le_refl _) (by omega))
  have c0 : ∀ j, j ≠ 16 → (wI σ 1 0 16 (nI (K + 1))).1 1 0 j = σ.1 1 0 j := fun j hj => by rw [rI, if_neg (fun z => hj z.2.2)]
  have r0 : ∀ o u, (wI σ 1 0 16 (nI (K + 1))).1 22 o u = σ.1 22 o u := fun o u => by rw [rI, if_neg (fun z => by omega)]
  obtain ⟨s, ⟨g1, g2, g3, g4⟩, e⟩ := lp0 (fun m i (s : St) => LX1_dip_13 (nI b) (nI l) (nI t) (nI (2 * far)) (fun (σ11 : St) => some ((), σ11)) m (nI i) s) (fun s => some ((), s)) (pN p) (by omega)
    (fun i s => Kp SD σ s ∧ (∀ j, j ≠ 13 → s.1 1 0 j = (wI σ 1 0 16 (nI (K + 1))).1 1 0 j) ∧ A22 s (pN p) (fun o u => if o < i then mkI p di b l t far o u else di o u) ∧ D13 s) (wI σ 1 0 16 (nI (K + 1))) ⟨k0, fun _ _ => rfl, fun o ho u hu => by
      simp only [Nat.not_lt_zero, if_false]; rw [r0]; exact hA o ho u hu, by
      obtain ⟨d, d1, d2, d3⟩ := hD
      exact ⟨d, d1, by rw [c0 13 (by omega)]; exact d2, fun o ho u h1 h2 => by rw [r0]; exact d3 o ho u h1 h2⟩⟩
    (fun m s hI => by
      have hM := h.kp hI.1 rfl rfl (fun j hj => by rw [hI.2.1 j (by omega), c0 j (by omega)])
      rw [LX1_dip_13, hM.1, if_pos (by rw [le_n (by omega) (by omega)]; exact Nat.le_refl _)])
    (fun m i s hi hI => by
      have hM := h.kp hI.1 rfl rfl (fun j hj => by rw [hI.2.1 j (by omega), c0 j (by omega)])
      have ha := apN_lt hp hb hi
      rw [LX1_dip_13, hM.1, if_neg (by rw [le_n (by omega) (by omega)]; omega)]
      simp (disch := omega) only [gi_n, cl, add_n, ltD, hM.2.2.2.2.1 b i hb hi]
      obtain ⟨s', ⟨k1, k2, k3, k4⟩, e⟩ := c_mark (nI b) (nI t) (fun (σ10 : St) => LX1_dip_13 (nI b) (nI l) (nI t) (nI (2 * far)) (fun (σ11 : St) => some ((), σ11)) m (nI (i + 1)) σ10) hn hi hl (from_ := t + apN (pS p) b i) (len := 2 * far) (by omega) hI.2.2.1 hI.2.2.2
      refine ⟨s', ⟨hI.1.tr k1 (fun _ z => z), fun j hj => (k2 j hj).trans (hI.2.1 j hj), fun o ho u hu => ?_, k4⟩, e⟩
      have g3 := k3 o ho u hu
      have hv : (fun o' u => if o' = i ∧ t + apN (pS p) b i ≤ u ∧ u < t + apN (pS p) b i + 2 * far then (fun o u => if o < i then mkI p di b l t far o u else di o u) o' u ||| 2 ^ l else (fun o u => if o < i then mkI p di b l t far o u else di o u) o' u) o u = (fun o u => if o < i + 1 then mkI p di b l t far o u else di o u) o u := by
        show (if o = i ∧ t + apN (pS p) b i ≤ u ∧ u < t + apN (pS p) b i + 2 * far then (if o < i then mkI p di b l t far o u else di o u) ||| 2 ^ l else (if o < i then mkI p di b l t far o u else di o u)) = (if o < i + 1 then mkI p di b l t far o u else di o u)
        by_cases e1 : o = i
        · subst e1
          rw [if_neg (Nat.lt_irrefl _), if_pos (Nat.lt_succ_self _)]
          unfold mkI
          by_cases q : t + apN (pS p) b o ≤ u ∧ u < t + apN (pS p) b o + 2 * far
          · rw [if_pos ⟨rfl, q⟩, if_pos q]
          · rw [if_neg (fun z => q z.2), if_neg q]
        · rw [if_neg (fun z => e1 z.1)]
          by_cases q : o < i
          · rw [if_pos q, if_pos (by omega)]
          · rw [if_neg q, if_neg (by omega)]
      rw [hv] at g3
      exact g3)
  refine ⟨s, e, g1, fun j h1 h2 => (g2 j h1).trans (c0 j h2), fun o ho u hu => ?_, g4, ?_⟩
  · have := g3 o ho u hu
    simp only [ho, if_true] at this
    exact this
  · rw [g2 16 (by omega), rI, if_pos ⟨rfl, rfl, rfl⟩]
/-- the state of the class while letting go -/
def GO (σ σ' : St) (p : PP) (x : (Nat → Nat → Nat) × Nat) : Prop := Kp SD σ σ' ∧ (∀ j, j < 13 ∨ j = 14 → σ'.1 1 0 j = σ.1 1 0 j) ∧ A22 σ' (pN p) x.1 ∧ D13 σ' ∧ σ'.1 1 0 16 = nI x.2
theorem c_go6 {σ : St} {p : PP} (hp : POk p) (h : CPr σ p) (dr : Nat → Nat → Nat) {x : (Nat → Nat → Nat) × Nat} {b t le : Nat} (hle : le < 64) (hb : b < pN p) (ht : t < 401) (hd : ∀ o, o < pN p → σ.1 14 o t = nI (dr o t) ∧ dr o t < 64) {s : St} (hs : GO σ s p x) (ke : St → Option (Unit × St)) :
    ∃ s', (GO σ s' p (dpL p dr b t le 6 x) ∧ s'.1 1 0 15 = s.1 1 0 15) ∧ LX1_letGoAll_65 (nI t) (nI b) (nI le) ke FU 0 s = ke s' := by
  have hn := hp.1
  obtain ⟨s', hs', e⟩ := lp0 (fun m i (s : St) => LX1_letGoAll_65 (nI t) (nI b) (nI le) ke m (nI i) s) (fun s => ke s) 6 (by omega)
    (fun i s1 => GO σ s1 p (dpL p dr b t le i x) ∧ s1.1 1 0 15 = s.1 1 0 15) s ⟨hs, rfl⟩
    (fun m s _ => by
      rw [LX1_letGoAll_65, if_pos (by rw [le_n (by omega) (by omega)]; exact Nat.le_refl _)])
    (fun m i s1 hi hI => by
      obtain ⟨⟨g1, g2, g3, g4, g5⟩, g6⟩ := hI
      have hM := h.kp g1 rfl rfl (fun j hj => g2 j (Or.inl hj))
      have hdr : ∀ o, o < pN p → s1.1 14 o t = nI (dr o t) ∧ dr o t < 64 := fun o ho => by
        rw [kpc g1 14 o rfl]; exact hd o ho
      have hfar := nrN_lt hp dr hb i t (pN p) (Nat.le_refl _)
      rw [LX1_letGoAll_65, c_near hp hM dr hb hi ht hdr, has7 (by omega) (by omega), if_neg (by rw [le_n (by omega) (by omega)]; omega)]
      simp only [jnD, add_n, bdS]
      have key : ∀ far : Nat, far = farN p dr b t le i → far < 10 → ∃ s', (GO σ s' p (dpL p dr b t le (i + 1) x) ∧ s'.1 1 0 15 = s.1 1 0 15) ∧ (if nI far ≤ 0 then LX1_letGoAll_65 (nI t) (nI b) (nI le) ke m (nI (i + 1)) s1 else bd (fX1_dip (nI b) (nI i) (nI t) ((nI 2) * nI far) s1) fun _ (σ11 : St) => LX1_letGoAll_65 (nI t) (nI b) (nI le) ke m (nI (i + 1)) σ11) = LX1_letGoAll_65 (nI t) (nI b) (nI le) ke m (nI (i + 1)) s' := by
        intro far hf1 hf2
        rw [dpL, ← hf1]
        by_cases q : far = 0
        · rw [if_pos q, if_pos (by rw [le_0 (by omega)]; exact q)]
          exact ⟨s1, ⟨⟨g1, g2, g3, g4, g5⟩, g6⟩, rfl⟩
        · rw [if_neg q, if_neg (by rw [le_0 (by omega)]; exact q), mul_n]
          obtain ⟨s2, e2, k1, k2, k3, k4, k5⟩ := c_dip hp hM hb hi ht hf2 g3 g4 g5
          rw [e2, bdS]
          exact ⟨s2, ⟨⟨g1.tr k1 (fun _ z => z), fun j hj => (k2 j (by omega) (by omega)).trans (g2 j hj), k3, k4, k5⟩, (k2 15 (by omega) (by omega)).trans g6⟩, rfl⟩
      by_cases q : le.testBit i = true
      · obtain ⟨s', k1, k2⟩ := key (nrN p dr b i t (pN p)) (by unfold farN; rw [if_pos q]) hfar
        refine ⟨s', k1, ?_⟩
        rw [if_pos q, if_neg (by decide)]
        exact k2
      · obtain ⟨s', k1, k2⟩ := key 0 (by unfold farN; rw [if_neg q]) (by omega)
        refine ⟨s', k1, ?_⟩
        rw [if_neg q, if_pos rfl]
        rw [nI_0] at k2
        exact k2)
  exact ⟨s', hs', e⟩
def chN (dr : Nat → Nat → Nat) (t c n : Nat) : Nat := if exN n (fun b => decide (dr b t ≠ dr b (t - 1))) = true then t else c
theorem nan_self (a : Nat) : nan a a = 0 := by
  apply Nat.eq_of_testBit_eq
  intro i
  rw [nan_bit, Nat.zero_testBit]
  cases a.testBit i <;> rfl
theorem nan_le (a b : Nat) : nan a b ≤ a := by
  apply Nat.le_of_testBit
  intro i
  rw [nan_bit]
  cases a.testBit i <;> simp
theorem dpL_0 (p : PP) (dr : Nat → Nat → Nat) (b t : Nat) (x : (Nat → Nat → Nat) × Nat) : ∀ l, dpL p dr b t 0 l x = x := by
  intro l
  induction l with
  | zero => rfl
  | succ l ih => rw [dpL, if_pos (by unfold farN; rw [if_neg (by simp)]), ih]
theorem dpB_0 (p : PP) (dr : Nat → Nat → Nat) (x : (Nat → Nat → Nat) × Nat) : ∀ n, dpB p dr 0 n x = x := by
  intro n
  induction n with
  | zero => rfl
  | succ n ih => rw [dpB, show leN dr n 0 = 0 from if_pos rfl, dpL_0, ih]
theorem c_letgo {σ : St} {p : PP} (hp : POk p) (h : CPr σ p) (dr : Nat → Nat → Nat) {x : (Nat → Nat → Nat) × Nat} {t c : Nat} (ht : t < 401) (hd : ∀ o, o < pN p → ∀ u, u ≤ t → σ.1 14 o u = nI (dr o u) ∧ dr o u < 64) (hA : A22 σ (pN p) x.1) (hD : D13 σ) (hK : σ.1 1 0 16 = nI x.2) (hc : σ.1 1 0 15 = nI c) :
    ∃ σ', fX1_letGoAll (nI t) σ = some ((), σ') ∧ GO σ σ' p (dpB p dr t (pN p) x) ∧ σ'.1 1 0 15 = nI (if t = 0 then c else chN dr t c (pN p)) := by
  have hn := hp.1
  unfold fX1_letGoAll
  by_cases q0 : t = 0
  · subst q0
    have hfu : FU = (FU - 1) + 1 := by have := FU_gt; omega
    rw [hfu, LX1_letGoAll_2, nI_0, if_pos (by decide), dpB_0]
    exact ⟨σ, rfl, ⟨kp_rf, fun _ _ => rfl, hA, hD, hK⟩, hc⟩
  · rw [if_neg q0]
    obtain ⟨s, ⟨g1, g2⟩, e⟩ := lp0 (fun m i (s : St) => LX1_letGoAll_2 (nI t) (fun (σ15 : St) => some ((), σ15)) m (nI i) s) (fun s => some ((), s)) (pN p) (by omega)
      (fun i s => GO σ s p (dpB p dr t i x) ∧ s.1 1 0 15 = nI (chN dr t c i)) σ ⟨⟨kp_rf, fun _ _ => rfl, hA, hD, hK⟩, hc⟩
      (fun m s hI => by
        have hM := h.kp hI.1.1 rfl rfl (fun j hj => hI.1.2.1 j (Or.inl hj))
        rw [LX1_letGoAll_2, hM.1, if_neg (by rw [le_0 (by omega)]; exact q0), if_pos (by rw [le_n (by omega) (by omega)]; exact Nat.le_refl _)])
      (fun m i s hi hI => by
        obtain ⟨⟨g1, g2, g3, g4, g5⟩, g6⟩ := hI
        have hM := h.kp g1 rfl rfl (fun j hj => g2 j (Or.inl hj))
        have d1 := hd i hi t (Nat.le_refl _)
        have d2 := hd i hi (t - 1) (by omega)
        have r14 := kpc g1 14 i rfl
        rw [LX1_letGoAll_2, hM.1, if_neg (by rw [le_0 (by omega)]; exact q0), if_neg (by rw [le_n (by omega) (by omega)]; omega)]
        simp (disch := omega) only [gi_n, cl, sub_n, r14, d1.1, d2.1, jnD, ltD, eq_n, add_n]
        rw [dpB]
        by_cases q : dr i t = dr i (t - 1)
        · rw [if_pos q]
          refine ⟨s, ⟨?_, ?_⟩, rfl⟩
          · rw [show leN dr i t = 0 by unfold leN; rw [if_neg q0, q, nan_self], dpL_0]
            exact ⟨g1, g2, g3, g4, g5⟩
          · rw [g6]
            unfold chN
            rw [exN]
            simp [q]
        · rw [if_neg q]
          have k0 : ∀ j, j ≠ 15 → (wI s 1 0 15 (nI t)).1 1 0 j = s.1 1 0 j := fun j hj => by rw [rI, if_neg (fun z => hj z.2.2)]
          have r0 : ∀ o u, (wI s 1 0 15 (nI t)).1 22 o u = s.1 22 o u := fun o u => by rw [rI, if_neg (fun z => by omega)]
          have hG : GO σ (wI s 1 0 15 (nI t)) p (dpB p dr t i x) := ⟨g1.wI (fr_m 0 rfl (Nat.le_refl _) (by omega)), fun j hj => (k0 j (by omega)).trans (g2 j hj), fun o ho u hu => by rw [r0]; exact g3 o ho u hu, by
            obtain ⟨d, e1, e2, e3⟩ := g4
            exact ⟨d, e1, by rw [k0 13 (by omega)]; exact e2, fun o ho u h1 h2 => by rw [r0]; exact e3 o ho u h1 h2⟩, by rw [k0 16 (by omega)]; exact g5⟩
          have hle : leN dr i t = nan (dr i (t - 1)) (dr i t) := by unfold leN; rw [if_neg q0]
          have hle2 := nan_le (dr i (t - 1)) (dr i t)
          obtain ⟨s', ⟨k1, k2⟩, e⟩ := c_go6 hp h dr (x := dpB p dr t i x) (b := i) (t := t) (le := leN dr i t) (by omega) hi ht (fun o ho => hd o ho t (Nat.le_refl _)) hG (fun (σ14 : St) => LX1_letGoAll_2 (nI t) (fun (σ15 : St) => some ((), σ15)) m (nI (i + 1)) σ14)
          refine ⟨s', ⟨k1, ?_⟩, ?_⟩
          · rw [k2, rI, if_pos ⟨rfl, rfl, rfl⟩]
            unfold chN
            rw [exN]
            simp [q]
          · rw [← e, hle]
            have r1 : ∀ u, (wI s 1 0 15 (nI t)).1 14 i u = σ.1 14 i u := fun u => by rw [rI, if_neg (fun z => by omega), r14]
            rw [r1, r1, d1.1, d2.1, nan_n _ (by omega)])
    exact ⟨s, e, g1, g2⟩
