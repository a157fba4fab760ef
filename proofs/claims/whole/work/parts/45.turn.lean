/-! ===== time goes on; the master's time is through; a turn is spent ===== -/
theorem s_time {u : BU} {σ σm : St} {k t p s a : Nat} (hu : UOk u) (h : TS u σ k σm t p s a) : TS u (wI σ 4 k 2 (nI (t + 1))) k (wI σm 47 0 0 (nI (t + 1))) (t + 1) p s a := by
  have hn := hu.n6
  obtain ⟨⟨d, h0, h1, h2, h3, h4, h5, h6, h7, h8, h9, h10, h11⟩, hD, hM⟩ := h
  refine ⟨⟨d, h0.fr (fun a b g => wIc (by omega)) rfl, ?_, h2.fr (wIc (by omega)) (fun j g1 g2 => wIj (by omega)) (Nat.le_refl _), h3.fr (wIj (by omega)), h4.fr (wIc (by omega)) (fun j g1 g2 => wIj (by omega)), h5.fr (fun a g => wIc (by omega)) (fun b' g j' g2 => wIj (by omega)) (by omega), h6.fr (wIj (by omega)) (fun b' g => wIj (by omega)), h7.fr (wIc (by omega)) (fun b' g => wIj (by omega)), h8.fr (wIc (by omega)) (wIj (by omega)) (fun b' g j' g1 g2 => wIj (by omega)), h9.fr (fun b _ => wIc (by omega)) (fun b' g j' g2 => wIj (by omega)) (Nat.le_refl _), h10.fr (fun x _ => wIc (by omega)) (fun j g1 g2 => wIj (by omega)), h11.fr (wIc (by omega)) (fun j g => wIj (by omega))⟩, hD.fr (wIj (by omega)) (fun o => wIc (by omega)), hM.fr (wIc (by omega))⟩
  obtain ⟨-, g⟩ := h1
  refine ⟨⟨wIe (by omega), wIe (by omega)⟩, ?_⟩
  rw [wIj (by omega), wIj (by omega), wIj (by omega), wIj (by omega), wIj (by omega), wIj (by omega), wIj (by omega), wIj (by omega), wIj (by omega), wIj (by omega)]
  exact g
theorem wn_m2 {n : Nat} : Wn (-2) n := ⟨none, rfl, fun b z => by cases z⟩
theorem wn_b {n b : Nat} (h : b < n) : Wn (nI b) n := ⟨some b, rfl, fun c z => by cases z; exact h⟩
theorem s_master {u : BU} {σ σm : St} {k t p s a : Nat} (hu : UOk u) (ht : t < 2147483648) (h : TS u σ k σm t p s a) :
    ∃ σ' σm', TS u σ' k σm' t p s a ∧ M8 σm σm' ∧ (∀ j37 : St → Option (Unit × St), (if (σ.1 4 k 2) = (σ.1 4 k 4) then lt (wI σ 4 k 3 (-2)) fun (σ13 : St) => lt (wI σ13 4 k 4 (-2)) fun (σ14 : St) => j37 σ14 else j37 σ) = j37 σ') ∧ ∀ j137 : St → Option (Unit × St), (if (σm.1 47 0 (nI 1).toNatClampNeg) = (-2) then j137 σm else gi (nI 2) 251 <| gi 0 251 <| (if (σm.1 47 0 (nI 2).toNatClampNeg) = (σm.1 47 0 (0 : Int32).toNatClampNeg) then gi (nI 1) 251 <| lt (wI σm 47 0 (nI 1).toNatClampNeg (-2)) fun (σ19 : St) => gi (nI 2) 251 <| lt (wI σ19 47 0 (nI 2).toNatClampNeg (-2)) fun (σ20 : St) => j137 σ20 else j137 σm)) = j137 σm' := by
  have hn := hu.n6
  have h' := h
  obtain ⟨⟨d, h0, h1, h2, h3, h4, h5, h6, h7, h8, h9, h10, h11⟩, hD, hM⟩ := h
  obtain ⟨⟨t1, t2⟩, ⟨m1, m2⟩, ⟨l1, l2⟩, ⟨e1, e2⟩, g1, g2, C, c1, c2, c3⟩ := h1
  rw [cl (show 1 < 2147483648 by omega), cl (show 2 < 2147483648 by omega), sb_cl0, t1, t2, l1]
  simp only [gi_n (show 1 < 251 by omega) (show 251 < 2147483648 by omega), gi_n (show 2 < 251 by omega) (show 251 < 2147483648 by omega), gi_0 (show 0 < 251 by omega), ltD]
  by_cases q : σm.1 47 0 1 = -2
  · refine ⟨σ, σm, h', M8.rf, fun j => ?_, fun j => by rw [if_pos q]⟩
    rw [if_neg]
    rw [l2 q, nm2 ht]
    exact fun z => z
  · by_cases q2 : σm.1 47 0 2 = nI t
    · refine ⟨_, _, ?_, M8.rf.w.w, fun j => by rw [if_pos q2.symm], fun j => by rw [if_neg q, if_pos q2]⟩
      refine ⟨⟨d, h0.fr (fun a b g => (wIc (by omega)).trans (wIc (by omega))) rfl, ?_, h2.fr ((wIc (by omega)).trans (wIc (by omega))) (fun j g1 g2 => (wIj (by omega)).trans (wIj (by omega))) (Nat.le_refl _), h3.fr ((wIj (by omega)).trans (wIj (by omega))), h4.fr ((wIc (by omega)).trans (wIc (by omega))) (fun j g1 g2 => (wIj (by omega)).trans (wIj (by omega))), h5.fr (fun a g => (wIc (by omega)).trans (wIc (by omega))) (fun b' g j' g2 => (wIj (by omega)).trans (wIj (by omega))) (by omega), h6.fr ((wIj (by omega)).trans (wIj (by omega))) (fun b' g => (wIj (by omega)).trans (wIj (by omega))), h7.fr ((wIc (by omega)).trans (wIc (by omega))) (fun b' g => (wIj (by omega)).trans (wIj (by omega))), h8.fr ((wIc (by omega)).trans (wIc (by omega))) ((wIj (by omega)).trans (wIj (by omega))) (fun b' g j' g1 g2 => (wIj (by omega)).trans (wIj (by omega))), h9.fr (fun b _ => (wIc (by omega)).trans (wIc (by omega))) (fun b' g j' g2 => (wIj (by omega)).trans (wIj (by omega))) (Nat.le_refl _), h10.fr (fun x _ => (wIc (by omega)).trans (wIc (by omega))) (fun j g1 g2 => (wIj (by omega)).trans (wIj (by omega))), h11.fr ((wIc (by omega)).trans (wIc (by omega))) (fun j g => (wIj (by omega)).trans (wIj (by omega)))⟩, hD.fr ((wIj (by omega)).trans (wIj (by omega))) (fun o => (wIc (by omega)).trans (wIc (by omega))), (hM.fr (wIc (by omega))).fr (wIc (by omega))⟩
      have y : ∀ j, j ≠ 3 → j ≠ 4 → (wI (wI σ 4 k 3 (-2)) 4 k 4 (-2)).1 4 k j = σ.1 4 k j := fun j g1 g2 => (wIj (by omega)).trans (wIj (by omega))
      have z : ∀ j, j ≠ 1 → j ≠ 2 → (wI (wI σm 47 0 1 (-2)) 47 0 2 (-2)).1 47 0 j = σm.1 47 0 j := fun j g1 g2 => (wIj (by omega)).trans (wIj (by omega))
      refine ⟨⟨(y 2 (by omega) (by omega)).trans t1, (z 0 (by omega) (by omega)).trans t2⟩, ⟨?_, ?_⟩, ⟨?_, fun _ => wIe (by omega)⟩, ?_⟩
      · rw [wIj (by omega), wIe (by omega), wIj (by omega), wIe (by omega)]
      · rw [wIj (by omega), wIe (by omega)]; exact wn_m2
      · rw [wIe (by omega), wIe (by omega)]
      · rw [y 5 (by omega) (by omega), y 6 (by omega) (by omega), y 7 (by omega) (by omega), z 3 (by omega) (by omega), z 4 (by omega) (by omega), z 5 (by omega) (by omega)]
        exact ⟨⟨e1, e2⟩, g1, g2, C, c1, c2, c3⟩
    · exact ⟨σ, σm, h', M8.rf, fun j => by rw [if_neg (fun z => q2 z.symm)], fun j => by rw [if_neg q, if_neg q2]⟩
/-- ledgers alone -/
theorem Q9.led {u : BU} {σ σm : St} {k s : Nat} (hu : UOk u) (h9 : Q9 u σ k (σm.1 47 0) s) {b j : Nat} (hb : b < uN u) (hj : j < 6) {x : Int32} (hx : j = 0 → ∃ c, x = nI c ∧ uL u b ≤ c ∧ c ≤ s) : Q9 u (wI σ 38 (6 * k + b) j x) k ((wI σm 47 0 (18 + 12 * b + 6 + j) x).1 47 0) s := by
  have hn := hu.n6
  intro b' hb'
  obtain ⟨g1, c, g2, g3⟩ := h9 b' hb'
  refine ⟨fun j' hj' => ?_, ?_⟩
  · rw [rI, rI]
    by_cases q : b' = b ∧ j' = j
    · rw [if_pos (by omega), if_pos (by omega)]
    · rw [if_neg (by omega), if_neg (by omega)]; exact g1 j' hj'
  · by_cases q : b' = b ∧ j = 0
    · obtain ⟨c', e1, e2⟩ := hx q.2
      exact ⟨c', by rw [wIe (by omega)]; exact e1, by rw [q.1]; exact e2⟩
    · exact ⟨c, by rw [wIj (by omega)]; exact g2, g3⟩
theorem wI_cg {τ σ : St} {ci kk j x y : Nat} {v : Int32} (h : τ.1 x y = σ.1 x y) : (wI τ ci kk j v).1 x y = (wI σ ci kk j v).1 x y := by
  funext c
  rw [rI, rI, h]
theorem tuN_bit (fr b : Nat) : tuN fr b = if fr.testBit b = true then 1 else 0 := by
  unfold tuN
  rw [Nat.testBit_eq_decide_div_mod_eq, Nat.shiftRight_eq_div_pow, Nat.and_one_is_mod]
  generalize fr / 2 ^ b = z
  by_cases q : z % 2 = 1
  · rw [if_pos (decide_eq_true q), q]
  · rw [if_neg (fun y => q (of_decide_eq_true y))]; omega
/-- all are fresh: the model's loop -/
theorem m_fresh {σ : St} (a1 : Int32) (ke : St → Option (Unit × St)) : ∃ s', ((∀ o, o < 6 → s'.1 47 0 (18 + 12 * o + 2) = nI 1) ∧ (∀ j, ¬ (18 ≤ j ∧ j < 90 ∧ (j - 18) % 12 = 2) → s'.1 47 0 j = σ.1 47 0 j) ∧ ∀ a b, a ≠ 47 → s'.1 a b = σ.1 a b) ∧ LX8_isElected_41 a1 ke FU 0 σ = ke s' := by
  obtain ⟨s, hs, e⟩ := lp0 (fun m i (s : St) => LX8_isElected_41 a1 ke m (nI i) s) (fun s => ke s) 6 (by omega)
    (fun i s' => (∀ o, o < i → s'.1 47 0 (18 + 12 * o + 2) = nI 1) ∧ (∀ j, ¬ (18 ≤ j ∧ j < 90 ∧ (j - 18) % 12 = 2) → s'.1 47 0 j = σ.1 47 0 j) ∧ ∀ a b, a ≠ 47 → s'.1 a b = σ.1 a b) σ ⟨fun o h => by omega, fun j _ => rfl, fun a b _ => rfl⟩
    (fun m s _ => by
      rw [LX8_isElected_41, if_pos (by rw [le_n (by omega) (by omega)]; exact Nat.le_refl _)])
    (fun m i s hi hI => by
      obtain ⟨i1, i2, i3⟩ := hI
      rw [LX8_isElected_41, if_neg (by rw [le_n (by omega) (by omega)]; omega), at8, gi_n (by omega) (by omega), cl (by omega), ltD, add_n]
      refine ⟨_, ⟨fun o ho => ?_, fun j hj => (wIj (by omega)).trans (i2 j hj), fun a b h => (wIc h).trans (i3 a b h)⟩, rfl⟩
      rw [rI]
      by_cases z : o = i
      · rw [if_pos (by omega)]
      · rw [if_neg (by omega)]; exact i1 o (by omega))
  exact ⟨s, hs, e⟩
/-- which row entries a turn may touch -/
def TuR (j : Nat) : Prop := j = 6 ∨ j = 10 ∨ (18 ≤ j ∧ j < 90 ∧ ((j - 18) % 12 = 2 ∨ 6 ≤ (j - 18) % 12))
theorem s_spend {u : BU} {σ σm : St} {k s b P : Nat} (hu : UOk u) (hb : b < uN u) (h6 : Q6 u σ k (σm.1 47 0)) (h9 : Q9 u σ k (σm.1 47 0) s) (e0 : σ.1 5 k 0 = σm.1 47 0 6) (hP : σ.2.2 4 k 1 = P) (hB : BC σ P u) :
    ∃ σ' σm', (∀ J : St → Option (Unit × St), (bd (fX4_spendTurn k (nI b) σ) fun _ (σ13 : St) => bd (fX5_count k (nI b) (nI 5) σ13) fun _ (σ14 : St) => J σ14) = J σ') ∧ fX8_isElected (nI b) σm = some ((), σm') ∧ Q6 u σ' k (σm'.1 47 0) ∧ Q9 u σ' k (σm'.1 47 0) s ∧ σ'.1 5 k 0 = σm'.1 47 0 6 ∧ (∀ a b, ¬ (a = 4 ∨ a = 5 ∨ a = 38) → σ'.1 a b = σ.1 a b) ∧ (∀ j, j ≠ 8 → σ'.1 4 k j = σ.1 4 k j) ∧ (∀ j, j ≠ 0 → σ'.1 5 k j = σ.1 5 k j) ∧ σ'.2 = σ.2 ∧ (∀ a b, a ≠ 47 → σm'.1 a b = σm.1 a b) ∧ ∀ j, ¬ (j = 6 ∨ 18 ≤ j ∧ j < 90 ∧ ((j - 18) % 12 = 2 ∨ (j - 18) % 12 = 11)) → σm'.1 47 0 j = σm.1 47 0 j := by
  have hn := hu.n6
  obtain ⟨fr, f1, f2, f3⟩ := h6
  have hp : 2 ^ uN u ≤ 64 := Nat.pow_le_pow_right (n := 2) (by omega) hn
  have hp1 : 1 ≤ 2 ^ uN u := Nat.one_le_two_pow
  have hb2 : 2 ^ b < 64 := Nat.lt_of_lt_of_le (Nat.pow_lt_pow_right (by omega) (show b < 6 by omega)) (by omega)
  have l9 : Q9 u (wI σ 38 (6 * k + b) 5 (σ.1 38 (6 * k + b) 5 + nI 1)) k ((wI σm 47 0 (18 + 12 * b + 11) (σm.1 47 0 (18 + 12 * b + 11) + nI 1)).1 47 0) s := by
    have e := (h9 b hb).1 5 (by omega)
    have := h9.led hu hb (show 5 < 6 by omega) (x := σm.1 47 0 (18 + 12 * b + 6 + 5) + nI 1) (fun z => by omega)
    rw [← e] at this
    rw [show 18 + 12 * b + 11 = 18 + 12 * b + 6 + 5 by omega, ← e]
    exact this
  unfold fX4_spendTurn fX8_isElected
  simp (disch := omega) only [at8, gi_n, cl, jnD, ltD]
  have x1 : (wI σm 47 0 (18 + 12 * b + 11) (σm.1 47 0 (18 + 12 * b + 11) + nI 1)).1 47 0 (18 + 12 * b + 2) = nI (tuN fr b) := (wIj (by omega)).trans (f3 b hb)
  rw [x1, f1, has7 (by omega) (by omega), tuN_bit]
  by_cases q : fr.testBit b = true
  · simp only [if_pos q]
    rw [if_neg (show ¬ nI 1 = 0 by decide), if_neg (show ¬ nI 1 = 0 by decide)]
    have eq1 : σ.1 4 k 8 &&& (nI 1 <<< (nI b &&& 31) ^^^ -1) = nI (nan fr (2 ^ b)) := by rw [f1, shl_1 (by omega), nan_n _ (by omega)]
    rw [f1] at eq1
    simp only [bdS, eq1, c_count (k := k) (show b < 6 by omega) (show 5 < 6 by omega)]
    have e38 : (wI σ 4 k 8 (nI (nan fr (2 ^ b)))).1 38 (6 * k + b) 5 = σ.1 38 (6 * k + b) 5 := wIj (by omega)
    rw [e38]
    refine ⟨_, _, fun J => rfl, rfl, ⟨nan fr (2 ^ b), ?_, ?_, fun b' hb' => ?_⟩, ?_, ?_, fun x y g => (wIc (by omega)).trans (wIc (by omega)), fun j g => (wIj (by omega)).trans (wIj (by omega)), fun j g => (wIj (by omega)).trans (wIj (by omega)), rfl, fun x y g => (wIc g).trans (wIc g), fun j g => (wIj (by omega)).trans (wIj (by omega))⟩
    · rw [wIj (by omega), wIe (by omega)]
    · exact Nat.lt_of_le_of_lt (nan_le _ _) f2
    · rw [tuN_bit, nan_bit, Nat.testBit_two_pow]
      by_cases z : b' = b
      · rw [wIe (by omega), if_neg (by simp [z]), nI_0]
      · rw [wIj (by omega), wIj (by omega), f3 b' hb', tuN_bit]
        simp [Ne.symm z]
    · refine l9.fr (fun b' _ => ?_) (fun b' g j' g2 => wIj (by omega)) (Nat.le_refl _)
      exact wI_cg (wIc (by omega))
    · rw [wIj (by omega), wIj (by omega), wIj (by omega), wIj (by omega)]; exact e0
  · simp only [if_neg q, nI_0, if_true]
    have x6 : (wI σm 47 0 (18 + 12 * b + 11) (σm.1 47 0 (18 + 12 * b + 11) + nI 1)).1 47 0 6 = σm.1 47 0 6 := wIj (by omega)
    rw [x6]
    have p1 : (wI σ 5 k 0 (σ.1 5 k 0 + nI 1)).2.2 4 k 1 = P := hP
    have p2 : (wI σ 5 k 0 (σ.1 5 k 0 + nI 1)).1 2 P 3 = nI (uN u) := (wIj (by omega)).trans hB.2.2.2.2.1
    unfold fX2_sets
    simp only [p1, gd_t hB.1, p2, bdS, shl_1 (show uN u < 31 by omega), sub_n hp1]
    have p3 : (wI (wI σ 5 k 0 (σ.1 5 k 0 + nI 1)) 4 k 8 (nI (2 ^ uN u - 1))).1 4 k 8 = nI (2 ^ uN u - 1) := wIe (by omega)
    simp only [p3, shl_1 (show b < 31 by omega), nan_n (2 ^ b) (show 2 ^ uN u - 1 < 2147483648 by omega), bdS, c_count (k := k) (show b < 6 by omega) (show 5 < 6 by omega)]
    obtain ⟨s', ⟨w1, w2, w3⟩, e⟩ := m_fresh (σ := wI (wI σm 47 0 (18 + 12 * b + 11) (σm.1 47 0 (18 + 12 * b + 11) + nI 1)) 47 0 6 (σm.1 47 0 6 + nI 1)) (nI b) (fun (σ6 : St) => some ((), wI σ6 47 0 (18 + 12 * b + 2) 0))
    rw [e]
    have e38 : (wI (wI (wI σ 5 k 0 (σ.1 5 k 0 + nI 1)) 4 k 8 (nI (2 ^ uN u - 1))) 4 k 8 (nI (nan (2 ^ uN u - 1) (2 ^ b)))).1 38 (6 * k + b) 5 = σ.1 38 (6 * k + b) 5 := by rw [wIj (by omega), wIj (by omega), wIj (by omega)]
    rw [e38]
    refine ⟨_, _, fun J => rfl, rfl, ⟨nan (2 ^ uN u - 1) (2 ^ b), ?_, ?_, fun b' hb' => ?_⟩, ?_, ?_, fun x y g => ?_, fun j g => ?_, fun j g => ?_, rfl, fun x y g => ?_, fun j g => ?_⟩
    · rw [wIj (by omega), wIe (by omega)]
    · exact Nat.lt_of_le_of_lt (nan_le _ _) (by omega)
    · rw [tuN_bit, nan_bit, Nat.testBit_two_pow, Nat.testBit_two_pow_sub_one]
      by_cases z : b' = b
      · rw [wIe (by omega), if_neg (by simp [z]), nI_0]
      · rw [wIj (by omega), w1 b' (by omega)]
        simp [Ne.symm z, hb']
    · refine l9.fr (fun b' _ => ?_) (fun b' g j' g2 => ?_) (Nat.le_refl _)
      · exact wI_cg ((wIc (by omega)).trans ((wIc (by omega)).trans (wIc (by omega))))
      · rw [wIj (by omega), w2 _ (by omega), wIj (by omega)]
    · rw [wIj (by omega), wIj (by omega), wIj (by omega), wIe (by omega), wIj (by omega), w2 6 (by omega), wIe (by omega), e0]
    · rw [wIc (by omega), wIc (by omega), wIc (by omega), wIc (by omega)]
    · rw [wIj (by omega), wIj (by omega), wIj (by omega), wIj (by omega)]
    · rw [wIj (by omega), wIj (by omega), wIj (by omega), wIj (by omega)]
    · rw [wIc g, w3 x y g, wIc g, wIc g]
    · rw [wIj (by omega), w2 j (by omega), wIj (by omega), wIj (by omega)]
