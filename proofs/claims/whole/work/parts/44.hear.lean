/-! ===== boards ask ===== -/
/-- a run of the class and the model's row, one tick after another -/
def TS (u : BU) (σ : St) (k : Nat) (σm : St) (t p s a : Nat) : Prop := RR u σ k (σm.1 47 0) t p s a ∧ D13 σ ∧ BM σm u
/-- the model's own numbers stay, but those of a pass -/
def M8 (σ σ' : St) : Prop := ∀ j, j ≠ 23 → j ≠ 29 → j ≠ 30 → j ≠ 31 → j ≠ 32 → σ'.1 8 0 j = σ.1 8 0 j
theorem M8.rf {σ : St} : M8 σ σ := fun _ _ _ _ _ _ => rfl
theorem M8.tr {σ σ' σ'' : St} (h : M8 σ σ') (h' : M8 σ' σ'') : M8 σ σ'' := fun j a b c d e => (h' j a b c d e).trans (h j a b c d e)
theorem M8.w {σ σ' : St} (h : M8 σ σ') {j : Nat} {v : Int32} : M8 σ (wI σ' 47 0 j v) := fun i a b c d e => (wIj (by omega)).trans (h i a b c d e)
theorem D13.fr {σ σ' : St} (h : D13 σ) (h1 : σ'.1 1 0 13 = σ.1 1 0 13) (h2 : ∀ o, σ'.1 22 o = σ.1 22 o) : D13 σ' := by
  obtain ⟨d, d1, d2, d3⟩ := h
  exact ⟨d, d1, h1.trans d2, fun o ho u g1 g2 => by rw [h2 o]; exact d3 o ho u g1 g2⟩
theorem c_holds {σ : St} {P n b : Nat} (h3 : σ.1 2 P 3 = nI n) (hb : b < n) (hn : n ≤ 6) : fX2_holds P (nI b) σ = some (nI 1, σ) := by
  unfold fX2_holds
  rw [h3, if_neg (by rw [lt_0n (by omega)]; exact id), if_neg (by rw [le_n (by omega) (by omega)]; omega), if_neg (by rw [le_n (by omega) (by omega)]; omega)]
  rfl
theorem c_holds2 {σ : St} {P : Nat} : fX2_holds P (-2) σ = some (0, σ) := by
  unfold fX2_holds
  rw [if_pos (by decide)]
  rfl
theorem isAcc {b j : Nat} (hb : b < 6) (hj : j < 6) : fX5_isAccount (nI b) (nI j) = nI 1 := by
  unfold fX5_isAccount
  rw [isBelow_n hb (by omega), isBelow_n hj (by omega), if_neg (by decide), if_neg (by decide)]
theorem c_count {σ : St} {k b j : Nat} (hb : b < 6) (hj : j < 6) : fX5_count k (nI b) (nI j) σ = some ((), wI σ 38 (6 * k + b) j (σ.1 38 (6 * k + b) j + nI 1)) := by
  unfold fX5_count
  rw [isAcc hb hj, if_neg (by decide), gi_n (by omega) (by omega), gi_n (by omega) (by omega), gi_n (by omega) (by omega), cl (by omega), cl (by omega), ltD]
theorem s_hear {u : BU} {σ σm : St} {k t p s a b v : Nat} (hu : UOk u) (h : TS u σ k σm t p s a) (hb : b < uN u) (hv : v ≤ 99) :
    ∃ σ' σm', ∃ x : Int32, fX4_hear k (nI b) (nI v) σ = some (x, σ') ∧ fX8_asks (nI b) (nI v) σm = some (x, σm') ∧ (x = 0 ∨ x = nI 1) ∧ TS u σ' k σm' t p s a ∧ M8 σm σm' := by
  have hn := hu.n6
  obtain ⟨hR, hD, hM⟩ := h
  have hR' := hR
  obtain ⟨d, h0, h1, h2, h3, h4, h5, h6, h7, h8, h9, h10, h11⟩ := hR
  obtain ⟨P, hP, hBC, hPu⟩ := h0
  obtain ⟨⟨va, a1, a2, a3⟩, vs, s1, s2, s3⟩ := h5 b hb
  unfold fX4_hear fX8_asks
  rw [hP, gd_t hBC.1, c_holds hBC.2.2.2.2.1 hb hn, bdS, if_neg (by decide)]
  simp (disch := omega) only [at8_0, at8, gi_n, gi_0, cl, jnD, ltD, sb_cl0, a1, a2, h1.2.1.1]
  have href : ∃ σ' σm', ∃ x : Int32, (bd (fX5_count k (nI b) (nI 2) σ) fun _ (σ5 : St) => some ((0 : Int32), σ5)) = some (x, σ') ∧ some ((0 : Int32), wI σm 47 0 (18 + 12 * b + 8) ((σm.1 47 0 (18 + 12 * b + 8)) + (nI 1))) = some (x, σm') ∧ (x = 0 ∨ x = nI 1) ∧ TS u σ' k σm' t p s a ∧ M8 σm σm' := by
    rw [c_count (by omega) (by omega), bdS, (h9 b hb).1 2 (by omega)]
    refine ⟨_, _, _, rfl, rfl, Or.inl rfl, ⟨hR'.led hu hb (by omega) (fun z => by omega), hD.fr (wIj (by omega)) (fun o => wIc (by omega)), hM.fr (wIc (by omega))⟩, M8.rf.w⟩
  by_cases q : 0 < va
  · have q' : (0 : Int32) < nI va := by rw [gt_0 (by omega)]; exact q
    simp only [if_pos q']
    exact href
  · have q' : ¬ (0 : Int32) < nI va := by rw [gt_0 (by omega)]; exact q
    simp only [if_neg q']
    by_cases q2 : σm.1 47 0 1 = nI b
    · simp only [if_pos q2]
      exact href
    · simp only [if_neg q2]
      have e1 : (wI σ 34 k b (nI v)).1 4 k 2 = nI t := (wIj (by omega)).trans h1.1.1
      have e2 : (wI σm 47 0 (18 + 12 * b) (nI v)).1 47 0 0 = nI t := (wIj (by omega)).trans h1.1.2
      rw [e1, e2]
      refine ⟨_, _, _, rfl, rfl, Or.inr rfl, ⟨⟨d, Q0.fr ⟨P, hP, hBC, hPu⟩ (fun a b g => (wIc (by omega)).trans (wIc (by omega))) rfl, h1.fr (fun j _ => (wIj (by omega)).trans (wIj (by omega))) (fun j g => (wIj (by omega)).trans (wIj (by omega))), h2.fr ((wIc (by omega)).trans (wIc (by omega))) (fun j g1 g2 => (wIj (by omega)).trans (wIj (by omega))) (Nat.le_refl _), h3.fr ((wIj (by omega)).trans (wIj (by omega))), h4.fr ((wIc (by omega)).trans (wIc (by omega))) (fun j g1 g2 => (wIj (by omega)).trans (wIj (by omega))), fun b' hb' => ?_, h6.fr ((wIj (by omega)).trans (wIj (by omega))) (fun b' g => (wIj (by omega)).trans (wIj (by omega))), h7.fr ((wIc (by omega)).trans (wIc (by omega))) (fun b' g => (wIj (by omega)).trans (wIj (by omega))), h8.fr ((wIc (by omega)).trans (wIc (by omega))) ((wIj (by omega)).trans (wIj (by omega))) (fun b' g j' g1 g2 => (wIj (by omega)).trans (wIj (by omega))), h9.fr (fun b' g => (wIc (by omega)).trans (wIc (by omega))) (fun b' g j' g2 => (wIj (by omega)).trans (wIj (by omega))) (Nat.le_refl _), h10.fr (fun x _ => (wIc (by omega)).trans (wIc (by omega))) (fun j g1 g2 => (wIj (by omega)).trans (wIj (by omega))), h11.fr ((wIc (by omega)).trans (wIc (by omega))) (fun j g => (wIj (by omega)).trans (wIj (by omega)))⟩, hD.fr ((wIj (by omega)).trans (wIj (by omega))) (fun o => (wIc (by omega)).trans (wIc (by omega))), (hM.fr (wIc (by omega))).fr (wIc (by omega))⟩, M8.rf.w.w⟩
      by_cases e : b' = b
      · subst e
        exact ⟨⟨v, (wIj (by omega)).trans (wIe (by omega)), (wIj (by omega)).trans (wIe (by omega)), hv⟩, t, wIe (by omega), wIe (by omega), Nat.le_refl _⟩
      · obtain ⟨⟨va', x1, x2, x3⟩, vs', y1, y2, y3⟩ := h5 b' hb'
        exact ⟨⟨va', (wIj (by omega)).trans ((wIj (by omega)).trans x1), (wIj (by omega)).trans ((wIj (by omega)).trans x2), x3⟩, vs', (wIj (by omega)).trans ((wIj (by omega)).trans y1), (wIj (by omega)).trans ((wIj (by omega)).trans y2), y3⟩
/-- asks that are not due are passed over -/
theorem s_skip {u : BU} {σ : St} {k t P : Nat} (hu : UOk u) (ht : t < 2147483648) (hP : σ.2.2 4 k 1 = P) (hB : BC σ P u) (h2 : σ.1 4 k 2 = nI t) (ke : St → Option (Unit × St)) {e : Nat} (he : e ≤ uA u) : ∀ (x i m : Nat), i + x = e → (∀ y, i ≤ y → y < e → uT u y ≠ t) → LX4_hearTold_2 k ke (m + x) (nI i) σ = LX4_hearTold_2 k ke m (nI e) σ := by
  have h12 := hu.a
  intro x
  induction x with
  | zero =>
    intro i m hi _
    rw [Nat.add_zero] at hi ⊢
    rw [hi]
  | succ x ih =>
    intro i m hi hy
    have hT := (hu.t i (by omega)).2
    have e1 := (hB.2.2.2.2.2.2.2 i (by omega)).1
    rw [← Nat.add_assoc, LX4_hearTold_2, hP, gd_t hB.1, hB.2.2.2.2.2.1, if_neg (by rw [le_n (by omega) (by omega)]; omega), if_neg (by rw [le_n (by omega) (by omega)]; omega), gd_t hB.1, gi_n (by omega) (by omega), jnD, cl (by omega), e1, h2, if_neg (by rw [eq_n (by omega) ht]; exact hy i (Nat.le_refl _) (by omega)), add_n]
    exact ih (i + 1) m (by omega) (fun y g1 g2 => hy y (by omega) g2)
theorem Q3.nx {u : BU} {σ σm : St} {k t p s a : Nat} (hu : UOk u) (h : TS u σ k σm t p s a) : TS u σ k (wI σm 47 0 11 (nI (a + 1))) t p s (a + 1) := by
  have hn := hu.n6
  obtain ⟨⟨d, h0, h1, h2, h3, h4, h5, h6, h7, h8, h9, h10, h11⟩, hD, hM⟩ := h
  exact ⟨⟨d, h0, h1.fr (fun j _ => rfl) (fun j g => wIj (by omega)), h2.fr rfl (fun j g1 g2 => wIj (by omega)) (Nat.le_refl _), wIe (by omega), h4.fr rfl (fun j g1 g2 => wIj (by omega)), h5.fr (fun a g => rfl) (fun b' g j' g2 => wIj (by omega)) (Nat.le_refl _), h6.fr rfl (fun b' g => wIj (by omega)), h7.fr rfl (fun b' g => wIj (by omega)), h8.fr rfl (wIj (by omega)) (fun b' g j' g1 g2 => wIj (by omega)), h9.fr (fun b _ => rfl) (fun b' g j' g2 => wIj (by omega)) (Nat.le_refl _), h10.fr (fun x _ => rfl) (fun j g1 g2 => wIj (by omega)), h11.fr rfl (fun j g => wIj (by omega))⟩, hD, hM.fr (wIc (by omega))⟩
/-- those that are due are heard on both sides -/
theorem s_due {u : BU} {k t p s : Nat} (hu : UOk u) (ht : t < 2147483648) (ke km : St → Option (Unit × St)) {e : Nat} (he : e ≤ uA u) : ∀ (x i m m' : Nat) (σ σm : St), i + x = e → (∀ y, i ≤ y → y < e → uT u y = t) → TS u σ k σm t p s i → ∃ σ' σm', TS u σ' k σm' t p s e ∧ M8 σm σm' ∧ LX4_hearTold_2 k ke (m + x) (nI i) σ = LX4_hearTold_2 k ke m (nI e) σ' ∧ LX8_tick_10 km (m' + x) σm = LX8_tick_10 km m' σm' := by
  have h12 := hu.a
  have hn := hu.n6
  intro x
  induction x with
  | zero =>
    intro i m m' σ σm hi _ h
    rw [Nat.add_zero] at hi
    subst hi
    exact ⟨σ, σm, h, M8.rf, rfl, rfl⟩
  | succ x ih =>
    intro i m m' σ σm hi hy h
    have hT := hy i (Nat.le_refl _) (by omega)
    have h' := h
    obtain ⟨⟨d, h0, h1, h2, h3, -⟩, hD, hM⟩ := h
    obtain ⟨P, hP, hB, hPu⟩ := h0
    obtain ⟨e1, e2, e3⟩ := hB.2.2.2.2.2.2.2 i (by omega)
    obtain ⟨f1, f2, f3⟩ := hM.2.2.2.2.2.2 i (by omega)
    have hub := hu.b i (by omega)
    have huk := hu.k i (by omega)
    have h3' : σm.1 47 0 11 = nI i := h3
    obtain ⟨σ', σm', r, g1, g2, -, g4, g5⟩ := s_hear hu (Q3.nx hu h') hub huk
    obtain ⟨σ2, σm2, j1, j2, j3, j4⟩ := ih (i + 1) m m' σ' σm' (by omega) (fun y g1 g2 => hy y (by omega) g2) g4
    refine ⟨σ2, σm2, j1, (M8.rf.w.tr g5).tr j2, ?_, ?_⟩
    · rw [← Nat.add_assoc, LX4_hearTold_2, hP, gd_t hB.1, hB.2.2.2.2.2.1, if_neg (by rw [le_n (by omega) (by omega)]; omega), if_neg (by rw [le_n (by omega) (by omega)]; omega), gd_t hB.1, gi_n (by omega) (by omega), jnD, cl (by omega), e1, h1.1.1, if_pos (by rw [hT]), gd_t hB.1, gi_n (by omega) (by omega), gd_t hB.1, gi_n (by omega) (by omega), e2, e3, g1, bdS, add_n]
      exact j3
    · rw [← Nat.add_assoc, LX8_tick_10, gi_n (by omega) (by omega), gi_n (by omega) (by omega), cl (by omega), cl (by omega), hM.2.2.2.2.1, h3', if_neg (by rw [le_n (by omega) (by omega)]; omega), gi_n (by omega) (by omega), add_n, gi_n (by omega) (by omega), gi_0 (by omega), cl (by omega), f1, sb_cl0, h1.1.2, if_pos (by rw [hT]), gi_n (by omega) (by omega), ltD, gi_n (by omega) (by omega), gi_n (by omega) (by omega), ltD, add_n, add_n, add_n, gi_n (by omega) (by omega), gi_n (by omega) (by omega), cl (by omega), cl (by omega), wIj (by omega), wIj (by omega), f2, f3, g2, bdS]
      exact j4
/-- all asks that are told for this tick -/
theorem s_told {u : BU} {σ σm : St} {k t p s a : Nat} (hu : UOk u) (ht : t + 1 < 2147483648) (h : TS u σ k σm (t + 1) p s a) (ha : AOk u t a) (km : St → Option (Unit × St)) :
    ∃ σ' σm' a', TS u σ' k σm' (t + 1) p s a' ∧ AOk u (t + 1) a' ∧ M8 σm σm' ∧ fX4_hearTold k σ = some ((), σ') ∧ LX8_tick_10 km FU σm = km σm' := by
  have h12 := hu.a
  have hn := hu.n6
  obtain ⟨ha1, ha2⟩ := ha
  have hex : ∀ x, a + x ≤ uA u → (∃ e, a ≤ e ∧ e ≤ a + x ∧ (∀ y, a ≤ y → y < e → uT u y = t + 1) ∧ (e = a + x ∨ uT u e ≠ t + 1)) := by
    intro x
    induction x with
    | zero => intro _; exact ⟨a, Nat.le_refl _, by omega, fun y g1 g2 => by omega, Or.inl rfl⟩
    | succ x ih =>
      intro hx
      obtain ⟨e, e1, e2, e3, e4⟩ := ih (by omega)
      rcases e4 with e4 | e4
      · by_cases q : uT u e = t + 1
        · refine ⟨e + 1, by omega, by omega, fun y g1 g2 => ?_, Or.inl (by omega)⟩
          by_cases z : y = e
          · rw [z]; exact q
          · exact e3 y g1 (by omega)
        · exact ⟨e, e1, by omega, e3, Or.inr q⟩
      · exact ⟨e, e1, by omega, e3, Or.inr e4⟩
  obtain ⟨e, e1, e2, e3, e4⟩ := hex (uA u - a) (by omega)
  have he : e ≤ uA u := by omega
  have hA : AOk u (t + 1) e := ⟨he, fun i hi => by
    have hi' := ha2 i hi
    constructor
    · intro g
      by_cases z : i < a
      · have := hi'.mp z; omega
      · rw [e3 i (by omega) g]; exact Nat.le_refl _
    · intro g
      by_cases z : i < e
      · exact z
      · rcases e4 with e4 | e4
        · omega
        · by_cases ze : e < uA u
          · have m1 := hu.tm e i (by omega) hi
            have m2 := (ha2 e ze)
            have : ¬ uT u e ≤ t := fun y => by have := m2.mpr y; omega
            omega
          · omega⟩
  obtain ⟨m, hm⟩ : ∃ m, FU = m + 1 + (uA u - e) + (e - a) + a := ⟨FU - 1 - uA u, by have := FU_gt; omega⟩
  obtain ⟨m2, hm2⟩ : ∃ m, FU = m + 1 + (e - a) := ⟨FU - 1 - (e - a), by have := FU_gt; omega⟩
  obtain ⟨σ', σm', j1, j2, j3, j4⟩ := s_due (k := k) (p := p) (s := s) hu (by omega) (fun (σ8 : St) => some ((), σ8)) km he (e - a) a (m + 1 + (uA u - e)) (m2 + 1) σ σm (by omega) e3 h
  refine ⟨σ', σm', e, j1, hA, j2, ?_, ?_⟩
  · unfold fX4_hearTold
    obtain ⟨⟨d, ⟨P, hP, hB, hPu⟩, h1, -⟩, -⟩ := h
    rw [hm]
    have k1 := s_skip hu ht hP hB h1.1.1 (fun (σ8 : St) => some ((), σ8)) ha1 a 0 (m + 1 + (uA u - e) + (e - a)) (by omega) (fun y g1 g2 => by have := (ha2 y (by omega)).mp g2; omega)
    rw [nI_0] at k1
    rw [k1, j3]
    obtain ⟨⟨d', ⟨P', hP', hB', hPu⟩, h1', -⟩, -⟩ := j1
    rw [s_skip hu ht hP' hB' h1'.1.1 (fun (σ8 : St) => some ((), σ8)) (Nat.le_refl _) (uA u - e) e (m + 1) (by omega) (fun y g1 g2 z => by
      have := (hA.2 y g2).mpr (by omega); omega), LX4_hearTold_2, hP', gd_t hB'.1, hB'.2.2.2.2.2.1, if_pos (by rw [le_n (by omega) (by omega)]; exact Nat.le_refl _)]
  · rw [hm2, j4, LX8_tick_10]
    obtain ⟨⟨d', h0', h1', h2', h3', -⟩, hD', hM'⟩ := j1
    have h3'' : σm'.1 47 0 11 = nI e := h3'
    rw [gi_n (by omega) (by omega), gi_n (by omega) (by omega), cl (by omega), cl (by omega), hM'.2.2.2.2.1, h3'']
    by_cases z : uA u ≤ e
    · rw [if_pos (by rw [le_n (by omega) (by omega)]; exact z)]
    · have hT := (hu.t e (by omega)).2
      rw [if_neg (by rw [le_n (by omega) (by omega)]; exact z), gi_n (by omega) (by omega), add_n, gi_n (by omega) (by omega), gi_0 (by omega), cl (by omega), (hM'.2.2.2.2.2.2 e (by omega)).1, sb_cl0, h1'.1.2, if_neg]
      rw [eq_n (by omega) ht]
      rcases e4 with e4 | e4
      · omega
      · exact e4
