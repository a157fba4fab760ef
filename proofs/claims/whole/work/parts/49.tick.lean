/-! ===== an arbitration begins; the tick as a whole ===== -/
theorem Q5.fn {u : BU} {σ : St} {k t : Nat} {r : Nat → Int32} (ht : t < 2147483648) (h : Q5 u σ k r t) : ∃ ak sn : Nat → Nat, ∀ b, b < uN u → (σ.1 34 k b = nI (ak b) ∧ r (18 + 12 * b) = nI (ak b) ∧ ak b ≤ 99) ∧ σ.1 35 k b = nI (sn b) ∧ r (18 + 12 * b + 1) = nI (sn b) ∧ sn b ≤ t := by
  refine ⟨fun b => (σ.1 34 k b).toNatClampNeg, fun b => (σ.1 35 k b).toNatClampNeg, fun b hb => ?_⟩
  obtain ⟨⟨v, a1, a2, a3⟩, w, b1, b2, b3⟩ := h b hb
  simp only [a1, b1]
  rw [cl (by omega), cl (by omega)]
  exact ⟨⟨rfl, a2, a3⟩, rfl, b2, b3⟩
/-- those that ask -/
def asN (n : Nat) (ak : Nat → Nat) : Nat := bsN n (fun b => decide (0 < ak b))
theorem c_askers {σ : St} {k n : Nat} {ak : Nat → Nat} (hc : CP σ k n) (h : ∀ b, b < n → σ.1 34 k b = nI (ak b) ∧ ak b ≤ 99) : fX4_askers k σ = some (nI (asN n ak), σ) := by
  obtain ⟨c1, c2, c3⟩ := hc
  unfold fX4_askers asN
  obtain ⟨s, hs, e⟩ := lp0 (fun m i (s : Int32) => LX4_askers_4 k (fun (x5 : Int32) (σ6 : St) => some (x5, σ6)) m s (nI i) σ) (fun s => some (s, σ)) n (by omega) (fun i s => s = nI (bsN i (fun b => decide (0 < ak b)))) 0 rfl
    (fun m s _ => by
      rw [LX4_askers_4, gd_t c1, c2, if_pos (by rw [le_n (by omega) (by omega)]; exact Nat.le_refl _)])
    (fun m i s hi hI => by
      obtain ⟨a1, a2⟩ := h i hi
      refine ⟨_, rfl, ?_⟩
      rw [LX4_askers_4, gd_t c1, c2, if_neg (by rw [le_n (by omega) (by omega)]; omega), gi_n (by omega) (by omega), cl (by omega), a1, jnD, ltD, add_n, shl_1 (by omega), hI, or_n, bsN]
      by_cases q : 0 < ak i
      · rw [if_neg (by rw [le_0 (by omega)]; omega), if_pos (decide_eq_true q)]
      · rw [if_pos (by rw [le_0 (by omega)]; omega), if_neg (fun z => q (of_decide_eq_true z)), Nat.or_zero])
  rw [hs] at e
  exact e
theorem m_asking {σ : St} {n : Nat} {ak : Nat → Nat} (hn : n ≤ 6) (h3 : σ.1 44 0 3 = nI n) (h : ∀ b, b < n → σ.1 47 0 (18 + 12 * b) = nI (ak b) ∧ ak b ≤ 99) : fX8_askingOnes σ = some (nI (asN n ak), σ) := by
  unfold fX8_askingOnes asN
  obtain ⟨s, hs, e⟩ := lp0 (fun m i (s : Int32) => LX8_askingOnes_4 (fun (x5 : Int32) (σ6 : St) => some (x5, σ6)) m s (nI i) σ) (fun s => some (s, σ)) n (by omega) (fun i s => s = nI (bsN i (fun b => decide (0 < ak b)))) 0 rfl
    (fun m s _ => by
      rw [LX8_askingOnes_4, gi_n (by omega) (by omega), cl (by omega), h3, if_pos (by rw [le_n (by omega) (by omega)]; exact Nat.le_refl _)])
    (fun m i s hi hI => by
      obtain ⟨a1, a2⟩ := h i hi
      refine ⟨_, rfl, ?_⟩
      rw [LX8_askingOnes_4, gi_n (by omega) (by omega), cl (by omega), h3, if_neg (by rw [le_n (by omega) (by omega)]; omega), at8_0, gi_n (by omega) (by omega), cl (by omega), a1, ltD, add_n, shl_1 (by omega), hI, bsN]
      by_cases q : 0 < ak i
      · rw [if_neg (by rw [le_0 (by omega)]; omega), if_pos (decide_eq_true q), or_n]
      · rw [if_pos (by rw [le_0 (by omega)]; omega), if_neg (fun z => q (of_decide_eq_true z)), Nat.or_zero, or_0])
  rw [hs] at e
  exact e
theorem exN_ex {f : Nat → Bool} : ∀ {n : Nat}, exN n f = true → ∃ b, b < n ∧ f b = true := by
  intro n
  induction n with
  | zero => intro h; cases h
  | succ n ih =>
    intro h
    rw [exN, Bool.or_eq_true] at h
    rcases h with h | h
    · obtain ⟨b, b1, b2⟩ := ih h
      exact ⟨b, by omega, b2⟩
    · exact ⟨n, by omega, h⟩
theorem asN_ne {n b : Nat} {ak : Nat → Nat} (hb : b < n) (h : 0 < ak b) : asN n ak ≠ 0 := by
  intro z
  have : (asN n ak).testBit b = true := by
    unfold asN
    rw [bsN_bit, decide_eq_true hb, decide_eq_true h]
    rfl
  rw [z, Nat.zero_testBit] at this
  cases this
/-- is an arbitration called for? both sides say the same -/
theorem s_called {u : BU} {σ σm : St} {k t p s a : Nat} (hu : UOk u) (ht : t < 2147483648) (h : TS u σ k σm t p s a) : ∃ x : Int32, fX4_isContested k σ = some (x, σ) ∧ fX8_isCalledFor σm = some (x, σm) ∧ (x = 0 ∨ x = nI 1 ∧ ∃ ak : Nat → Nat, asN (uN u) ak ≠ 0 ∧ ∀ b, b < uN u → (σ.1 34 k b = nI (ak b) ∧ σm.1 47 0 (18 + 12 * b) = nI (ak b) ∧ ak b ≤ 99)) := by
  have hn := hu.n6
  obtain ⟨⟨d, ⟨P, hP, hB, hPu⟩, h1, h2, h3, h4, h5, h6, h7, h8, h9, h10, h11⟩, hD, hM⟩ := h
  obtain ⟨-, -, -, ⟨e1, e2⟩, -⟩ := h1
  obtain ⟨ak, sn, hak⟩ := h5.fn ht
  obtain ⟨w, μ, w1, w2, w3⟩ := h7
  have hCP : CP σ k (uN u) := ⟨by rw [hP]; exact hB.1, by rw [hP]; exact hB.2.2.2.2.1, hn⟩
  have ca := c_askers hCP (fun b hb => ⟨(hak b hb).1.1, (hak b hb).1.2.2⟩)
  have ma := m_asking hn hM.2.2.2.1 (fun b hb => ⟨(hak b hb).1.2.1, (hak b hb).1.2.2⟩)
  have hA64 : asN (uN u) ak < 64 := bsN_64 hn _
  have hak' : ∀ b, b < uN u → (σ.1 34 k b = nI (ak b) ∧ σm.1 47 0 (18 + 12 * b) = nI (ak b) ∧ ak b ≤ 99) := fun b hb => (hak b hb).1
  have cr : ∀ b, b < uN u → fX4_rankOfDay k (nI b) σ = some (nI (rkD w (uR u) (uN u) b), σ) := fun b hb => c_rank σ k (uN u) b w μ (uR u) hb hCP w1 w2 (fun o ho => (w3 o ho).1) (fun o ho => by rw [hP]; exact (hB.2.2.2.2.2.2.1 o ho).2.2.1) hu.r
  have mr : ∀ b, b < uN u → fX8_rankOf (nI b) σm = some (nI (rkD w (uR u) (uN u) b), σm) := fun b hb => m_rank σm w (uN u) μ (uR u) hn hM.2.2.2.1 w1 (fun b hb => by have := w2 b hb; omega) (fun o ho => (w3 o ho).2) (fun o ho => (hM.2.2.2.2.2.1 o ho).2.2) hu.r hb
  have hr7 : ∀ b, rkD w (uR u) (uN u) b ≤ 7 := fun b => mxN_leM hu.r
  unfold fX4_isContested fX8_isCalledFor
  rw [ma, bdS, gi_n (by omega) (by omega), cl (by omega), e1]
  obtain ⟨o, o1, o2⟩ := e2
  cases o with
  | none =>
    rw [o1, wv_none, if_pos rfl, if_pos rfl, ca, bdS, rz_ifn, rz_ifn]
    refine ⟨_, rfl, rfl, ?_⟩
    by_cases q : asN (uN u) ak = 0
    · rw [if_pos (by rw [eq_0 (by omega)]; exact q)]; exact Or.inl rfl
    · rw [if_neg (by rw [eq_0 (by omega)]; exact q)]; exact Or.inr ⟨rfl, ak, q, hak'⟩
  | some e =>
    have he := o2 e rfl
    have ne : ¬ nI e = -2 := by rw [nm2 (by omega)]; exact id
    rw [o1, wv_some, if_neg ne, if_neg ne, cr e he, bdS]
    have hre := hr7 e
    have L1 := lpX0 (fun m i => LX4_isContested_33 k (nI (rkD w (uR u) (uN u) e)) (fun (σ7 : St) => some (0, σ7)) m (nI i) σ) (some (0, σ)) (some (nI 1, σ)) (fun b => decide (0 < ak b ∧ rkD w (uR u) (uN u) e < rkD w (uR u) (uN u) b)) (uN u) (by omega)
      (fun m => by
        rw [LX4_isContested_33, gd_t hCP.1, hCP.2.1, if_pos (by rw [le_n (by omega) (by omega)]; exact Nat.le_refl _)])
      (fun m i hi => by
        obtain ⟨a1, a2, a3⟩ := hak' i hi
        have hri := hr7 i
        rw [LX4_isContested_33, gd_t hCP.1, hCP.2.1, if_neg (by rw [le_n (by omega) (by omega)]; omega), gi_n (by omega) (by omega), cl (by omega), a1, jnD, cr i hi, bdS, add_n]
        by_cases q : 0 < ak i
        · rw [if_neg (by rw [le_0 (by omega)]; omega)]
          by_cases q2 : rkD w (uR u) (uN u) e < rkD w (uR u) (uN u) i
          · rw [if_neg (by rw [le_n (by omega) (by omega)]; omega), if_pos (decide_eq_true ⟨q, q2⟩)]
          · rw [if_pos (by rw [le_n (by omega) (by omega)]; omega), if_neg (fun z => q2 (of_decide_eq_true z).2)]
        · rw [if_pos (by rw [le_0 (by omega)]; omega), if_neg (fun z => q (of_decide_eq_true z).1)])
    have L2 := lpX0 (fun m i => LX8_isCalledFor_28 (nI (asN (uN u) ak)) (fun (σ8 : St) => some (0, σ8)) m (nI i) σm) (some (0, σm)) (some (nI 1, σm)) (fun b => decide (0 < ak b ∧ rkD w (uR u) (uN u) e < rkD w (uR u) (uN u) b)) (uN u) (by omega)
      (fun m => by
        rw [LX8_isCalledFor_28, gi_n (by omega) (by omega), cl (by omega), hM.2.2.2.1, if_pos (by rw [le_n (by omega) (by omega)]; exact Nat.le_refl _)])
      (fun m i hi => by
        obtain ⟨a1, a2, a3⟩ := hak' i hi
        have hri := hr7 i
        have hbit : (asN (uN u) ak).testBit i = decide (0 < ak i) := by unfold asN; rw [bsN_bit, decide_eq_true hi]; rfl
        rw [LX8_isCalledFor_28, gi_n (by omega) (by omega), cl (by omega), hM.2.2.2.1, if_neg (by rw [le_n (by omega) (by omega)]; omega), jnD, has8 (by omega) (by omega), hbit, mr i hi, bdS, gi_n (by omega) (by omega), o1, wv_some, mr e he, bdS, add_n]
        by_cases q : 0 < ak i
        · rw [if_pos (decide_eq_true q), if_neg (by decide)]
          by_cases q2 : rkD w (uR u) (uN u) e < rkD w (uR u) (uN u) i
          · rw [if_neg (by rw [le_n (by omega) (by omega)]; omega), if_pos (decide_eq_true ⟨q, q2⟩)]
          · rw [if_pos (by rw [le_n (by omega) (by omega)]; omega), if_neg (fun z => q2 (of_decide_eq_true z).2)]
        · rw [if_neg (fun z => q (of_decide_eq_true z)), if_pos rfl, if_neg (fun z => q (of_decide_eq_true z).1)])
    rw [nI_0] at L1 L2
    rw [L1, L2]
    by_cases q : exN (uN u) (fun b => decide (0 < ak b ∧ rkD w (uR u) (uN u) e < rkD w (uR u) (uN u) b)) = true
    · rw [if_pos q, if_pos q]
      obtain ⟨b, b1, b2⟩ := exN_ex q
      exact ⟨nI 1, rfl, rfl, Or.inr ⟨rfl, ak, asN_ne b1 (of_decide_eq_true b2).1, hak'⟩⟩
    · rw [if_neg q, if_neg q]
      exact ⟨0, rfl, rfl, Or.inl rfl⟩
/-- the model lays the words aside as an arbitration begins -/
theorem m_begins {u : BU} {σ : St} {w : Nat → Option Nat} {μ tu : Nat → Nat} (hu : UOk u) (h : MW σ w (uN u) μ (uR u) tu (uC u)) (ke : St → Option (Unit × St)) :
    ∃ s', ((∀ j, ¬ (18 ≤ j ∧ j < 90 ∧ ((j - 18) % 12 = 4 ∨ (j - 18) % 12 = 5)) → s'.1 47 0 j = σ.1 47 0 j) ∧ (∀ a b, a ≠ 47 → s'.1 a b = σ.1 a b) ∧ ∀ b, b < uN u → s'.1 47 0 (18 + 12 * b + 4) = nI (wd1 w (uR u) tu (uN u) b) ∧ s'.1 47 0 (18 + 12 * b + 5) = nI (wd2 (uC u) b)) ∧ LX8_beginsArbitration_33 ke FU 0 σ = ke s' := by
  have hn := hu.n6
  have key : ∀ s' : St, (∀ j, ¬ (18 ≤ j ∧ j < 90 ∧ ((j - 18) % 12 = 4 ∨ (j - 18) % 12 = 5)) → s'.1 47 0 j = σ.1 47 0 j) → (∀ a b, a ≠ 47 → s'.1 a b = σ.1 a b) → MW s' w (uN u) μ (uR u) tu (uC u) := by
    intro s' k1 k2
    obtain ⟨g1, g2, g3, g4, g5, g6, g7, g8⟩ := h
    have e44 := k2 44 0 (by omega)
    refine ⟨g1, by rw [e44]; exact g2, g3, g4, fun b hb => ?_, fun b hb => by rw [e44]; exact g6 b hb, fun b hb => ?_, fun b hb => by rw [e44]; exact g8 b hb⟩
    · rw [k1 _ (by omega)]; exact g5 b hb
    · rw [k1 _ (by omega)]; exact g7 b hb
  obtain ⟨s', hs', e⟩ := lp0 (fun m i (s : St) => LX8_beginsArbitration_33 ke m (nI i) s) (fun s => ke s) (uN u) (by omega)
    (fun i s' => (∀ j, ¬ (18 ≤ j ∧ j < 90 ∧ ((j - 18) % 12 = 4 ∨ (j - 18) % 12 = 5)) → s'.1 47 0 j = σ.1 47 0 j) ∧ (∀ a b, a ≠ 47 → s'.1 a b = σ.1 a b) ∧ ∀ b, b < i → s'.1 47 0 (18 + 12 * b + 4) = nI (wd1 w (uR u) tu (uN u) b) ∧ s'.1 47 0 (18 + 12 * b + 5) = nI (wd2 (uC u) b)) σ ⟨fun _ _ => rfl, fun _ _ _ => rfl, fun b hb => by omega⟩
    (fun m s hI => by
      have hw := key s hI.1 hI.2.1
      rw [LX8_beginsArbitration_33, gi_n (by omega) (by omega), cl (by omega), hw.2.1, if_pos (by rw [le_n (by omega) (by omega)]; exact Nat.le_refl _)])
    (fun m i s hi hI => by
      obtain ⟨i1, i2, i3⟩ := hI
      have hw := key s i1 i2
      have hw' := key (wI s 47 0 (18 + 12 * i + 4) (nI (wd1 w (uR u) tu (uN u) i))) (fun j z => (wIj (by omega)).trans (i1 j z)) (fun x y z => (wIc z).trans (i2 x y z))
      rw [LX8_beginsArbitration_33, gi_n (by omega) (by omega), cl (by omega), hw.2.1, if_neg (by rw [le_n (by omega) (by omega)]; omega), m_word1 hw hi, bdS, at8, at8, gi_n (by omega) (by omega), cl (by omega), ltD, m_word2 hw' hi, bdS, gi_n (by omega) (by omega), cl (by omega), ltD, add_n]
      refine ⟨_, ⟨fun j z => ?_, fun x y z => ?_, fun b hb => ?_⟩, rfl⟩
      · rw [wIj (by omega), wIj (by omega)]; exact i1 j z
      · rw [wIc z, wIc z]; exact i2 x y z
      · by_cases z : b = i
        · subst z
          rw [wIj (by omega), wIe (by omega), wIe (by omega)]
          exact ⟨rfl, rfl⟩
        · rw [wIj (by omega), wIj (by omega), wIj (by omega), wIj (by omega)]
          exact i3 b (by omega))
  exact ⟨s', hs', e⟩
theorem s_begin {u : BU} {σ σm : St} {k t p s a : Nat} {ak : Nat → Nat} (hu : UOk u) (ht : t < 1000000000) (h : TS u σ k σm t p s a) (hA0 : asN (uN u) ak ≠ 0) (hak : ∀ b, b < uN u → (σ.1 34 k b = nI (ak b) ∧ σm.1 47 0 (18 + 12 * b) = nI (ak b) ∧ ak b ≤ 99)) :
    ∃ σ' σm', fX4_begin k σ = some ((), σ') ∧ fX8_beginsArbitration σm = some ((), σm') ∧ TS u σ' k σm' t p s a ∧ M8 σm σm' := by
  have hn := hu.n6
  obtain ⟨⟨d, ⟨P, hP, hB, hPu⟩, h1, h2, h3, h4, h5, h6, h7, h8, h9, h10, h11⟩, hD, hM⟩ := h
  have h7' := h7
  have h6' := h6
  obtain ⟨⟨t1, t2⟩, ⟨m1, m2⟩, ⟨l1, l2⟩, ⟨e1, e2⟩, g4, g5, C, c1, c2, c3⟩ := h1
  obtain ⟨w, μ, w1, w2, w3⟩ := h7
  obtain ⟨fr, f1, f2, f3⟩ := h6
  have hp64 : 2 ^ uN u ≤ 64 := Nat.pow_le_pow_right (n := 2) (by omega) hn
  have hwin := hu.w
  have hCP : CP σ k (uN u) := ⟨by rw [hP]; exact hB.1, by rw [hP]; exact hB.2.2.2.2.1, hn⟩
  have ca := c_askers hCP (fun b hb => ⟨(hak b hb).1, (hak b hb).2.2⟩)
  -- the class
  have z5 : ∀ x y c, ¬ x = 4 → (wI (wI σ 4 k 7 (nI (asN (uN u) ak))) 4 k 6 (nI (t + 2 * uW u))).1 x y c = σ.1 x y c := fun x y c z => by rw [wIj (by omega), wIj (by omega)]
  have z4 : ∀ j, j ≠ 6 → j ≠ 7 → (wI (wI σ 4 k 7 (nI (asN (uN u) ak))) 4 k 6 (nI (t + 2 * uW u))).1 4 k j = σ.1 4 k j := fun j y1 y2 => by rw [wIj (by omega), wIj (by omega)]
  have z6 : (wI (wI σ 4 k 7 (nI (asN (uN u) ak))) 4 k 6 (nI (t + 2 * uW u))).1 4 k 6 = nI (t + 2 * uW u) := wIe (by omega)
  have z7 : (wI (wI σ 4 k 7 (nI (asN (uN u) ak))) 4 k 6 (nI (t + 2 * uW u))).1 4 k 7 = nI (asN (uN u) ak) := by rw [wIj (by omega), wIe (by omega)]
  have zP : (wI (wI σ 4 k 7 (nI (asN (uN u) ak))) 4 k 6 (nI (t + 2 * uW u))).2.2 4 k 1 = P := hP
  generalize hσ5 : wI (wI σ 4 k 7 (nI (asN (uN u) ak))) 4 k 6 (nI (t + 2 * uW u)) = σ5 at z5 z4 z6 z7 zP
  obtain ⟨σ6, y1, y2, y3⟩ := c_words (σ := σ5) (k := k) (n := uN u) (fr := fr) (w := w) (μ := μ) (rk := uR u) ⟨by rw [zP]; exact hB.1, by rw [zP, z5 _ _ _ (by omega)]; exact hB.2.2.2.2.1, hn⟩ w1 w2 (fun o ho => by rw [z5 _ _ _ (by omega)]; exact (w3 o ho).1) (fun o ho => by rw [zP, z5 _ _ _ (by omega)]; exact (hB.2.2.2.2.2.2.1 o ho).2.2.1) hu.r (by rw [z4 8 (by omega) (by omega)]; exact f1) (by omega)
  have ec : fX4_begin k σ = some ((), wA σ6 32 k (va_cpy (σ6.1 31 k) (σ6.1 32 k) ((0 : Int32).toNatClampNeg) ((0 : Int32).toNatClampNeg) ((nI 6).toNatClampNeg))) := by
    unfold fX4_begin
    rw [ca, bdS, ltD]
    have p1 : (wI σ 4 k 7 (nI (asN (uN u) ak))).2.2 4 k 1 = P := hP
    have p2 : (wI σ 4 k 7 (nI (asN (uN u) ak))).1 4 k 2 = nI t := (wIj (by omega)).trans t1
    have p3 : (wI σ 4 k 7 (nI (asN (uN u) ak))).1 2 P 2 = nI (uW u) := (wIj (by omega)).trans hB.2.2.2.1
    rw [p1, gd_t hB.1, p2, p3, mul_n, add_n, ltD, hσ5, y1, bdS, gd_t (by decide), ltD]
  -- the model
  have mW : MW (wI (wI σm 47 0 4 (nI (t + 2 * uW u))) 47 0 5 (nI (asN (uN u) ak))) w (uN u) μ (uR u) (tuN fr) (uC u) := by
    have e44 : (wI (wI σm 47 0 4 (nI (t + 2 * uW u))) 47 0 5 (nI (asN (uN u) ak))).1 44 0 = σm.1 44 0 := by rw [wIc (by omega), wIc (by omega)]
    refine ⟨hn, by rw [e44]; exact hM.2.2.2.1, w1, w2, fun b hb => ?_, fun b hb => by rw [e44]; exact ⟨(hM.2.2.2.2.2.1 b hb).2.2, hu.r b hb⟩, fun b hb => ⟨?_, tuN_le _ _⟩, fun b hb => by rw [e44]; exact ⟨(hM.2.2.2.2.2.1 b hb).2.1, (hu.c b hb).2⟩⟩
    · rw [wIj (by omega), wIj (by omega)]; exact (w3 b hb).2
    · rw [wIj (by omega), wIj (by omega)]; exact f3 b hb
  obtain ⟨sm, ⟨b1, b2, b3⟩, be⟩ := m_begins hu mW (fun (σ11 : St) => some ((), σ11))
  have em : fX8_beginsArbitration σm = some ((), sm) := by
    unfold fX8_beginsArbitration
    have p1 : (wI σm 47 0 4 (nI (t + 2 * uW u))).1 44 0 3 = nI (uN u) := (wIj (by omega)).trans hM.2.2.2.1
    have ma := m_asking hn p1 (ak := ak) (fun b hb => ⟨(wIj (by omega)).trans (hak b hb).2.1, (hak b hb).2.2⟩)
    rw [gi_0 (by omega), gi_n (by omega) (by omega), gi_n (by omega) (by omega), sb_cl0, t2, cl (show 2 < 2147483648 by omega), hM.2.2.1, mul_n, add_n, cl (by omega), ltD, ma, bdS, gi_n (by omega) (by omega), cl (by omega), ltD, be]
  refine ⟨_, sm, ec, em, ?_⟩
  have e6 : ∀ x y, ¬ (x = 31) → σ6.1 x y = σ5.1 x y := fun x y z => kpc y2 x y (by simp; omega)
  have e32 : ∀ x y, ¬ (x = 32) → (wA σ6 32 k (va_cpy (σ6.1 31 k) (σ6.1 32 k) ((0 : Int32).toNatClampNeg) ((0 : Int32).toNatClampNeg) ((nI 6).toNatClampNeg))).1 x y = σ6.1 x y := fun x y z => by rw [rA, if_neg (fun q => z q.1)]
  have FA : ∀ x y, ¬ (x = 4 ∨ x = 31 ∨ x = 32) → (wA σ6 32 k (va_cpy (σ6.1 31 k) (σ6.1 32 k) ((0 : Int32).toNatClampNeg) ((0 : Int32).toNatClampNeg) ((nI 6).toNatClampNeg))).1 x y = σ.1 x y := fun x y z => by
    rw [e32 x y (by omega), e6 x y (by omega)]
    funext c
    exact z5 x y c (by omega)
  have F4 : ∀ j, (wA σ6 32 k (va_cpy (σ6.1 31 k) (σ6.1 32 k) ((0 : Int32).toNatClampNeg) ((0 : Int32).toNatClampNeg) ((nI 6).toNatClampNeg))).1 4 k j = σ5.1 4 k j := fun j => by rw [e32 4 k (by omega), e6 4 k (by omega)]
  have FP : (wA σ6 32 k (va_cpy (σ6.1 31 k) (σ6.1 32 k) ((0 : Int32).toNatClampNeg) ((0 : Int32).toNatClampNeg) ((nI 6).toNatClampNeg))).2.2 4 k 1 = P := by
    show σ6.2.2 4 k 1 = P
    rw [kpr y2 4 k rfl]; exact zP
  have F32 : ∀ b, b < uN u → (wA σ6 32 k (va_cpy (σ6.1 31 k) (σ6.1 32 k) ((0 : Int32).toNatClampNeg) ((0 : Int32).toNatClampNeg) ((nI 6).toNatClampNeg))).1 32 k b = nI (wd1 w (uR u) (tuN fr) (uN u) b) := fun b hb => by
    rw [rA, if_pos ⟨rfl, rfl⟩, cpy6 _ _ (by omega)]; exact y3 b hb
  have FR : ∀ j, ¬ (j = 4 ∨ j = 5 ∨ 18 ≤ j ∧ j < 90 ∧ ((j - 18) % 12 = 4 ∨ (j - 18) % 12 = 5)) → sm.1 47 0 j = σm.1 47 0 j := fun j z => by rw [b1 j (by omega), wIj (by omega), wIj (by omega)]
  have R4 : sm.1 47 0 4 = nI (t + 2 * uW u) := by rw [b1 4 (by omega), wIj (by omega), wIe (by omega)]
  have R5 : sm.1 47 0 5 = nI (asN (uN u) ak) := by rw [b1 5 (by omega), wIe (by omega)]
  have FM : ∀ x y, x ≠ 47 → sm.1 x y = σm.1 x y := fun x y z => by rw [b2 x y z, wIc z, wIc z]
  generalize wA σ6 32 k (va_cpy (σ6.1 31 k) (σ6.1 32 k) ((0 : Int32).toNatClampNeg) ((0 : Int32).toNatClampNeg) ((nI 6).toNatClampNeg)) = σ' at FA F4 FP F32
  refine ⟨⟨⟨d, ⟨P, FP, hB.fr (fun x y z => FA x y (by omega)), hPu⟩, ?_, h2.fr (FA 5 k (by omega)) (fun j y1 y2 => FR j (by omega)) (Nat.le_refl _), h3.fr (FR 11 (by omega)), h4.fr (FA 33 k (by omega)) (fun j y1 y2 => FR j (by omega)), h5.fr (fun x z => FA x k (by omega)) (fun b z j y2 => FR _ (by omega)) (Nat.le_refl _), h6'.fr (by rw [F4, z4 8 (by omega) (by omega)]) (fun b z => FR _ (by omega)), h7'.fr (FA 36 k (by omega)) (fun b z => FR _ (by omega)), fun _ b hb => ⟨_, (wd1_lt hu.r (tuN_le _ _)).1, F32 b hb, (b3 b hb).1, (b3 b hb).2⟩, h9.fr (fun b z => FA 38 _ (by omega)) (fun b z j y2 => FR _ (by omega)) (Nat.le_refl _), h10.fr (fun x z => FA 40 _ (by omega)) (fun j y1 y2 => FR _ (by omega)), h11.fr (FA 41 k (by omega)) (fun j z => FR _ (by omega))⟩, hD.fr (by rw [FA 1 0 (by omega)]) (fun o => FA 22 o (by omega)), hM.fr (FM 44 0 (by omega))⟩, fun j _ _ _ _ _ => by rw [FM 8 0 (by omega)]⟩
  refine ⟨⟨?_, ?_⟩, ⟨?_, ?_⟩, ⟨?_, ?_⟩, ⟨?_, ?_⟩, ?_, ?_, asN (uN u) ak, R5, bsN_lt _ _, fun _ => hA0⟩
  · rw [F4, z4 2 (by omega) (by omega)]; exact t1
  · rw [FR 0 (by omega)]; exact t2
  · rw [F4, z4 3 (by omega) (by omega), FR 1 (by omega)]; exact m1
  · rw [FR 1 (by omega)]; exact m2
  · rw [F4, z4 4 (by omega) (by omega), FR 2 (by omega)]; exact l1
  · rw [FR 1 (by omega), FR 2 (by omega)]; exact l2
  · rw [F4, z4 5 (by omega) (by omega), FR 3 (by omega)]; exact e1
  · rw [FR 3 (by omega)]; exact e2
  · rw [F4, z6, R4]
  · rw [F4, z7, R5]
