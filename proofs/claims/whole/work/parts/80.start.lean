/-! ===== a run begins, on both sides ===== -/
def FX (σ σ' : St) (c k : Nat) (v : Int32) : Prop := (∀ j, j < aln c → σ'.1 c k j = v) ∧ (∀ x y, ¬ (x = c ∧ y = k) → σ'.1 x y = σ.1 x y) ∧ σ'.2 = σ.2
theorem c_fill {σ : St} {c k : Nat} (v : Int32) (ha : aln c ≤ 90000) : ∃ σ', fJ7_fill_53178 c k v σ = some ((), σ') ∧ FX σ σ' c k v := by
  unfold fJ7_fill_53178
  rw [ltD]
  obtain ⟨s, ⟨i1, i2, i3⟩, e⟩ := lp0 (fun m i (s : St) => LJ7_fill_53178_5 c k v (nI (aln c)) (fun (σ3 : St) => some ((), σ3)) m (nI i) s) (fun s => some ((), s)) (aln c) ha (fun i s => (∀ j, j < i → s.1 c k j = v) ∧ (∀ x y, ¬ (x = c ∧ y = k) → s.1 x y = σ.1 x y) ∧ s.2 = σ.2) σ ⟨fun j hj => absurd hj (Nat.not_lt_zero j), fun _ _ _ => rfl, rfl⟩
    (fun m s _ => by
      rw [LJ7_fill_53178_5, if_pos (by rw [le_n (by omega) (by omega)]; exact Nat.le_refl _)])
    (fun m i s hi hI => by
      obtain ⟨j1, j2, j3⟩ := hI
      rw [LJ7_fill_53178_5, if_neg (by rw [le_n (by omega) (by omega)]; omega), gi_n hi (by omega), ltD, cl (by omega), add_n]
      refine ⟨_, ⟨fun j hj => ?_, fun x y z => (wIk z).trans (j2 x y z), j3⟩, rfl⟩
      by_cases q : j = i
      · rw [wIe (by omega)]
      · rw [wIj (by omega)]; exact j1 j (by omega))
  rw [nI_0] at e
  exact ⟨s, e, i1, i2, i3⟩
def FS (σ σ' : St) : Prop := (∀ x y, ¬ ((x = 4 ∨ x = 5 ∨ 32 ≤ x ∧ x ≤ 36 ∨ x = 41) ∧ y = 0) → ¬ (x = 38 ∧ y < 6) → ¬ (x = 40 ∧ y < 16) → σ'.1 x y = σ.1 x y) ∧ σ'.2.1 = σ.2.1 ∧ ∀ a b c, ¬ (a = 4 ∧ b = 0 ∧ c = 1) → σ'.2.2 a b c = σ.2.2 a b c
/-- the class's run 0 at its start -/
def C0 (σ : St) (P n : Nat) : Prop := σ.2.2 4 0 1 = P ∧ (σ.1 4 0 2 = 0 ∧ σ.1 4 0 3 = -2 ∧ σ.1 4 0 4 = -2 ∧ σ.1 4 0 5 = -2 ∧ σ.1 4 0 6 = -2 ∧ σ.1 4 0 7 = 0 ∧ σ.1 4 0 8 = nI (2 ^ n - 1)) ∧ (σ.1 5 0 0 = 0 ∧ σ.1 5 0 1 = 0 ∧ σ.1 5 0 2 = 0 ∧ σ.1 5 0 3 = 0 ∧ σ.1 5 0 4 = 0) ∧ (∀ j, j < 6 → σ.1 33 0 j = 0 ∧ σ.1 34 0 j = 0 ∧ σ.1 35 0 j = 0 ∧ σ.1 36 0 j = -2) ∧ ∀ b, b < 6 → ∀ j, j < 6 → σ.1 38 b j = if j = 4 then -2 else 0
theorem c_s5 {σ : St} : ∃ σ', fX5_start 0 σ = some ((), σ') ∧ (σ'.1 5 0 0 = 0 ∧ σ'.1 5 0 1 = 0 ∧ σ'.1 5 0 2 = 0 ∧ σ'.1 5 0 3 = 0 ∧ σ'.1 5 0 4 = 0) ∧ (∀ b, b < 6 → ∀ j, j < 6 → σ'.1 38 b j = if j = 4 then -2 else 0) ∧ (∀ x y, ¬ ((x = 5 ∨ x = 41) ∧ y = 0) → ¬ (x = 38 ∧ y < 6) → ¬ (x = 40 ∧ y < 16) → σ'.1 x y = σ.1 x y) ∧ σ'.2 = σ.2 := by
  unfold fX5_start
  simp only [ltD]
  generalize hw : wI (wI (wI (wI (wI σ 5 0 0 0) 5 0 1 0) 5 0 2 0) 5 0 3 0) 5 0 4 0 = σa
  have a5 : σa.1 5 0 0 = 0 ∧ σa.1 5 0 1 = 0 ∧ σa.1 5 0 2 = 0 ∧ σa.1 5 0 3 = 0 ∧ σa.1 5 0 4 = 0 := by
    rw [← hw]
    refine ⟨?_, ?_, ?_, ?_, ?_⟩
    · rw [wIj (by omega), wIj (by omega), wIj (by omega), wIj (by omega), wIe (by omega)]
    · rw [wIj (by omega), wIj (by omega), wIj (by omega), wIe (by omega)]
    · rw [wIj (by omega), wIj (by omega), wIe (by omega)]
    · rw [wIj (by omega), wIe (by omega)]
    · rw [wIe (by omega)]
  have af : ∀ x y, ¬ (x = 5 ∧ y = 0) → σa.1 x y = σ.1 x y := fun x y z => by rw [← hw, wIk z, wIk z, wIk z, wIk z, wIk z]
  have a2 : σa.2 = σ.2 := by rw [← hw]; rfl
  obtain ⟨s1, ⟨i1, i2, i3⟩, e1⟩ := lp0 (fun m i (s : St) => LX5_start_27 0 (fun (σ10 : St) => (LX5_start_61 0 (fun (σ13 : St) => bd (fJ7_fill_53178 41 0 (-2) σ13) fun _ (σ14 : St) => some ((), σ14)) FU 0 σ10)) m (nI i) s) (fun σ10 => (LX5_start_61 0 (fun (σ13 : St) => bd (fJ7_fill_53178 41 0 (-2) σ13) fun _ (σ14 : St) => some ((), σ14)) FU 0 σ10)) 6 (by omega) (fun i s => (∀ b, b < i → ∀ j, j < 6 → s.1 38 b j = if j = 4 then -2 else 0) ∧ (∀ x y, ¬ (x = 38 ∧ y < 6) → s.1 x y = σa.1 x y) ∧ s.2 = σa.2) σa ⟨fun j hj => absurd hj (Nat.not_lt_zero j), fun _ _ _ => rfl, rfl⟩
    (fun m s _ => by
      rw [LX5_start_27, if_pos (by rw [le_n (by omega) (by omega)]; exact Nat.le_refl _)])
    (fun m i s hi hI => by
      obtain ⟨j1, j2, j3⟩ := hI
      obtain ⟨s', f1, f2, f3, f4⟩ := c_fill (σ := s) (c := 38) (k := i) 0 (by decide)
      rw [LX5_start_27, if_neg (by rw [le_n (by omega) (by omega)]; omega), gi_n (by omega) (by omega), cl (by omega), show 6 * 0 + i = i by omega, f1, bdS, gi_n (by omega) (by omega), gi_n (by omega) (by omega), cl (by omega), ltD, add_n]
      refine ⟨_, ⟨fun b hb j hj => ?_, fun x y z => ?_, ?_⟩, rfl⟩
      · by_cases q : b = i
        · subst q
          by_cases g : j = 4
          · rw [wIe (by omega), if_pos g]
          · rw [wIj (by omega), if_neg g]; exact f2 j hj
        · rw [wIj (by omega), f3 38 b (by omega)]; exact j1 b (by omega) j hj
      · rw [wIk (by omega), f3 x y (by omega)]; exact j2 x y z
      · show s'.2 = _
        rw [f4]; exact j3)
  obtain ⟨s2, ⟨k2, k3⟩, e2⟩ := lp0 (fun m i (s : St) => LX5_start_61 0 (fun (σ13 : St) => bd (fJ7_fill_53178 41 0 (-2) σ13) fun _ (σ14 : St) => some ((), σ14)) m (nI i) s) (fun σ13 => bd (fJ7_fill_53178 41 0 (-2) σ13) fun _ (σ14 : St) => some ((), σ14)) 16 (by omega) (fun i s => (∀ x y, ¬ (x = 40 ∧ y < 16) → s.1 x y = s1.1 x y) ∧ s.2 = s1.2) s1 ⟨fun _ _ _ => rfl, rfl⟩
    (fun m s _ => by
      rw [LX5_start_61, if_pos (by rw [le_n (by omega) (by omega)]; exact Nat.le_refl _)])
    (fun m i s hi hI => by
      obtain ⟨j2, j3⟩ := hI
      obtain ⟨s', f1, f2, f3, f4⟩ := c_fill (σ := s) (c := 40) (k := i) 0 (by decide)
      rw [LX5_start_61, if_neg (by rw [le_n (by omega) (by omega)]; omega), gi_n (by omega) (by omega), cl (by omega), show 16 * 0 + i = i by omega, f1, bdS, add_n]
      exact ⟨s', ⟨fun x y z => (f3 x y (by omega)).trans (j2 x y z), f4.trans j3⟩, rfl⟩)
  obtain ⟨s3, f1, f2, f3, f4⟩ := c_fill (σ := s2) (c := 41) (k := 0) (-2) (by decide)
  rw [nI_0] at e1 e2
  have es : ∀ x y, ¬ (x = 41 ∧ y = 0) → ¬ (x = 38 ∧ y < 6) → ¬ (x = 40 ∧ y < 16) → s3.1 x y = σa.1 x y := fun x y z1 z2 z3 => by rw [f3 x y z1, k2 x y z3, i2 x y z2]
  refine ⟨s3, ?_, ?_, fun b hb j hj => ?_, fun x y z1 z2 z3 => ?_, ?_⟩
  · rw [e1, e2, f1, bdS]
  · rw [es 5 0 (by omega) (by omega) (by omega)]; exact a5
  · rw [f3 38 b (by omega), k2 38 b (by omega)]; exact i1 b hb j hj
  · rw [es x y (by omega) z2 z3]; exact af x y (by omega)
  · rw [f4, k3, i3, a2]
theorem wRe {σ : St} {a b c v : Nat} : (wR σ a b c v).2.2 a b c = v := by
  show (if a = a ∧ b = b ∧ c = c then v else σ.2.2 a b c) = v
  exact if_pos ⟨rfl, rfl, rfl⟩
theorem wRo {σ : St} {a b c v x y z : Nat} (h : ¬ (x = a ∧ y = b ∧ z = c)) : (wR σ a b c v).2.2 x y z = σ.2.2 x y z := by
  show (if x = a ∧ y = b ∧ z = c then v else σ.2.2 x y z) = _
  exact if_neg h
theorem c_start {σ : St} {P n : Nat} (hP : P < 6) (hn : n ≤ 6) (h3 : σ.1 2 P 3 = nI n) : ∃ σ', fX4_start 0 P σ = some ((), σ') ∧ C0 σ' P n ∧ FS σ σ' := by
  unfold fX4_start fX2_sets
  simp only [ltD]
  rw [gd_t (show (wI (wI (wI (wI (wI (wI (wR σ 4 0 1 P) 4 0 2 0) 4 0 3 (-2)) 4 0 4 (-2)) 4 0 5 (-2)) 4 0 6 (-2)) 4 0 7 0).2.2 4 0 1 < 6 from by
    show (if 4 = 4 ∧ 0 = 0 ∧ 1 = 1 then P else σ.2.2 4 0 1) < 6
    rw [if_pos ⟨rfl, rfl, rfl⟩]; exact hP), bdS]
  have eP : (wI (wI (wI (wI (wI (wI (wR σ 4 0 1 P) 4 0 2 0) 4 0 3 (-2)) 4 0 4 (-2)) 4 0 5 (-2)) 4 0 6 (-2)) 4 0 7 0).2.2 4 0 1 = P := wRe (σ := σ)
  rw [eP, wIc (by omega), wIc (by omega), wIc (by omega), wIc (by omega), wIc (by omega), wIc (by omega), wR1, h3, shl_1 (by omega), sub_n (Nat.one_le_two_pow)]
  generalize hw : wI (wI (wI (wI (wI (wI (wI (wR σ 4 0 1 P) 4 0 2 0) 4 0 3 (-2)) 4 0 4 (-2)) 4 0 5 (-2)) 4 0 6 (-2)) 4 0 7 0) 4 0 8 (nI (2 ^ n - 1)) = σa
  have a4 : σa.1 4 0 2 = 0 ∧ σa.1 4 0 3 = -2 ∧ σa.1 4 0 4 = -2 ∧ σa.1 4 0 5 = -2 ∧ σa.1 4 0 6 = -2 ∧ σa.1 4 0 7 = 0 ∧ σa.1 4 0 8 = nI (2 ^ n - 1) := by
    rw [← hw]
    refine ⟨?_, ?_, ?_, ?_, ?_, ?_, ?_⟩
    · rw [wIj (by omega), wIj (by omega), wIj (by omega), wIj (by omega), wIj (by omega), wIj (by omega), wIe (by omega)]
    · rw [wIj (by omega), wIj (by omega), wIj (by omega), wIj (by omega), wIj (by omega), wIe (by omega)]
    · rw [wIj (by omega), wIj (by omega), wIj (by omega), wIj (by omega), wIe (by omega)]
    · rw [wIj (by omega), wIj (by omega), wIj (by omega), wIe (by omega)]
    · rw [wIj (by omega), wIj (by omega), wIe (by omega)]
    · rw [wIj (by omega), wIe (by omega)]
    · rw [wIe (by omega)]
  have af : ∀ x y, ¬ (x = 4 ∧ y = 0) → σa.1 x y = σ.1 x y := fun x y z => by rw [← hw, wIk z, wIk z, wIk z, wIk z, wIk z, wIk z, wIk z, wR1]
  have a21 : σa.2.1 = σ.2.1 := by rw [← hw]; rfl
  have a22 : ∀ a b c, ¬ (a = 4 ∧ b = 0 ∧ c = 1) → σa.2.2 a b c = σ.2.2 a b c := fun a b c z => by rw [← hw]; exact wRo (σ := σ) z
  have a1 : σa.2.2 4 0 1 = P := by rw [← hw]; exact wRe (σ := σ)
  obtain ⟨s1, e1, p1, q1, r1⟩ := c_fill (σ := σa) (c := 32) (k := 0) 0 (by decide)
  obtain ⟨s2, e2, p2, q2, r2⟩ := c_fill (σ := s1) (c := 33) (k := 0) 0 (by decide)
  obtain ⟨s3, e3, p3, q3, r3⟩ := c_fill (σ := s2) (c := 34) (k := 0) 0 (by decide)
  obtain ⟨s4, e4, p4, q4, r4⟩ := c_fill (σ := s3) (c := 35) (k := 0) 0 (by decide)
  obtain ⟨s5, e5, p5, q5, r5⟩ := c_fill (σ := s4) (c := 36) (k := 0) (-2) (by decide)
  obtain ⟨s6, e6, p6, t6, q6, r6⟩ := c_s5 (σ := s5)
  have rr : s6.2 = σa.2 := by rw [r6, r5, r4, r3, r2, r1]
  have fr : ∀ x y, ¬ (32 ≤ x ∧ x ≤ 36 ∧ y = 0) → ¬ ((x = 5 ∨ x = 41) ∧ y = 0) → ¬ (x = 38 ∧ y < 6) → ¬ (x = 40 ∧ y < 16) → s6.1 x y = σa.1 x y := fun x y z1 z2 z3 z4 => by
    rw [q6 x y z2 z3 z4, q5 x y (by omega), q4 x y (by omega), q3 x y (by omega), q2 x y (by omega), q1 x y (by omega)]
  refine ⟨s6, ?_, ⟨?_, ?_, p6, fun j hj => ⟨?_, ?_, ?_, ?_⟩, t6⟩, ⟨fun x y z1 z2 z3 => ?_, ?_, fun a b c z => ?_⟩⟩
  · rw [e1, bdS, e2, bdS, e3, bdS, e4, bdS, e5, bdS, e6, bdS]
  · rw [rr]; exact a1
  · rw [fr 4 0 (by omega) (by omega) (by omega) (by omega)]; exact a4
  · rw [q6 33 0 (by omega) (by omega) (by omega), q5 33 0 (by omega), q4 33 0 (by omega), q3 33 0 (by omega)]; exact p2 j hj
  · rw [q6 34 0 (by omega) (by omega) (by omega), q5 34 0 (by omega), q4 34 0 (by omega)]; exact p3 j hj
  · rw [q6 35 0 (by omega) (by omega) (by omega), q5 35 0 (by omega)]; exact p4 j hj
  · rw [q6 36 0 (by omega) (by omega) (by omega)]; exact p5 j hj
  · rw [fr x y (by omega) (by omega) z2 z3]; exact af x y (by omega)
  · rw [rr]; exact a21
  · rw [rr]; exact a22 a b c z
/-- the model's row at its start -/
def g0 (k : Nat) : Int32 := if k = 2 then nI 1 else if k = 3 ∨ k = 10 then -2 else 0
def R0 (r : Nat → Int32) (i : Nat) : Prop := (∀ j, 1 ≤ j → j ≤ 4 → r j = -2) ∧ (∀ j, (j = 0 ∨ 5 ≤ j ∧ j < 18 ∨ 90 ≤ j ∧ j < 251) → r j = 0) ∧ ∀ b k, b < 6 → k < 12 → r (18 + 12 * b + k) = if b < i then g0 k else 0
theorem at_n (b k : Nat) : fX8_at (nI b) (nI k) = nI (18 + 12 * b + k) := by
  unfold fX8_at
  rw [mul_n, add_n, add_n]
theorem m_anew {σ : St} : ∃ σ', fX8_beginsAnew σ = some ((), σ') ∧ R0 (σ'.1 47 0) 6 ∧ (∀ x y, ¬ (x = 47 ∧ y = 0) → σ'.1 x y = σ.1 x y) ∧ σ'.2 = σ.2 := by
  unfold fX8_beginsAnew
  obtain ⟨s1, ⟨i1, i2, i3⟩, e1⟩ := lp0 (fun m i (s : St) => LX8_beginsAnew_2 (fun (σ2 : St) => gi (nI 1) 251 <| lt (wI σ2 47 0 (nI 1).toNatClampNeg (-2)) fun (σ3 : St) => gi (nI 2) 251 <| lt (wI σ3 47 0 (nI 2).toNatClampNeg (-2)) fun (σ4 : St) => gi (nI 3) 251 <| lt (wI σ4 47 0 (nI 3).toNatClampNeg (-2)) fun (σ5 : St) => gi (nI 4) 251 <| lt (wI σ5 47 0 (nI 4).toNatClampNeg (-2)) fun (σ6 : St) => (LX8_beginsAnew_56 (fun (σ10 : St) => some ((), σ10)) FU 0 σ6)) m (nI i) s) (fun s => LX8_beginsAnew_56 (fun (σ10 : St) => some ((), σ10)) FU 0 (wI (wI (wI (wI s 47 0 1 (-2)) 47 0 2 (-2)) 47 0 3 (-2)) 47 0 4 (-2))) 251 (by omega) (fun i s => (∀ j, j < i → s.1 47 0 j = 0) ∧ (∀ x y, ¬ (x = 47 ∧ y = 0) → s.1 x y = σ.1 x y) ∧ s.2 = σ.2) σ ⟨fun j hj => absurd hj (Nat.not_lt_zero j), fun _ _ _ => rfl, rfl⟩
    (fun m s _ => by
      rw [LX8_beginsAnew_2, if_pos (by rw [le_n (by omega) (by omega)]; exact Nat.le_refl _)]
      simp only [ltD]
      rw [gi_n (by omega) (by omega), gi_n (by omega) (by omega), gi_n (by omega) (by omega), gi_n (by omega) (by omega), cl (by omega), cl (by omega), cl (by omega), cl (by omega)])
    (fun m i s hi hI => by
      obtain ⟨j1, j2, j3⟩ := hI
      rw [LX8_beginsAnew_2, if_neg (by rw [le_n (by omega) (by omega)]; omega), gi_n hi (by omega), ltD, cl (show i < 2147483648 by omega), add_n]
      refine ⟨_, ⟨fun j hj => ?_, fun x y z => (wIk z).trans (j2 x y z), j3⟩, rfl⟩
      by_cases q : j = i
      · rw [wIe (by omega)]
      · rw [wIj (by omega)]; exact j1 j (by omega))
  rw [nI_0] at e1
  rw [e1]
  obtain ⟨s2, ⟨k1, k2, k3⟩, e2⟩ := lp0 (fun m i (s : St) => LX8_beginsAnew_56 (fun (σ10 : St) => some ((), σ10)) m (nI i) s) (fun s => some ((), s)) 6 (by omega) (fun i s => R0 (s.1 47 0) i ∧ (∀ x y, ¬ (x = 47 ∧ y = 0) → s.1 x y = σ.1 x y) ∧ s.2 = σ.2) (wI (wI (wI (wI s1 47 0 1 (-2)) 47 0 2 (-2)) 47 0 3 (-2)) 47 0 4 (-2))
    (by
      refine ⟨⟨fun j g1 g2 => ?_, fun j g => ?_, fun b k hb hk => ?_⟩, fun x y z => ?_, i3⟩
      · have : j = 1 ∨ j = 2 ∨ j = 3 ∨ j = 4 := by omega
        rcases this with rfl | rfl | rfl | rfl
        · rw [wIj (by omega), wIj (by omega), wIj (by omega), wIe (by omega)]
        · rw [wIj (by omega), wIj (by omega), wIe (by omega)]
        · rw [wIj (by omega), wIe (by omega)]
        · rw [wIe (by omega)]
      · rw [wIj (by omega), wIj (by omega), wIj (by omega), wIj (by omega)]; exact i1 j (by omega)
      · rw [wIj (by omega), wIj (by omega), wIj (by omega), wIj (by omega), if_neg (Nat.not_lt_zero b)]; exact i1 _ (by omega)
      · rw [wIk z, wIk z, wIk z, wIk z]; exact i2 x y z)
    (fun m s _ => by
      rw [LX8_beginsAnew_56, if_pos (by rw [le_n (by omega) (by omega)]; exact Nat.le_refl _)])
    (fun m i s hi hI => by
      obtain ⟨⟨j1, j4, j5⟩, j2, j3⟩ := hI
      rw [LX8_beginsAnew_56, if_neg (by rw [le_n (by omega) (by omega)]; omega), at_n, at_n, at_n, gi_n (by omega) (by omega), ltD, cl (by omega), gi_n (by omega) (by omega), ltD, cl (by omega), gi_n (by omega) (by omega), ltD, cl (by omega), add_n]
      refine ⟨wI (wI (wI s 47 0 (18 + 12 * i + 2) (nI 1)) 47 0 (18 + 12 * i + 3) (-2)) 47 0 (18 + 12 * i + 10) (-2), ⟨⟨fun j g1 g2 => ?_, fun j g => ?_, fun b k hb hk => ?_⟩, fun x y z => ?_, j3⟩, rfl⟩
      · rw [wIj (by omega), wIj (by omega), wIj (by omega)]; exact j1 j g1 g2
      · rw [wIj (by omega), wIj (by omega), wIj (by omega)]; exact j4 j g
      · by_cases q : b = i
        · subst q
          rw [if_pos (by omega)]
          unfold g0
          by_cases k2 : k = 2
          · rw [if_pos k2, wIj (by omega), wIj (by omega), wIe (by omega)]
          · rw [if_neg k2]
            by_cases k3 : k = 3
            · rw [if_pos (by omega), wIj (by omega), wIe (by omega)]
            · by_cases k10 : k = 10
              · rw [if_pos (by omega), wIe (by omega)]
              · rw [if_neg (by omega), wIj (by omega), wIj (by omega), wIj (by omega), j5 b k hb hk, if_neg (by omega)]
        · rw [wIj (by omega), wIj (by omega), wIj (by omega), j5 b k hb hk]
          by_cases z : b < i
          · rw [if_pos z, if_pos (by omega)]
          · rw [if_neg z, if_neg (by omega)]
      · rw [wIk z, wIk z, wIk z]; exact j2 x y z)
  rw [nI_0] at e2
  exact ⟨s2, e2, k1, k2, k3⟩
theorem tu_all : ∀ n, n ≤ 6 → ∀ b, b < n → tuN (2 ^ n - 1) b = 1 := by decide
theorem rr_start {u : BU} {σ : St} {r : Nat → Int32} (hu : UOk u) (hB : BC σ (uP u) u) (hC : C0 σ (uP u) (uN u)) (hr : R0 r 6) (hL : ∀ b, uL u b = 0) : RR u σ 0 r 0 0 0 0 := by
  obtain ⟨c1, ⟨c2, c3, c4, c5, c6, c7, c8⟩, ⟨d0, d1, d2, d3, d4⟩, c9, c10⟩ := hC
  obtain ⟨r1, r2, r3⟩ := hr
  have hn := hu.n6
  have h1 := hu.n1
  have rb : ∀ b k, b < uN u → k < 12 → r (18 + 12 * b + k) = g0 k := fun b k hb hk => by rw [r3 b k (by omega) hk, if_pos (by omega)]
  have wn : Wn (-2) (uN u) := ⟨none, rfl, fun b z => (nomatch z)⟩
  refine ⟨0, ⟨uP u, c1, hB, rfl⟩, ⟨⟨?_, ?_⟩, ⟨?_, ?_⟩, ⟨?_, fun _ => r1 2 (by omega) (by omega)⟩, ⟨?_, ?_⟩, ?_, ?_, 0, ?_, Nat.two_pow_pos _, fun z => absurd (r1 4 (by omega) (by omega)) z⟩, ⟨⟨?_, ?_, ?_, ?_, ?_⟩, ?_, Nat.le_refl 0⟩, ?_, fun l hl => ⟨0, ?_, ?_, by omega⟩, fun b hb => ⟨⟨0, ?_, ?_, by omega⟩, 0, ?_, ?_, by omega⟩, ⟨2 ^ uN u - 1, c8, ?_, fun b hb => ?_⟩, ⟨fun _ => none, fun _ => 0, fun b _ c z => (nomatch z), fun b _ => h1, fun b hb => ⟨?_, ?_⟩⟩, fun z => absurd (r1 4 (by omega) (by omega)) z, fun b hb => ⟨fun j hj => ?_, 0, ?_, by rw [hL]; omega, Nat.le_refl 0⟩, ⟨?_, fun i _ z => by omega⟩, fun j z1 z2 => by omega⟩
  · rw [c2, nI_0]
  · rw [r2 0 (by omega), nI_0]
  · rw [c3, r1 1 (by omega) (by omega)]
  · rw [r1 1 (by omega) (by omega)]; exact wn
  · rw [c4, r1 2 (by omega) (by omega)]
  · rw [c5, r1 3 (by omega) (by omega)]
  · rw [r1 3 (by omega) (by omega)]; exact wn
  · rw [c6, r1 4 (by omega) (by omega)]
  · rw [c7, r2 5 (by omega)]
  · rw [r2 5 (by omega), nI_0]
  · rw [d0, r2 6 (by omega)]
  · rw [d1, r2 7 (by omega)]
  · rw [d2, r2 8 (by omega)]
  · rw [d3, r2 9 (by omega)]
  · rw [d4, r2 10 (by omega)]
  · rw [r2 7 (by omega), nI_0]
  · show r 11 = nI 0
    rw [r2 11 (by omega), nI_0]
  · rw [(c9 l hl).1, nI_0]
  · rw [r2 _ (by omega), nI_0]
  · rw [(c9 b (by omega)).2.1, nI_0]
  · have := rb b 0 hb (by omega)
    rw [Nat.add_zero (18 + 12 * b)] at this
    rw [this, nI_0]; rfl
  · rw [(c9 b (by omega)).2.2.1, nI_0]
  · rw [rb b 1 hb (by omega), nI_0]; rfl
  · have := Nat.two_pow_pos (uN u)
    omega
  · rw [rb b 2 hb (by omega), tu_all _ hn b hb]; rfl
  · rw [(c9 b (by omega)).2.2.2]; rfl
  · rw [rb b 3 hb (by omega)]; rfl
  · rw [show 6 * 0 + b = b by omega, c10 b (by omega) j hj, show 18 + 12 * b + 6 + j = 18 + 12 * b + (6 + j) by omega, rb b (6 + j) hb (by omega)]
    unfold g0
    by_cases z : j = 4
    · rw [if_pos z, if_neg (by omega), if_pos (by omega)]
    · rw [if_neg z, if_neg (by omega), if_neg (by omega)]
  · rw [show 18 + 12 * b + 6 = 18 + 12 * b + 6 from rfl, rb b 6 hb (by omega), nI_0]; rfl
  · rw [r2 90 (by omega)]; rfl
