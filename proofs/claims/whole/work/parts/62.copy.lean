/-! ===== runs are copied ===== -/
theorem cpyN (f g : Nat → Int32) {n b : Nat} (hn : n < 2147483648) (hb : b < n) : va_cpy f g ((0 : Int32).toNatClampNeg) ((0 : Int32).toNatClampNeg) ((nI n).toNatClampNeg) b = f b := by
  rw [cl hn, sb_cl0]
  show (if 0 ≤ b ∧ b < 0 + n then f (0 + (b - 0)) else g b) = f b
  rw [if_pos ⟨by omega, by omega⟩, Nat.zero_add, Nat.sub_zero]
theorem wAc {σ : St} {ci kk x y : Nat} {f : Nat → Int32} (h : ¬ (x = ci ∧ y = kk)) : (wA σ ci kk f).1 x y = σ.1 x y := by rw [rA, if_neg h]
theorem wAe {σ : St} {ci kk : Nat} {f : Nat → Int32} : (wA σ ci kk f).1 ci kk = f := by rw [rA, if_pos ⟨rfl, rfl⟩]
/-- a tally is copied -/
theorem c_copy5 {σ : St} {k0 k1 : Nat} (h0 : k0 < 3) (h1 : k1 < 3) (hne : k0 ≠ k1) : ∃ σ', fX5_copy k0 k1 σ = some ((), σ') ∧ (∀ j, j < 5 → σ'.1 5 k0 j = σ.1 5 k1 j) ∧ (∀ b, b < 6 → ∀ j, j < 6 → σ'.1 38 (6 * k0 + b) j = σ.1 38 (6 * k1 + b) j) ∧ (∀ x, x < 16 → ∀ j, j < 6 → σ'.1 40 (16 * k0 + x) j = σ.1 40 (16 * k1 + x) j) ∧ (∀ x, x < 64 → σ'.1 41 k0 x = σ.1 41 k1 x) ∧ (∀ x y, ¬ (x = 5 ∨ x = 38 ∨ x = 40 ∨ x = 41) → σ'.1 x y = σ.1 x y) ∧ σ'.2 = σ.2 := by
  unfold fX5_copy
  have r5 : ∀ (τ : St) (j : Nat) (v : Int32) (i : Nat), (wI τ 5 k0 j v).1 5 k1 i = τ.1 5 k1 i := fun τ j v i => wIj (by omega)
  rw [ltD, ltD, ltD, ltD, ltD]
  simp only [r5]
  have g5 : ∀ j, j < 5 → (wI (wI (wI (wI (wI σ 5 k0 0 (σ.1 5 k1 0)) 5 k0 1 (σ.1 5 k1 1)) 5 k0 2 (σ.1 5 k1 2)) 5 k0 3 (σ.1 5 k1 3)) 5 k0 4 (σ.1 5 k1 4)).1 5 k0 j = σ.1 5 k1 j := fun j hj => by
    have : j = 0 ∨ j = 1 ∨ j = 2 ∨ j = 3 ∨ j = 4 := by omega
    rcases this with rfl | rfl | rfl | rfl | rfl
    · rw [wIj (by omega), wIj (by omega), wIj (by omega), wIj (by omega), wIe (by omega)]
    · rw [wIj (by omega), wIj (by omega), wIj (by omega), wIe (by omega)]
    · rw [wIj (by omega), wIj (by omega), wIe (by omega)]
    · rw [wIj (by omega), wIe (by omega)]
    · rw [wIe (by omega)]
  have go : ∀ x y, ¬ x = 5 → (wI (wI (wI (wI (wI σ 5 k0 0 (σ.1 5 k1 0)) 5 k0 1 (σ.1 5 k1 1)) 5 k0 2 (σ.1 5 k1 2)) 5 k0 3 (σ.1 5 k1 3)) 5 k0 4 (σ.1 5 k1 4)).1 x y = σ.1 x y := fun x y h => by rw [wIc h, wIc h, wIc h, wIc h, wIc h]
  have g2 : (wI (wI (wI (wI (wI σ 5 k0 0 (σ.1 5 k1 0)) 5 k0 1 (σ.1 5 k1 1)) 5 k0 2 (σ.1 5 k1 2)) 5 k0 3 (σ.1 5 k1 3)) 5 k0 4 (σ.1 5 k1 4)).2 = σ.2 := rfl
  generalize wI (wI (wI (wI (wI σ 5 k0 0 (σ.1 5 k1 0)) 5 k0 1 (σ.1 5 k1 1)) 5 k0 2 (σ.1 5 k1 2)) 5 k0 3 (σ.1 5 k1 3)) 5 k0 4 (σ.1 5 k1 4) = τ at g5 go g2
  obtain ⟨τ1, ⟨a1, a2, a3⟩, e1⟩ := lp0 (fun m i (s : St) => LX5_copy_42 k0 k1 (fun (σ9 : St) => (LX5_copy_75 k0 k1 (fun (σ13 : St) => gd (¬ (0 : Int32) < 0 ∧ ¬ (0 : Int32) < 0 ∧ ¬ ((nI 64) : Int32) < 0 ∧ (0 : Int32).toNatClampNeg + (nI 64).toNatClampNeg ≤ 64 ∧ (0 : Int32).toNatClampNeg + (nI 64).toNatClampNeg ≤ 64) <| lt (wA σ13 41 k0 (va_cpy (σ13.1 41 k1) (σ13.1 41 k0) ((0 : Int32).toNatClampNeg) ((0 : Int32).toNatClampNeg) ((nI 64).toNatClampNeg))) fun (σ14 : St) => some ((), σ14)) FU 0 σ9)) m (nI i) s) (fun (σ9 : St) => (LX5_copy_75 k0 k1 (fun (σ13 : St) => gd (¬ (0 : Int32) < 0 ∧ ¬ (0 : Int32) < 0 ∧ ¬ ((nI 64) : Int32) < 0 ∧ (0 : Int32).toNatClampNeg + (nI 64).toNatClampNeg ≤ 64 ∧ (0 : Int32).toNatClampNeg + (nI 64).toNatClampNeg ≤ 64) <| lt (wA σ13 41 k0 (va_cpy (σ13.1 41 k1) (σ13.1 41 k0) ((0 : Int32).toNatClampNeg) ((0 : Int32).toNatClampNeg) ((nI 64).toNatClampNeg))) fun (σ14 : St) => some ((), σ14)) FU 0 σ9)) 6 (by omega)
    (fun i s => (∀ b, b < i → ∀ j, j < 6 → s.1 38 (6 * k0 + b) j = τ.1 38 (6 * k1 + b) j) ∧ (∀ x y, ¬ (x = 38 ∧ 6 * k0 ≤ y ∧ y < 6 * k0 + 6) → s.1 x y = τ.1 x y) ∧ s.2 = τ.2) τ ⟨fun b hb => by omega, fun _ _ _ => rfl, rfl⟩
    (fun m s _ => by
      rw [LX5_copy_42, if_pos (by rw [le_n (by omega) (by omega)]; exact Nat.le_refl _)])
    (fun m i s hi hI => by
      obtain ⟨i1, i2, i3⟩ := hI
      rw [LX5_copy_42, if_neg (by rw [le_n (by omega) (by omega)]; omega), gi_n (by omega) (by omega), gi_n (by omega) (by omega), gd_t (by decide), cl (show i < 2147483648 by omega), ltD, add_n]
      refine ⟨_, ⟨fun b hb j hj => ?_, fun x y h => ?_, ?_⟩, rfl⟩
      · by_cases z : b = i
        · subst z
          rw [wAe, cpyN _ _ (by omega) hj, i2 38 _ (by omega)]
        · rw [wAc (by omega)]; exact i1 b (by omega) j hj
      · rw [wAc (by omega)]; exact i2 x y h
      · exact i3)
  obtain ⟨τ2, ⟨b1, b2, b3⟩, e2⟩ := lp0 (fun m i (s : St) => LX5_copy_75 k0 k1 (fun (σ13 : St) => gd (¬ (0 : Int32) < 0 ∧ ¬ (0 : Int32) < 0 ∧ ¬ ((nI 64) : Int32) < 0 ∧ (0 : Int32).toNatClampNeg + (nI 64).toNatClampNeg ≤ 64 ∧ (0 : Int32).toNatClampNeg + (nI 64).toNatClampNeg ≤ 64) <| lt (wA σ13 41 k0 (va_cpy (σ13.1 41 k1) (σ13.1 41 k0) ((0 : Int32).toNatClampNeg) ((0 : Int32).toNatClampNeg) ((nI 64).toNatClampNeg))) fun (σ14 : St) => some ((), σ14)) m (nI i) s) (fun s => some ((), wA s 41 k0 (va_cpy (s.1 41 k1) (s.1 41 k0) ((0 : Int32).toNatClampNeg) ((0 : Int32).toNatClampNeg) ((nI 64).toNatClampNeg)))) 16 (by omega)
    (fun i s => (∀ b, b < i → ∀ j, j < 6 → s.1 40 (16 * k0 + b) j = τ1.1 40 (16 * k1 + b) j) ∧ (∀ x y, ¬ (x = 40 ∧ 16 * k0 ≤ y ∧ y < 16 * k0 + 16) → s.1 x y = τ1.1 x y) ∧ s.2 = τ1.2) τ1 ⟨fun b hb => by omega, fun _ _ _ => rfl, rfl⟩
    (fun m s _ => by
      rw [LX5_copy_75, if_pos (by rw [le_n (by omega) (by omega)]; exact Nat.le_refl _), gd_t (by decide), ltD])
    (fun m i s hi hI => by
      obtain ⟨i1, i2, i3⟩ := hI
      rw [LX5_copy_75, if_neg (by rw [le_n (by omega) (by omega)]; omega), gi_n (by omega) (by omega), gi_n (by omega) (by omega), gd_t (by decide), cl (show i < 2147483648 by omega), ltD, add_n]
      refine ⟨_, ⟨fun b hb j hj => ?_, fun x y h => ?_, ?_⟩, rfl⟩
      · by_cases z : b = i
        · subst z
          rw [wAe, cpyN _ _ (by omega) hj, i2 40 _ (by omega)]
        · rw [wAc (by omega)]; exact i1 b (by omega) j hj
      · rw [wAc (by omega)]; exact i2 x y h
      · exact i3)
  rw [nI_0] at e1 e2
  rw [e1, e2]
  refine ⟨_, rfl, fun j hj => ?_, fun b hb j hj => ?_, fun x hx j hj => ?_, fun x hx => ?_, fun x y h => ?_, ?_⟩
  · rw [wAc (by omega), b2 5 _ (by omega), a2 5 _ (by omega)]; exact g5 j hj
  · rw [wAc (by omega), b2 38 _ (by omega), a1 b hb j hj, go 38 _ (by omega)]
  · rw [wAc (by omega), b1 x hx j hj, a2 40 _ (by omega), go 40 _ (by omega)]
  · rw [wAe, cpyN _ _ (by omega) hx, b2 41 _ (by omega), a2 41 _ (by omega), go 41 _ (by omega)]
  · rw [wAc (by omega), b2 x y (by omega), a2 x y (by omega), go x y (by omega)]
  · show τ2.2 = σ.2
    rw [b3, a3, g2]
/-- a run is copied: it stands in the same relation to a row -/
theorem c_copy {u : BU} {σ : St} {k0 k1 t p s a : Nat} {r : Nat → Int32} (h0 : k0 < 3) (h1 : k1 < 3) (hne : k0 ≠ k1) (hu : UOk u) (hR : RR u σ k1 r t p s a) : ∃ σ', fX4_copy k0 k1 σ = some ((), σ') ∧ RR u σ' k0 r t p s a := by
  have hn := hu.n6
  obtain ⟨d, ⟨P, hP, hB, hPu⟩, h1', h2, h3, h4, h5, h6, h7, h8, h9, h10, h11⟩ := hR
  unfold fX4_copy
  have r4 : ∀ (τ : St) (j : Nat) (v : Int32) (i : Nat), (wI τ 4 k0 j v).1 4 k1 i = τ.1 4 k1 i := fun τ j v i => wIj (by omega)
  have r4' : (wR σ 4 k0 1 P).1 = σ.1 := rfl
  rw [hP, gd_t hB.1]
  simp only [ltD, r4, r4']
  have q4 : ∀ j, 2 ≤ j → j < 9 → (wI (wI (wI (wI (wI (wI (wI (wR σ 4 k0 1 P) 4 k0 2 (σ.1 4 k1 2)) 4 k0 3 (σ.1 4 k1 3)) 4 k0 4 (σ.1 4 k1 4)) 4 k0 5 (σ.1 4 k1 5)) 4 k0 6 (σ.1 4 k1 6)) 4 k0 7 (σ.1 4 k1 7)) 4 k0 8 (σ.1 4 k1 8)).1 4 k0 j = σ.1 4 k1 j := fun j g1 g2 => by
    have : j = 2 ∨ j = 3 ∨ j = 4 ∨ j = 5 ∨ j = 6 ∨ j = 7 ∨ j = 8 := by omega
    rcases this with rfl | rfl | rfl | rfl | rfl | rfl | rfl
    · rw [wIj (by omega), wIj (by omega), wIj (by omega), wIj (by omega), wIj (by omega), wIj (by omega), wIe (by omega)]
    · rw [wIj (by omega), wIj (by omega), wIj (by omega), wIj (by omega), wIj (by omega), wIe (by omega)]
    · rw [wIj (by omega), wIj (by omega), wIj (by omega), wIj (by omega), wIe (by omega)]
    · rw [wIj (by omega), wIj (by omega), wIj (by omega), wIe (by omega)]
    · rw [wIj (by omega), wIj (by omega), wIe (by omega)]
    · rw [wIj (by omega), wIe (by omega)]
    · rw [wIe (by omega)]
  have qo : ∀ x y, ¬ x = 4 → (wI (wI (wI (wI (wI (wI (wI (wR σ 4 k0 1 P) 4 k0 2 (σ.1 4 k1 2)) 4 k0 3 (σ.1 4 k1 3)) 4 k0 4 (σ.1 4 k1 4)) 4 k0 5 (σ.1 4 k1 5)) 4 k0 6 (σ.1 4 k1 6)) 4 k0 7 (σ.1 4 k1 7)) 4 k0 8 (σ.1 4 k1 8)).1 x y = σ.1 x y := fun x y h => by rw [wIc h, wIc h, wIc h, wIc h, wIc h, wIc h, wIc h]; rfl
  have qP : (wI (wI (wI (wI (wI (wI (wI (wR σ 4 k0 1 P) 4 k0 2 (σ.1 4 k1 2)) 4 k0 3 (σ.1 4 k1 3)) 4 k0 4 (σ.1 4 k1 4)) 4 k0 5 (σ.1 4 k1 5)) 4 k0 6 (σ.1 4 k1 6)) 4 k0 7 (σ.1 4 k1 7)) 4 k0 8 (σ.1 4 k1 8)).2.2 4 k0 1 = P := by
    show (wR σ 4 k0 1 P).2.2 4 k0 1 = P
    rw [rR, if_pos ⟨rfl, rfl, rfl⟩]
  generalize wI (wI (wI (wI (wI (wI (wI (wR σ 4 k0 1 P) 4 k0 2 (σ.1 4 k1 2)) 4 k0 3 (σ.1 4 k1 3)) 4 k0 4 (σ.1 4 k1 4)) 4 k0 5 (σ.1 4 k1 5)) 4 k0 6 (σ.1 4 k1 6)) 4 k0 7 (σ.1 4 k1 7)) 4 k0 8 (σ.1 4 k1 8) = τ at q4 qo qP
  rw [gd_t (by decide), gd_t (by decide), gd_t (by decide), gd_t (by decide), gd_t (by decide)]
  generalize hτ1 : wA τ 32 k0 (va_cpy (τ.1 32 k1) (τ.1 32 k0) ((0 : Int32).toNatClampNeg) ((0 : Int32).toNatClampNeg) ((nI 6).toNatClampNeg)) = τ1
  generalize hτ2 : wA τ1 33 k0 (va_cpy (τ1.1 33 k1) (τ1.1 33 k0) ((0 : Int32).toNatClampNeg) ((0 : Int32).toNatClampNeg) ((nI 6).toNatClampNeg)) = τ2
  generalize hτ3 : wA τ2 34 k0 (va_cpy (τ2.1 34 k1) (τ2.1 34 k0) ((0 : Int32).toNatClampNeg) ((0 : Int32).toNatClampNeg) ((nI 6).toNatClampNeg)) = τ3
  generalize hτ4 : wA τ3 35 k0 (va_cpy (τ3.1 35 k1) (τ3.1 35 k0) ((0 : Int32).toNatClampNeg) ((0 : Int32).toNatClampNeg) ((nI 6).toNatClampNeg)) = τ4
  generalize hτ5 : wA τ4 36 k0 (va_cpy (τ4.1 36 k1) (τ4.1 36 k0) ((0 : Int32).toNatClampNeg) ((0 : Int32).toNatClampNeg) ((nI 6).toNatClampNeg)) = τ5
  have s1 : ∀ x y, ¬ (x = 32 ∧ y = k0) → τ1.1 x y = τ.1 x y := fun x y h => by rw [← hτ1, wAc h]
  have s2 : ∀ x y, ¬ (x = 33 ∧ y = k0) → τ2.1 x y = τ1.1 x y := fun x y h => by rw [← hτ2, wAc h]
  have s3 : ∀ x y, ¬ (x = 34 ∧ y = k0) → τ3.1 x y = τ2.1 x y := fun x y h => by rw [← hτ3, wAc h]
  have s4 : ∀ x y, ¬ (x = 35 ∧ y = k0) → τ4.1 x y = τ3.1 x y := fun x y h => by rw [← hτ4, wAc h]
  have s5 : ∀ x y, ¬ (x = 36 ∧ y = k0) → τ5.1 x y = τ4.1 x y := fun x y h => by rw [← hτ5, wAc h]
  have w1 : ∀ b, b < 6 → τ1.1 32 k0 b = τ.1 32 k1 b := fun b hb => by rw [← hτ1, wAe, cpyN _ _ (by omega) hb]
  have w2 : ∀ b, b < 6 → τ2.1 33 k0 b = τ1.1 33 k1 b := fun b hb => by rw [← hτ2, wAe, cpyN _ _ (by omega) hb]
  have w3 : ∀ b, b < 6 → τ3.1 34 k0 b = τ2.1 34 k1 b := fun b hb => by rw [← hτ3, wAe, cpyN _ _ (by omega) hb]
  have w4 : ∀ b, b < 6 → τ4.1 35 k0 b = τ3.1 35 k1 b := fun b hb => by rw [← hτ4, wAe, cpyN _ _ (by omega) hb]
  have w5 : ∀ b, b < 6 → τ5.1 36 k0 b = τ4.1 36 k1 b := fun b hb => by rw [← hτ5, wAe, cpyN _ _ (by omega) hb]
  have t5 : τ5.2.2 4 k0 1 = P := by rw [← hτ5, ← hτ4, ← hτ3, ← hτ2, ← hτ1]; exact qP
  clear hτ1 hτ2 hτ3 hτ4 hτ5
  obtain ⟨σ', e, c1, c2, c3, c4, c5, c6⟩ := c_copy5 (σ := τ5) h0 h1 hne
  rw [e, bdS]
  have f5 : ∀ x y, ¬ (x = 32 ∧ y = k0) → ¬ (x = 33 ∧ y = k0) → ¬ (x = 34 ∧ y = k0) → ¬ (x = 35 ∧ y = k0) → ¬ (x = 36 ∧ y = k0) → τ5.1 x y = τ.1 x y := fun x y g1 g2 g3 g4 g5 => by rw [s5 x y g5, s4 x y g4, s3 x y g3, s2 x y g2, s1 x y g1]
  have x32 : ∀ b, b < 6 → σ'.1 32 k0 b = σ.1 32 k1 b := fun b hb => by rw [c5 32 k0 (by omega), s5 _ _ (by omega), s4 _ _ (by omega), s3 _ _ (by omega), s2 _ _ (by omega), w1 b hb, qo _ _ (by omega)]
  have x33 : ∀ b, b < 6 → σ'.1 33 k0 b = σ.1 33 k1 b := fun b hb => by rw [c5 33 k0 (by omega), s5 _ _ (by omega), s4 _ _ (by omega), s3 _ _ (by omega), w2 b hb, s1 _ _ (by omega), qo _ _ (by omega)]
  have x34 : ∀ b, b < 6 → σ'.1 34 k0 b = σ.1 34 k1 b := fun b hb => by rw [c5 34 k0 (by omega), s5 _ _ (by omega), s4 _ _ (by omega), w3 b hb, s2 _ _ (by omega), s1 _ _ (by omega), qo _ _ (by omega)]
  have x35 : ∀ b, b < 6 → σ'.1 35 k0 b = σ.1 35 k1 b := fun b hb => by rw [c5 35 k0 (by omega), s5 _ _ (by omega), w4 b hb, s3 _ _ (by omega), s2 _ _ (by omega), s1 _ _ (by omega), qo _ _ (by omega)]
  have x36 : ∀ b, b < 6 → σ'.1 36 k0 b = σ.1 36 k1 b := fun b hb => by rw [c5 36 k0 (by omega), w5 b hb, s4 _ _ (by omega), s3 _ _ (by omega), s2 _ _ (by omega), s1 _ _ (by omega), qo _ _ (by omega)]
  have x4 : ∀ j, 2 ≤ j → j < 9 → σ'.1 4 k0 j = σ.1 4 k1 j := fun j g1 g2 => by rw [c5 4 k0 (by omega), f5 4 k0 (by omega) (by omega) (by omega) (by omega) (by omega)]; exact q4 j g1 g2
  have x5 : ∀ j, j < 5 → σ'.1 5 k0 j = σ.1 5 k1 j := fun j hj => by rw [c1 j hj, f5 5 k1 (by omega) (by omega) (by omega) (by omega) (by omega), qo _ _ (by omega)]
  have x38 : ∀ b, b < 6 → ∀ j, j < 6 → σ'.1 38 (6 * k0 + b) j = σ.1 38 (6 * k1 + b) j := fun b hb j hj => by rw [c2 b hb j hj, f5 38 _ (by omega) (by omega) (by omega) (by omega) (by omega), qo _ _ (by omega)]
  have x40 : ∀ x, x < 16 → ∀ j, j < 6 → σ'.1 40 (16 * k0 + x) j = σ.1 40 (16 * k1 + x) j := fun x hx j hj => by rw [c3 x hx j hj, f5 40 _ (by omega) (by omega) (by omega) (by omega) (by omega), qo _ _ (by omega)]
  have x41 : ∀ x, x < 64 → σ'.1 41 k0 x = σ.1 41 k1 x := fun x hx => by rw [c4 x hx, f5 41 _ (by omega) (by omega) (by omega) (by omega) (by omega), qo _ _ (by omega)]
  have xP : σ'.2.2 4 k0 1 = P := by rw [c6]; exact t5
  have xo : ∀ x y, (x = 2 ∨ 24 ≤ x ∧ x ≤ 30) → σ'.1 x y = σ.1 x y := fun x y h => by rw [c5 x y (by omega), f5 x y (by omega) (by omega) (by omega) (by omega) (by omega), qo x y (by omega)]
  refine ⟨σ', rfl, d, ⟨P, xP, hB.fr xo, hPu⟩, ?_, ?_, h3, fun l hl => by rw [x33 l hl]; exact h4 l hl, fun b hb => by rw [x34 b (by omega), x35 b (by omega)]; exact h5 b hb, ?_, ?_, fun g b hb => by rw [x32 b (by omega)]; exact h8 g b hb, fun b hb => ⟨fun j hj => by rw [x38 b (by omega) j hj]; exact (h9 b hb).1 j hj, (h9 b hb).2⟩, ⟨h10.1, fun i hi hd j hj => by rw [x40 _ (Nat.mod_lt _ (by omega)) j hj]; exact h10.2 i hi hd j hj⟩, fun j g1 g2 => by rw [x41 _ (Nat.mod_lt _ (by omega))]; exact h11 j g1 g2⟩
  · unfold Q1
    rw [x4 2 (by omega) (by omega), x4 3 (by omega) (by omega), x4 4 (by omega) (by omega), x4 5 (by omega) (by omega), x4 6 (by omega) (by omega), x4 7 (by omega) (by omega)]
    exact h1'
  · unfold Q2
    rw [x5 0 (by omega), x5 1 (by omega), x5 2 (by omega), x5 3 (by omega), x5 4 (by omega)]
    exact h2
  · unfold Q6
    rw [x4 8 (by omega) (by omega)]
    exact h6
  · obtain ⟨w, μ, g1, g2, g3⟩ := h7
    exact ⟨w, μ, g1, g2, fun b hb => by rw [x36 b (by omega)]; exact g3 b hb⟩
