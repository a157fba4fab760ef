/-! ===== an arbitration is through, on both sides ===== -/
theorem onN_lt {x n b : Nat} (hn : n ≤ 6) (hx : x < 2 ^ n) (h : onN x = some b) : b < n := by
  have key : ∀ n, n < 7 → ∀ x, x < 64 → ∀ b, b < 7 → (x < 2 ^ n ∧ onN x = some b → b < n) := by decide +kernel
  have hb : b < 7 := by
    unfold onN at h
    split at h
    · cases h; omega
    split at h
    · cases h; omega
    split at h
    · cases h; omega
    split at h
    · cases h; omega
    split at h
    · cases h; omega
    split at h
    · cases h; omega
    cases h
  exact key n (by omega) x (Nat.lt_of_lt_of_le hx (Nat.pow_le_pow_right (n := 2) (by omega) hn)) b hb ⟨hx, h⟩
theorem sa_ne {a : Nat} (h : ¬ (a = 0 ∨ a = 1 ∨ a = 10 ∨ a = 12 ∨ a = 14 ∨ a = 16 ∨ a = 18 ∨ a = 20 ∨ a = 22)) : SA.all (fun e => !(e.1 == a)) = true := by
  simp only [SA, List.all_cons, List.all_nil, Bool.and_true, Bool.and_eq_true, Bool.not_eq_true', beq_eq_false_iff_ne, ne_eq]
  omega
theorem aS_lt {q : PP} (hq : POk q) {w2 : Nat → Nat} (hw2 : ∀ b, b < pN q → w2 b < 64) (win : Nat) : aS q w2 win < 2 ^ pN q := by
  unfold aS
  split
  · exact Nat.pow_pos (by omega)
  · exact aW_le (pw2_ok hq hw2 (aW_le hq win)) win
theorem s_finish {u : BU} {σ σm : St} {k t p s a : Nat} (hu : UOk u) (ht : t < 2147483648) (hs : s < 1000000000) (h : TS u σ k σm t p s a) (hne : σm.1 47 0 4 ≠ -2) :
    ∃ σ' σm', fX4_finish k σ = some ((), σ') ∧ fX8_endsArbitration σm = some ((), σm') ∧ TS u σ' k σm' t p (s + 1) a ∧ M8 σm σm' := by
  have hn := hu.n6
  obtain ⟨⟨d, ⟨P, hP, hB, hPu⟩, h1, h2, h3, h4, h5, h6, h7, h8, h9, h10, h11⟩, hD, hM⟩ := h
  obtain ⟨⟨t1, t2⟩, ⟨m1, m2⟩, ⟨l1, l2⟩, ⟨e1, e2⟩, g4, g5, C, c1, c2, c3⟩ := h1
  obtain ⟨⟨y0, y1, y2, y3, y4⟩, yd, yds⟩ := h2
  have hC0 := c3 hne
  have h8' := h8 hne
  -- the pass
  have hw1 : ∀ b, b < uN u → σm.1 47 0 (18 + 12 * b + 4) = nI ((σm.1 47 0 (18 + 12 * b + 4)).toNatClampNeg) ∧ (σm.1 47 0 (18 + 12 * b + 4)).toNatClampNeg < 64 ∧ σ.1 32 k b = σm.1 47 0 (18 + 12 * b + 4) ∧ σm.1 47 0 (18 + 12 * b + 5) = nI (wd2 (uC u) b) := fun b hb => by
    obtain ⟨v, v1, v2, v3, v4⟩ := h8' b hb
    rw [v3, cl (by omega)]
    exact ⟨rfl, v1, v2, v4⟩
  have hL : ∀ l, l < 6 → σm.1 47 0 (12 + l) = nI ((σm.1 47 0 (12 + l)).toNatClampNeg) ∧ (σm.1 47 0 (12 + l)).toNatClampNeg ≤ 2 ∧ σ.1 33 k l = σm.1 47 0 (12 + l) := fun l hl => by
    obtain ⟨v, v1, v2, v3⟩ := h4 l hl
    rw [v2, cl (by omega)]
    exact ⟨rfl, v3, v1⟩
  generalize hw1f : (fun b => (σm.1 47 0 (18 + 12 * b + 4)).toNatClampNeg) = w1
  generalize hLf : (fun l => (σm.1 47 0 (12 + l)).toNatClampNeg) = L
  have ew : ∀ b, (σm.1 47 0 (18 + 12 * b + 4)).toNatClampNeg = w1 b := fun b => by rw [← hw1f]
  have eL : ∀ l, (σm.1 47 0 (12 + l)).toNatClampNeg = L l := fun l => by rw [← hLf]
  simp only [ew] at hw1
  simp only [eL] at hL
  clear hw1f hLf ew eL
  have hq : POk (uN u, uG u, uF u, C, uS u, w1, L) := ⟨hn, hu.g.1, hu.g.2, hu.f, c2, hu.s, fun b hb => (hw1 b hb).2.1, fun l hl => (hL l hl).2.1, hu.sd⟩
  have hw2 : ∀ b, b < pN (uN u, uG u, uF u, C, uS u, w1, L) → wd2 (uC u) b < 64 := fun b hb => (wd2_lt (hu.c b hb).2).1
  have hwin : uW u ≤ 400 := by have := hu.w.2; omega
  -- the class decides
  have z3 : ∀ a b c, ¬ (a = 4) → (wI (wI σ 4 k 6 (-2)) 4 k 7 0).1 a b c = σ.1 a b c := fun a b c z => (wIj (by omega)).trans (wIj (by omega))
  have hD3 : D13 (wI (wI σ 4 k 6 (-2)) 4 k 7 0) := hD.fr (z3 _ _ _ (by omega)) (fun o => (wIc (by omega)).trans (wIc (by omega)))
  have e46 : (wI (wI σ 4 k 6 (-2)) 4 k 7 0).1 4 k 6 = -2 := (wIj (by omega)).trans (wIe (by omega))
  have e47 : (wI (wI σ 4 k 6 (-2)) 4 k 7 0).1 4 k 7 = 0 := wIe (by omega)
  have e4j : ∀ j, j ≠ 6 → j ≠ 7 → (wI (wI σ 4 k 6 (-2)) 4 k 7 0).1 4 k j = σ.1 4 k j := fun j z1 z2 => (wIj (by omega)).trans (wIj (by omega))
  have e42 : (wI (wI σ 4 k 6 (-2)) 4 k 7 0).2 = σ.2 := rfl
  generalize hσ3 : wI (wI σ 4 k 6 (-2)) 4 k 7 0 = σ3 at z3 hD3 e46 e47 e4j e42
  obtain ⟨σ4, d1, d2, d3, d4, d5, d6, d7⟩ := c_decide (σ := σ3) (k := k) (P := P) (c2 := 32) (k2 := k) (win := uW u) (q := (uN u, uG u, uF u, C, uS u, w1, L)) (w2 := wd2 (uC u)) hq hw2 (by rw [e42]; exact hP) hB.1 hwin (by rw [z3 _ _ _ (by omega)]; exact hB.2.2.2.1) (by rw [z3 _ _ _ (by omega)]; exact hB.2.2.2.2.1) (by rw [z3 _ _ _ (by omega)]; exact hB.2.1) (by rw [z3 _ _ _ (by omega)]; exact hB.2.2.1) (fun b hb => by rw [z3 _ _ _ (by omega)]; exact (hB.2.2.2.2.2.2.1 b hb).1) (fun l hl => by rw [z3 _ _ _ (by omega), (hL l hl).2.2]; exact (hL l hl).1) rfl rfl (fun b hb => by rw [z3 _ _ _ (by omega), (hw1 b hb).2.2.1]; exact (hw1 b hb).1) (fun b hb => by rw [z3 _ _ _ (by omega)]; exact (hB.2.2.2.2.2.2.1 b hb).2.2.2) hD3
  -- the model elects
  have hMB : MB σm (uN u, uG u, uF u, C, uS u, w1, L) (uW u) := ⟨hM.2.2.2.1, hM.1, hM.2.1, hM.2.2.1, fun b hb => (hM.2.2.2.2.2.1 b hb).1, fun l hl => (hL l hl).1⟩
  obtain ⟨σe, f1, f2, f3, f4, f5, f6⟩ := m_elects (a2 := nI 1) (σ := σm) (w2 := wd2 (uC u)) hq hw2 hwin hC0 hMB (wx_h (by decide) hn (Or.inl rfl) (fun b hb => (hw1 b hb).1)) (wx_h (by decide) hn (Or.inr rfl) (fun b hb => (hw1 b hb).2.2.2))
  have hSlt : aS (uN u, uG u, uF u, C, uS u, w1, L) (wd2 (uC u)) (uW u) < 2 ^ uN u := aS_lt hq hw2 _
  generalize aW (uN u, uG u, uF u, C, uS u, w1, L) (uW u) = W at d4 f5
  generalize aE (uN u, uG u, uF u, C, uS u, w1, L) (wd2 (uC u)) (uW u) = E at d6 f4
  generalize aS (uN u, uG u, uF u, C, uS u, w1, L) (wd2 (uC u)) (uW u) = S at d5 d7 f1 f6 hSlt
  have ho : ∀ b, onN S = some b → b < uN u := fun b hb => onN_lt hn hSlt hb
  generalize onN S = o at d7 f1 ho
  have re : σe.1 47 0 = σm.1 47 0 := kpc f2 47 0 rfl
  obtain ⟨σl, i1, i2, i3, i4, i5, i6, i7, i8, i9, i10, i11⟩ := m_logs (σ := σe) (A := C) (W := W) (S := S) (E := E) (b := wv o) (c := min d 16) (Nat.min_le_right _ _) (by rw [re]; exact h10.1) f4 f5 f6
  have rl : ∀ j, ¬ (90 ≤ j ∧ j < 187) → σl.1 47 0 j = σm.1 47 0 j := fun j z => by rw [i2 j z, re]
  have l30 : σl.1 8 0 30 = nI E := by rw [i3 8 0 (by omega)]; exact f4
  have hM8l : M8 σm σl := fun j z1 z2 z3 z4 z5 => by rw [i3 8 0 (by omega)]; exact f3 j z1 z2 z3 z4 z5
  have hMl : BM σl u := (hM.fr (kpc f2 44 0 rfl)).fr (i3 44 0 (by omega))
  -- what the model writes then
  have r9 : ∀ j, ¬ (j = 3 ∨ j = 4 ∨ j = 5 ∨ j = 7 ∨ j = 9) → (wI (wI (wI (wI (wI σl 47 0 9 (σm.1 47 0 9 + nI E)) 47 0 7 (nI (d + 1))) 47 0 4 (-2)) 47 0 5 0) 47 0 3 (wv o)).1 47 0 j = σl.1 47 0 j := fun j z => by rw [wIj (by omega), wIj (by omega), wIj (by omega), wIj (by omega), wIj (by omega)]
  have r9a : ∀ a b, a ≠ 47 → (wI (wI (wI (wI (wI σl 47 0 9 (σm.1 47 0 9 + nI E)) 47 0 7 (nI (d + 1))) 47 0 4 (-2)) 47 0 5 0) 47 0 3 (wv o)).1 a b = σl.1 a b := fun x y z => by rw [wIc z, wIc z, wIc z, wIc z, wIc z]
  have v9 : (wI (wI (wI (wI (wI σl 47 0 9 (σm.1 47 0 9 + nI E)) 47 0 7 (nI (d + 1))) 47 0 4 (-2)) 47 0 5 0) 47 0 3 (wv o)).1 47 0 9 = σm.1 47 0 9 + nI E := by rw [wIj (by omega), wIj (by omega), wIj (by omega), wIj (by omega), wIe (by omega)]
  have v7 : (wI (wI (wI (wI (wI σl 47 0 9 (σm.1 47 0 9 + nI E)) 47 0 7 (nI (d + 1))) 47 0 4 (-2)) 47 0 5 0) 47 0 3 (wv o)).1 47 0 7 = nI (d + 1) := by rw [wIj (by omega), wIj (by omega), wIj (by omega), wIe (by omega)]
  have v4 : (wI (wI (wI (wI (wI σl 47 0 9 (σm.1 47 0 9 + nI E)) 47 0 7 (nI (d + 1))) 47 0 4 (-2)) 47 0 5 0) 47 0 3 (wv o)).1 47 0 4 = -2 := by rw [wIj (by omega), wIj (by omega), wIe (by omega)]
  have v5 : (wI (wI (wI (wI (wI σl 47 0 9 (σm.1 47 0 9 + nI E)) 47 0 7 (nI (d + 1))) 47 0 4 (-2)) 47 0 5 0) 47 0 3 (wv o)).1 47 0 5 = 0 := by rw [wIj (by omega), wIe (by omega)]
  have v3 : (wI (wI (wI (wI (wI σl 47 0 9 (σm.1 47 0 9 + nI E)) 47 0 7 (nI (d + 1))) 47 0 4 (-2)) 47 0 5 0) 47 0 3 (wv o)).1 47 0 3 = wv o := wIe (by omega)
  generalize hσ9 : wI (wI (wI (wI (wI σl 47 0 9 (σm.1 47 0 9 + nI E)) 47 0 7 (nI (d + 1))) 47 0 4 (-2)) 47 0 5 0) 47 0 3 (wv o) = σ9 at r9 r9a v9 v7 v4 v5 v3
  have rm : ∀ j, ¬ (j = 3 ∨ j = 4 ∨ j = 5 ∨ j = 7 ∨ j = 9 ∨ 90 ≤ j ∧ j < 187) → σ9.1 47 0 j = σm.1 47 0 j := fun j z => by rw [r9 j (by omega), rl j (by omega)]
  have rc : ∀ a b, ¬ (a = 0 ∨ a = 1 ∨ a = 4 ∨ a = 10 ∨ a = 12 ∨ a = 14 ∨ a = 16 ∨ a = 18 ∨ a = 20 ∨ a = 22) → σ4.1 a b = σ.1 a b := fun x y z => by
    rw [kpc d2 x y (sa_ne (by omega))]
    funext c
    exact z3 x y c (by omega)
  have r4 : σ4.1 4 k = σ3.1 4 k := kpc d2 4 k rfl
  have hP4 : σ4.2.2 4 k 1 = P := by rw [kpr d2 4 k rfl, e42]; exact hP
  have hB4 : BC σ4 P u := hB.fr (fun x y z => rc x y (by omega))
  have tail : ∀ σ7 σm7 : St, Q6 u σ7 k (σm7.1 47 0) → Q9 u σ7 k (σm7.1 47 0) s → σ7.1 5 k 0 = σm7.1 47 0 6 → σ7.1 5 k 4 = σm7.1 47 0 10 → (∀ a b, ¬ (a = 4 ∨ a = 5 ∨ a = 38) → σ7.1 a b = σ4.1 a b) → (∀ j, j ≠ 8 → σ7.1 4 k j = σ4.1 4 k j) → (∀ j, j ≠ 0 → j ≠ 4 → σ7.1 5 k j = σ4.1 5 k j) → σ7.2 = σ4.2 → (∀ a b, a ≠ 47 → σm7.1 a b = σ9.1 a b) → (∀ j, j ≠ 8 → ¬ TuR j → σm7.1 47 0 j = σ9.1 47 0 j) → σm7.1 47 0 8 = (if wv o = -2 then σm.1 47 0 8 + nI 1 else σm.1 47 0 8) →
      ∃ σ', (lt (wI σ7 4 k 5 (wv o)) fun (σ10 : St) => bd (fX5_enter k (σ10.1 4 k 2) (nI C) σ10) fun _ (σ11 : St) => some ((), σ11)) = some ((), σ') ∧ TS u σ' k σm7 t p (s + 1) a ∧ M8 σm σm7 := by
    intro σ7 σm7 q6 q9 q0 q4 w1 w2 w3 w4 w5 w6 w8
    have n2 : (wI σ7 4 k 5 (wv o)).1 4 k 2 = nI t := by rw [wIj (by omega), w2 2 (by omega), r4, e4j 2 (by omega) (by omega)]; exact t1
    have n0 : ∀ j, (wI σ7 4 k 5 (wv o)).1 0 0 j = σ4.1 0 0 j := fun j => by rw [wIj (by omega), w1 0 0 (by omega)]
    have n5 : ∀ j, (wI σ7 4 k 5 (wv o)).1 5 k j = σ7.1 5 k j := fun j => wIj (by omega)
    have c5 : ∀ j, σ4.1 5 k j = σ.1 5 k j := fun j => by rw [rc 5 k (by omega)]
    obtain ⟨σ', x1, x2, x3, x4, x5, x6, x7, x8, x9, x10, x11, x12, x13, x14, x15⟩ := c_enter (σ := wI σ7 4 k 5 (wv o)) (k := k) (d := d) (W := W) (S := S) (E := E) (T := nI t) (A := nI C) (x := wv o) (by omega) (by rw [n5, w3 1 (by omega) (by omega), c5, y1]; exact yd) (by rw [n0]; exact d4) (by rw [n0]; exact d5) (by rw [n0]; exact d6) (by rw [n0]; exact d7)
    refine ⟨σ', by rw [ltD, n2, x1, bdS], ⟨⟨d + 1, ?_, ?_, ?_, ?_, ?_, ?_, ?_, ?_, ?_, ?_, ?_, ?_⟩, ?_, ?_⟩, ?_⟩
    all_goals try have FA : ∀ a b, ¬ (a = 0 ∨ a = 1 ∨ a = 4 ∨ a = 5 ∨ a = 10 ∨ a = 12 ∨ a = 14 ∨ a = 16 ∨ a = 18 ∨ a = 20 ∨ a = 22 ∨ a = 38 ∨ a = 40) → σ'.1 a b = σ.1 a b := fun x y z => by rw [x2 x y (by omega), wIc (by omega), w1 x y (by omega), rc x y (by omega)]
    all_goals try have F4 : ∀ j, j ≠ 5 → σ'.1 4 k j = σ7.1 4 k j := fun j z => by rw [x2 4 k (by omega), wIj (by omega)]
    all_goals try have FR : ∀ j, ¬ TuR j → ¬ (j = 3 ∨ j = 4 ∨ j = 5 ∨ j = 7 ∨ j = 8 ∨ j = 9 ∨ 90 ≤ j ∧ j < 187) → σm7.1 47 0 j = σm.1 47 0 j := fun j z z2 => by rw [w6 j (by omega) z, rm j (by omega)]
    · exact Q0.fr ⟨P, hP, hB, hPu⟩ (fun x y z => FA x y (by omega)) (by rw [x3]; show σ7.2.2 4 k 1 = _; rw [w4, hP4, hP])
    · refine ⟨⟨?_, ?_⟩, ⟨?_, ?_⟩, ⟨?_, ?_⟩, ⟨?_, ?_⟩, ?_, ?_, 0, ?_, Nat.pow_pos (by omega), fun z => ?_⟩
      · rw [F4 2 (by omega), w2 2 (by omega), r4, e4j 2 (by omega) (by omega)]; exact t1
      · rw [FR 0 (by unfold TuR; omega) (by omega)]; exact t2
      · rw [F4 3 (by omega), w2 3 (by omega), r4, e4j 3 (by omega) (by omega), FR 1 (by unfold TuR; omega) (by omega)]; exact m1
      · rw [FR 1 (by unfold TuR; omega) (by omega)]; exact m2
      · rw [F4 4 (by omega), w2 4 (by omega), r4, e4j 4 (by omega) (by omega), FR 2 (by unfold TuR; omega) (by omega)]; exact l1
      · rw [FR 1 (by unfold TuR; omega) (by omega), FR 2 (by unfold TuR; omega) (by omega)]; exact l2
      · rw [x2 4 k (by omega), wIe (by omega), w6 3 (by omega) (by unfold TuR; omega), v3]
      · rw [w6 3 (by omega) (by unfold TuR; omega), v3]; exact ⟨o, rfl, ho⟩
      · rw [F4 6 (by omega), w2 6 (by omega), r4, e46, w6 4 (by omega) (by unfold TuR; omega), v4]
      · rw [F4 7 (by omega), w2 7 (by omega), r4, e47, w6 5 (by omega) (by unfold TuR; omega), v5]
      · rw [w6 5 (by omega) (by unfold TuR; omega), v5, nI_0]
      · exact absurd (by rw [w6 4 (by omega) (by unfold TuR; omega), v4]) z
    · refine ⟨⟨?_, ?_, ?_, ?_, ?_⟩, ?_, by omega⟩
      · rw [x4, n5]; exact q0
      · rw [x5, w6 7 (by omega) (by unfold TuR; omega), v7]
      · rw [x6, n5, w3 2 (by omega) (by omega), c5, y2, w8]
      · rw [x7, n5, w3 3 (by omega) (by omega), c5, y3, w6 9 (by omega) (by unfold TuR; omega), v9]
      · rw [x8, n5]; exact q4
      · rw [w6 7 (by omega) (by unfold TuR; omega), v7]
    · exact h3.fr (FR 11 (by unfold TuR; omega) (by omega))
    · exact h4.fr (FA 33 k (by omega)) (fun j z1 z2 => FR j (by unfold TuR; omega) (by omega))
    · exact h5.fr (fun x z => FA x k (by omega)) (fun b z j z2 => FR _ (by unfold TuR; omega) (by omega)) (Nat.le_refl _)
    · exact q6.fr (F4 8 (by omega)) (fun b z => rfl)
    · exact h7.fr (FA 36 k (by omega)) (fun b z => FR _ (by unfold TuR; omega) (by omega))
    · exact fun z => absurd (by rw [w6 4 (by omega) (by unfold TuR; omega), v4]) z
    · exact q9.fr (fun b z => by rw [x2 38 _ (by omega), wIc (by omega)]) (fun b z j z2 => rfl) (by omega)
    · have lg : ∀ j, 90 ≤ j → j < 187 → σm7.1 47 0 j = σl.1 47 0 j := fun j z1 z2 => by rw [w6 j (by omega) (by unfold TuR; omega), r9 j (by omega)]
      refine ⟨?_, fun i hi hid j hj => ?_⟩
      · rw [lg 90 (by omega) (by omega), i4]
        rw [show min (min d 16 + 1) 16 = min (d + 1) 16 by omega]
      · by_cases z : i = 0
        · subst z
          rw [show d + 1 - 1 - 0 = d by omega, show 91 + 6 * 0 + j = 91 + j by omega, lg _ (by omega) (by omega)]
          have hj6 : j = 0 ∨ j = 1 ∨ j = 2 ∨ j = 3 ∨ j = 4 ∨ j = 5 := by omega
          rcases hj6 with rfl | rfl | rfl | rfl | rfl | rfl
          · rw [x10]; exact (i5.trans (by rw [re]; exact t2)).symm
          · rw [x11]; exact i6.symm
          · rw [x12]; exact i7.symm
          · rw [x13]; exact i8.symm
          · rw [x14]; exact i9.symm
          · rw [x15]; exact i10.symm
        · rw [lg _ (by omega) (by omega), i11 _ (by omega) (by omega), re, show d + 1 - 1 - i = d - 1 - (i - 1) by omega, x9 _ (Nat.mod_lt _ (by omega)) (by omega), wIc (by omega), w1 40 _ (by omega), rc 40 _ (by omega), show 91 + 6 * i + j - 6 = 91 + 6 * (i - 1) + j by omega]
          exact h10.2 (i - 1) (by omega) (by omega) j hj
    · exact h11.fr (FA 41 k (by omega)) (fun j z => FR j (by unfold TuR; omega) (by omega))
    · exact d3.fr (by rw [x2 1 0 (by omega), wIc (by omega), w1 1 0 (by omega)]) (fun o => by rw [x2 22 o (by omega), wIc (by omega), w1 22 o (by omega)])
    · exact (hMl.fr (r9a 44 0 (by omega))).fr (w5 44 0 (by omega))
    · exact fun j z1 z2 z3 z4 z5 => by rw [w5 8 0 (by omega), r9a 8 0 (by omega)]; exact hM8l j z1 z2 z3 z4 z5
  -- together
  have hfin : fX4_finish k σ = (gd (σ4.2.2 4 k 1 < 6) <| bd (fX2_holds (σ4.2.2 4 k 1) (wv o) σ4) fun (r8 : Int32) (σ7 : St) => (jn (fun (σ9 : St) => lt (wI σ9 4 k 5 (wv o)) fun (σ10 : St) => bd (fX5_enter k (σ10.1 4 k 2) (nI C) σ10) fun _ (σ11 : St) => some ((), σ11)) fun j84 => if r8 = 0 then j84 σ7 else (jn (fun (σ12 : St) => bd (fX4_spendTurn k (wv o) σ12) fun _ (σ13 : St) => bd (fX5_count k (wv o) (nI 5) σ13) fun _ (σ14 : St) => j84 σ14) fun j70 => if (σ7.1 4 k 5) = (-2) then j70 σ7 else (if (σ7.1 4 k 5) = wv o then j70 σ7 else bd (fX5_putOff k (σ7.1 4 k 5) σ7) fun _ (σ15 : St) => j70 σ15)))) := by
    unfold fX4_finish
    simp only [ltD]
    rw [g5, c1, hσ3]
    have d1' : fX0_decide k 32 k (nI C) σ3 = some ((), σ4) := d1
    rw [d1', bdS, d7]
  have hend : fX8_endsArbitration σm = (if wv o = (-2) then gi (nI 8) 251 <| gi (nI 8) 251 <| lt (wI σ9 47 0 (nI 8).toNatClampNeg ((σ9.1 47 0 (nI 8).toNatClampNeg) + (nI 1))) fun (σ14 : St) => some ((), σ14) else (jn (fun (σ10 : St) => bd (fX8_isElected (wv o) σ10) fun _ (σ11 : St) => some ((), σ11)) fun j132 => if σm.1 47 0 3 = (-2) then j132 σ9 else (if σm.1 47 0 3 = wv o then j132 σ9 else gi (nI 10) 251 <| gi (nI 10) 251 <| lt (wI σ9 47 0 (nI 10).toNatClampNeg ((σ9.1 47 0 (nI 10).toNatClampNeg) + (nI 1))) fun (σ12 : St) => gi (fX8_at (σm.1 47 0 3) (nI 9)) 251 <| gi (fX8_at (σm.1 47 0 3) (nI 9)) 251 <| lt (wI σ12 47 0 (fX8_at (σm.1 47 0 3) (nI 9)).toNatClampNeg ((σ12.1 47 0 (fX8_at (σm.1 47 0 3) (nI 9)).toNatClampNeg) + (nI 1))) fun (σ13 : St) => j132 σ13))) := by
    unfold fX8_endsArbitration
    have f1' : fX8_elects (nI C) (nI 1) σm = some (wv o, σe) := f1
    rw [gi_n (by omega) (by omega), cl (show 5 < 2147483648 by omega), c1, f1', bdS, gi_n (by omega) (by omega), cl (show 3 < 2147483648 by omega), re, ltD, gi_n (by omega) (by omega), c1, i1, bdS, gi_n (by omega) (by omega), gi_n (by omega) (by omega), cl (show 9 < 2147483648 by omega), l30, rl 9 (by omega), ltD, gi_n (by omega) (by omega), gi_n (by omega) (by omega), cl (show 7 < 2147483648 by omega)]
    rw [show (wI σl 47 0 9 (σm.1 47 0 9 + nI E)).1 47 0 7 = nI d by rw [wIj (by omega), rl 7 (by omega)]; exact yd]
    rw [add_n, ltD, gi_n (by omega) (by omega), cl (show 4 < 2147483648 by omega), ltD, gi_n (by omega) (by omega), ltD, gi_n (by omega) (by omega), ltD, hσ9]
  rw [hfin, hend, hP4, gd_t hB4.1]
  have q6 : Q6 u σ4 k (σ9.1 47 0) := h6.fr (by rw [r4, e4j 8 (by omega) (by omega)]) (fun b z => rm _ (by omega))
  have q9 : Q9 u σ4 k (σ9.1 47 0) s := h9.fr (fun b z => rc 38 _ (by omega)) (fun b z j z2 => rm _ (by omega)) (Nat.le_refl _)
  have q0 : σ4.1 5 k 0 = σ9.1 47 0 6 := by rw [rc 5 k (by omega), rm 6 (by omega)]; exact y0
  have q4 : σ4.1 5 k 4 = σ9.1 47 0 10 := by rw [rc 5 k (by omega), rm 10 (by omega)]; exact y4
  cases o with
  | none =>
    rw [wv_none] at tail ⊢
    rw [if_pos rfl, c_holds2, bdS, jnD, if_pos rfl, gi_n (by omega) (by omega), gi_n (by omega) (by omega), cl (by omega), ltD, rm 8 (by omega)]
    obtain ⟨σ', k1, k2, k3⟩ := tail σ4 (wI σ9 47 0 8 (σm.1 47 0 8 + nI 1)) (q6.fr rfl (fun b z => wIj (by omega))) (q9.fr (fun b z => rfl) (fun b z j z2 => wIj (by omega)) (Nat.le_refl _)) (by rw [wIj (by omega)]; exact q0) (by rw [wIj (by omega)]; exact q4) (fun _ _ _ => rfl) (fun _ _ => rfl) (fun _ _ _ => rfl) rfl (fun x y z => wIc z) (fun j z z2 => wIj (by omega)) (by rw [wIe (by omega), if_pos rfl])
    exact ⟨σ', _, k1, rfl, k2, k3⟩
  | some b =>
    have hb := ho b rfl
    have nb : ¬ nI b = -2 := by rw [nm2 (by omega)]; exact id
    rw [wv_some] at tail ⊢
    have h45 : σ4.1 4 k 5 = σm.1 47 0 3 := by rw [r4, e4j 5 (by omega) (by omega)]; exact e1
    obtain ⟨σ7, σm7, x1, x2, x3, x4, x5, x6, x7, x8, x9, x10, x11, x12⟩ := s_turn (σ := σ4) (σm := σ9) (x := σm.1 47 0 3) hu hb q6 q9 q0 q4 hP4 hB4 e2 h45
    rw [if_neg nb, c_holds hB4.2.2.2.2.1 hb hn, bdS, jnD, if_neg (by decide), x1 (fun (σ9 : St) => lt (wI σ9 4 k 5 (nI b)) fun (σ10 : St) => bd (fX5_enter k (σ10.1 4 k 2) (nI C) σ10) fun _ (σ11 : St) => some ((), σ11)), x2]
    obtain ⟨σ', k1, k2, k3⟩ := tail σ7 σm7 x3 x4 x5 x6 x7 x8 x9 x10 x11 (fun j z z2 => x12 j z2) (by rw [x12 8 (by unfold TuR; omega), rm 8 (by omega), if_neg nb])
    exact ⟨σ', σm7, k1, rfl, k2, k3⟩
