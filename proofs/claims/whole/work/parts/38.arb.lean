/-! ===== the arbiter decides ===== -/
theorem PR.of {σ σ' : St} {p : PP} {un : Nat} (h : PR σ p un) (he : ∀ a b, a ≠ 0 → σ'.1 a b = σ.1 a b) : PR σ' p un := by
  have e1 := he 1 0 (by omega)
  have e10 := he 10 0 (by omega)
  have e12 : ∀ b, σ'.1 12 b = σ.1 12 b := fun b => he 12 b (by omega)
  have e14 : ∀ b, σ'.1 14 b = σ.1 14 b := fun b => he 14 b (by omega)
  have e16 : ∀ b, σ'.1 16 b = σ.1 16 b := fun b => he 16 b (by omega)
  have e18 : ∀ b, σ'.1 18 b = σ.1 18 b := fun b => he 18 b (by omega)
  have e20 : ∀ b, σ'.1 20 b = σ.1 20 b := fun b => he 20 b (by omega)
  have e22 : ∀ b, σ'.1 22 b = σ.1 22 b := fun b => he 22 b (by omega)
  unfold PR PL CPr CA CS A22 D13 at h ⊢
  simp only [e1, e10, e12, e14, e16, e18, e20, e22]
  exact h
theorem w0 {σ : St} {j : Nat} {v : Int32} : ∀ a b, a ≠ 0 → (wI σ 0 0 j v).1 a b = σ.1 a b := fun a b h => by
  funext c
  rw [rI, if_neg (fun z => h z.1)]
theorem cpy6 (f g : Nat → Int32) {b : Nat} (hb : b < 6) : va_cpy f g ((0 : Int32).toNatClampNeg) ((0 : Int32).toNatClampNeg) ((nI 6).toNatClampNeg) b = f b := by
  rw [cl (by omega)]
  show (if 0 ≤ b ∧ b < 0 + 6 then f (0 + (b - 0)) else g b) = f b
  rw [if_pos ⟨by omega, by omega⟩, Nat.zero_add, Nat.sub_zero]
abbrev SA : List (Nat × Nat × Nat) := [(1, 0, 1), (14, 0, 6), (16, 0, 6), (18, 0, 6), (20, 0, 6), (22, 0, 6), (10, 0, 1), (0, 0, 1), (12, 0, 6)]
theorem c_decide {σ : St} {k P c2 k2 win : Nat} {q : PP} {w2 : Nat → Nat} (hq : POk q) (hw2 : ∀ b, b < pN q → w2 b < 64) (hP : σ.2.2 4 k 1 = P) (hP6 : P < 6) (hwin : win ≤ 400) (h2 : σ.1 2 P 2 = nI win) (h3 : σ.1 2 P 3 = nI (pN q)) (h0 : σ.1 2 P 0 = nI (pG q)) (h1 : σ.1 2 P 1 = nI (pF q)) (hs : ∀ b, b < pN q → σ.1 24 P b = nI (pS q b)) (hL : ∀ l, l < 6 → σ.1 33 k l = nI (pL q l)) (hc : aln c2 = 6) (hS : SA.all (fun e => !(e.1 == c2)) = true) (hw1 : ∀ b, b < pN q → σ.1 c2 k2 b = nI (pW q b)) (h27 : ∀ b, b < pN q → σ.1 27 P b = nI (w2 b)) (hD : D13 σ) :
    ∃ σ', fX0_decide k c2 k2 (nI (pC q)) σ = some ((), σ') ∧ Kp SA σ σ' ∧ D13 σ' ∧ σ'.1 0 0 1 = nI (aW q win) ∧ σ'.1 0 0 2 = nI (aS q w2 win) ∧ σ'.1 0 0 3 = nI (aE q w2 win) ∧ σ'.1 0 0 4 = wv (onN (aS q w2 win)) := by
  have hn := hq.1
  have hLb := hq.2.2.2.2.2.2.2.1
  have hSW : SW.all (fun e => !(e.1 == c2)) = true := by
    simp only [SA, SW, List.all_cons, List.all_nil, Bool.and_true, Bool.and_eq_true] at hS ⊢
    exact ⟨hS.1, hS.2.2.2.2.2.2.2.2⟩
  obtain ⟨s7, e7, a1, a2, a3, a4, a5, a6, a7⟩ := c_wire (σ := σ) (k1 := P) (n := pN q) (g := pG q) (st := thL (pL q) 1) (br := thL (pL q) 2) (s := pS q) hn h3 h0 (fun b hb => ⟨hs b hb, hq.2.2.2.2.2.1 b hb⟩)
  have hW7 : CW s7 (pN q) (pG q) (pS q) (pL q) := ⟨a3, a4, a7, a5, a6⟩
  have hD7 : D13 s7 := by
    obtain ⟨d, d1, d2, d3⟩ := hD
    exact ⟨d, d1, by rw [a2 13 (by omega)]; exact d2, fun o ho u g1 g2 => by rw [kpc a1 22 o rfl]; exact d3 o ho u g1 g2⟩
  obtain ⟨s9, e9, b1, b2, b3, b4⟩ := c_round hq hW7 hD7 (va_cpy (s7.1 c2 k2) (s7.1 10 0) ((0 : Int32).toNatClampNeg) ((0 : Int32).toNatClampNeg) ((nI 6).toNatClampNeg)) (fun b hb => by
    rw [cpy6 _ _ (by omega), kpc a1 c2 k2 hSW]; exact hw1 b hb) hwin
  have p1 : ∀ f : Nat → Int32, (wA s7 10 0 f).1 2 P 1 = nI (pF q) := fun f => by rw [rA, if_neg (fun z => by omega), kpc a1 2 P rfl]; exact h1
  have gd6 : ¬ (0 : Int32) < 0 ∧ ¬ (0 : Int32) < 0 ∧ ¬ ((nI 6) : Int32) < 0 ∧ (0 : Int32).toNatClampNeg + (nI 6).toNatClampNeg ≤ 6 ∧ (0 : Int32).toNatClampNeg + (nI 6).toNatClampNeg ≤ 6 := by decide
  have hA64 : aW q win < 64 := Nat.lt_of_lt_of_le (aW_le hq win) (Nat.pow_le_pow_right (n := 2) (by omega) hn)
  have e11 : fX1_winnersAt (nI win) s9 = some (nI (aW q win), s9) := c_winners hq b4 (Nat.le_refl _)
  have e14 := c_even hq (b4.of (σ' := wI s9 0 0 1 (nI (aW q win))) w0) (Nat.le_refl _)
  have hF : (if (if faN q (tT (tb q 401)) win = true then nI 1 else 0) = 0 then 0 else nI 1) = nI (aF q win) := by
    unfold aF
    split
    · rw [if_neg (by decide)]
    · rw [if_pos rfl, nI_0]
  unfold fX0_decide
  rw [hP, gd_t hP6, h2, ltD, c_lines (by omega) (fun l hl => ⟨hL l hl, hLb l hl⟩), bdS, c_lines (by omega) (fun l hl => ⟨hL l hl, hLb l hl⟩), bdS, e7, bdS, hc, gd_t gd6, ltD, p1, e9, bdS, e11, bdS, ltD, e14, bdS, ltD, hF, ltD, jnD]
  have k9 : Kp SA σ s9 := (kp_rf.tr a1 (kp_pick [0, 8] rfl)).tr b1 (kp_pick [0, 1, 2, 3, 4, 5, 6] rfl)
  have k19 : Kp SA σ (wI (wI (wI s9 0 0 1 (nI (aW q win))) 0 0 3 (nI (aF q win))) 0 0 2 0) := ((k9.wI (fr_m 7 rfl (Nat.le_refl _) (by omega))).wI (fr_m 7 rfl (Nat.le_refl _) (by omega))).wI (fr_m 7 rfl (Nat.le_refl _) (by omega))
  have w19 : ∀ a b, a ≠ 0 → (wI (wI (wI s9 0 0 1 (nI (aW q win))) 0 0 3 (nI (aF q win))) 0 0 2 0).1 a b = s9.1 a b := fun a b h => by rw [w0 a b h, w0 a b h, w0 a b h]
  have f1 : (wI (wI (wI s9 0 0 1 (nI (aW q win))) 0 0 3 (nI (aF q win))) 0 0 2 0).1 0 0 1 = nI (aW q win) := by simp [rI]
  have f2 : (wI (wI (wI s9 0 0 1 (nI (aW q win))) 0 0 3 (nI (aF q win))) 0 0 2 0).1 0 0 2 = 0 := by simp [rI]
  have f3 : (wI (wI (wI s9 0 0 1 (nI (aW q win))) 0 0 3 (nI (aF q win))) 0 0 2 0).1 0 0 3 = nI (aF q win) := by simp [rI]
  generalize wI (wI (wI s9 0 0 1 (nI (aW q win))) 0 0 3 (nI (aF q win))) 0 0 2 0 = τ at k19 w19 f1 f2 f3
  have hDτ : D13 τ := by
    obtain ⟨d, d1, d2, d3⟩ := b3
    exact ⟨d, d1, by rw [w19 1 0 (by omega)]; exact d2, fun o ho u g1 g2 => by rw [w19 22 o (by omega)]; exact d3 o ho u g1 g2⟩
  have fin : ∀ (r : St) (x y : Nat), Kp SA σ r → D13 r → x < 64 → r.1 0 0 1 = nI (aW q win) → r.1 0 0 2 = nI x → r.1 0 0 3 = nI y → ∃ σ', bd (fX0_only (r.1 0 0 2) r) (fun (r22 : Int32) (σ21 : St) => lt (wI σ21 0 0 4 r22) fun (σ23 : St) => some ((), σ23)) = some ((), σ') ∧ Kp SA σ σ' ∧ D13 σ' ∧ σ'.1 0 0 1 = nI (aW q win) ∧ σ'.1 0 0 2 = nI x ∧ σ'.1 0 0 3 = nI y ∧ σ'.1 0 0 4 = wv (onN x) := by
    intro r x y g1 g2 g3 g4 g5 g6
    rw [g5, c_only r g3, bdS, ltD]
    refine ⟨_, rfl, g1.wI (fr_m 7 rfl (Nat.le_refl _) (by omega)), ?_, ?_, ?_, ?_, ?_⟩
    · obtain ⟨d, d1, d2, d3⟩ := g2
      exact ⟨d, d1, by rw [w0 1 0 (by omega)]; exact d2, fun o ho u g1 g2 => by rw [w0 22 o (by omega)]; exact d3 o ho u g1 g2⟩
    · rw [rI, if_neg (fun z => by omega)]; exact g4
    · rw [rI, if_neg (fun z => by omega)]; exact g5
    · rw [rI, if_neg (fun z => by omega)]; exact g6
    · rw [rI, if_pos ⟨rfl, rfl, rfl⟩]
  by_cases z : aW q win = 0
  · rw [if_pos (by rw [f1, z, nI_0])]
    have hs0 : aS q w2 win = 0 := by unfold aS; rw [if_pos z]
    have he0 : aE q w2 win = aF q win := by unfold aE; rw [if_pos z, Nat.add_zero]
    rw [hs0, he0]
    exact fin τ 0 _ k19 hDτ (by omega) f1 (by rw [f2, nI_0]) f3
  · rw [if_neg (by rw [f1, eq_0 (by omega)]; exact z), gd_t gd6, ltD]
    have hq2 := pw2_ok hq hw2 (aW_le hq win)
    have hWτ : CW τ (pN q) (pG q) (pS q) (pL q) := by
      obtain ⟨c1, c2, c3, c4, c5⟩ := b2
      exact ⟨by rw [w19 1 0 (by omega)]; exact c1, by rw [w19 1 0 (by omega)]; exact c2, fun a b ha hb => by rw [w19 12 a (by omega)]; exact c3 a b ha hb, by rw [w19 1 0 (by omega)]; exact c4, by rw [w19 1 0 (by omega)]; exact c5⟩
    obtain ⟨s25, e25, d1, d2, d3, d4⟩ := c_round hq2 (σ := τ) hWτ hDτ (va_cpy (τ.1 27 P) (τ.1 10 0) ((0 : Int32).toNatClampNeg) ((0 : Int32).toNatClampNeg) ((nI 6).toNatClampNeg)) (fun b hb => by
      have hb' : b < pN q := hb
      rw [cpy6 _ _ (by omega), w19 27 P (by omega), kpc b1 27 P rfl, kpc a1 27 P rfl]; exact h27 b hb) hwin
    have p2 : ∀ f : Nat → Int32, (wA τ 10 0 f).1 2 P 1 = nI (pF q) := fun f => by rw [rA, if_neg (fun z => by omega), w19 2 P (by omega), kpc b1 2 P rfl, kpc a1 2 P rfl]; exact h1
    have p3 : ∀ f : Nat → Int32, (wA τ 10 0 f).1 0 0 1 = nI (aW q win) := fun f => by rw [rA, if_neg (fun z => by omega)]; exact f1
    have e27 : fX1_winnersAt (nI win) s25 = some (nI (aS q w2 win), s25) := by
      have := c_winners hq2 d4 (Nat.le_refl _)
      have ha : aS q w2 win = wiN (pw2 q w2 (aW q win)) (tO (tb (pw2 q w2 (aW q win)) 401)) win (pN (pw2 q w2 (aW q win))) := by unfold aS; rw [if_neg z]; rfl
      rw [ha]; exact this
    have hS64 : aS q w2 win < 64 := by
      unfold aS
      rw [if_neg z]
      exact Nat.lt_of_lt_of_le (aW_le hq2 win) (Nat.pow_le_pow_right (n := 2) (by omega) hn)
    have e30 := c_even hq2 (d4.of (σ' := wI s25 0 0 2 (nI (aS q w2 win))) w0) (Nat.le_refl _)
    have hF2 : (if (if faN (pw2 q w2 (aW q win)) (tT (tb (pw2 q w2 (aW q win)) 401)) win = true then nI 1 else 0) = 0 then 0 else nI 1) = nI (aF (pw2 q w2 (aW q win)) win) := by
      unfold aF
      split
      · rw [if_neg (by decide)]
      · rw [if_pos rfl, nI_0]
    have g3 : (wI s25 0 0 2 (nI (aS q w2 win))).1 0 0 3 = nI (aF q win) := by rw [rI, if_neg (fun z => by omega), kpc d1 0 0 rfl]; exact f3
    have e25' : fX1_play (nI (aW q win)) (nI (pF q)) (nI win) (wA τ 10 0 (va_cpy (τ.1 27 P) (τ.1 10 0) ((0 : Int32).toNatClampNeg) ((0 : Int32).toNatClampNeg) ((nI 6).toNatClampNeg))) = some ((), s25) := e25
    rw [p3, p2, e25', bdS, e27, bdS, ltD, e30, bdS, ltD, hF2, g3, add_n]
    have hE : aE q w2 win = aF q win + aF (pw2 q w2 (aW q win)) win := by unfold aE; rw [if_neg z]
    rw [← hE]
    refine fin _ _ _ (((k19.tr d1 (kp_pick [0, 1, 2, 3, 4, 5, 6] rfl)).wI (fr_m 7 rfl (Nat.le_refl _) (by omega))).wI (fr_m 7 rfl (Nat.le_refl _) (by omega))) ?_ hS64 ?_ ?_ ?_
    · obtain ⟨d, x1, x2, x3⟩ := d3
      exact ⟨d, x1, by rw [w0 1 0 (by omega), w0 1 0 (by omega)]; exact x2, fun o ho u g1 g2 => by rw [w0 22 o (by omega), w0 22 o (by omega)]; exact x3 o ho u g1 g2⟩
    · rw [rI, if_neg (fun z => by omega), rI, if_neg (fun z => by omega), kpc d1 0 0 rfl]; exact f1
    · rw [rI, if_neg (fun z => by omega), rI, if_pos ⟨rfl, rfl, rfl⟩]
    · rw [rI, if_pos ⟨rfl, rfl, rfl⟩]
