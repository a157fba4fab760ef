/-! ===== settled ticks and edges ===== -/
theorem ch_spec (p : PP) : ∀ T, (∀ t, chT p (T + 1) ≤ t → t ≤ T → ∀ b, b < pN p → tD (tb p (T + 1)) b t = tD (tb p (T + 1)) b (chT p (T + 1))) ∧ (chT p (T + 1) = 0 ∨ ∃ b, b < pN p ∧ tD (tb p (T + 1)) b (chT p (T + 1)) ≠ tD (tb p (T + 1)) b (chT p (T + 1) - 1)) := by
  intro T
  induction T with
  | zero => exact ⟨fun t h1 h2 b hb => by
      have h0 := chT_le p 0
      rw [show t = chT p (0 + 1) by omega], Or.inl (by simp [chT])⟩
  | succ T ih =>
    have hl := chT_le p T
    by_cases q : exN (pN p) (fun b => decide (tD (tb p (T + 1 + 1)) b (T + 1) ≠ tD (tb p (T + 1 + 1)) b (T + 1 - 1))) = true
    · have hc : chT p (T + 1 + 1) = T + 1 := by
        rw [chT, if_neg (by omega)]
        exact if_pos q
      rw [hc]
      obtain ⟨i, i1, i2⟩ := exN_iff.mp q
      exact ⟨fun t h1 h2 b hb => by rw [show t = T + 1 by omega], Or.inr ⟨i, i1, of_decide_eq_true i2⟩⟩
    · have hc : chT p (T + 1 + 1) = chT p (T + 1) := by
        rw [chT, if_neg (by omega)]
        exact if_neg q
      rw [hc]
      have same : ∀ b, b < pN p → tD (tb p (T + 1 + 1)) b (T + 1) = tD (tb p (T + 1 + 1)) b T := fun b hb => by
        by_cases w : tD (tb p (T + 1 + 1)) b (T + 1) = tD (tb p (T + 1 + 1)) b T
        · exact w
        · exact absurd (exN_of (f := fun b => decide (tD (tb p (T + 1 + 1)) b (T + 1) ≠ tD (tb p (T + 1 + 1)) b (T + 1 - 1))) (decide_eq_true w) hb) q
      refine ⟨fun t h1 h2 b hb => ?_, ?_⟩
      · rw [tb_D p b (show chT p (T + 1) < T + 1 by omega)]
        by_cases w : t = T + 1
        · rw [w, same b hb, tb_D p b (show T < T + 1 by omega)]
          exact ih.1 T hl (Nat.le_refl _) b hb
        · rw [tb_D p b (show t < T + 1 by omega)]
          exact ih.1 t h1 (by omega) b hb
      · rcases ih.2 with w | ⟨b, hb, w⟩
        · exact Or.inl w
        · refine Or.inr ⟨b, hb, ?_⟩
          rw [tb_D p b (show chT p (T + 1) < T + 1 by omega), tb_D p b (show chT p (T + 1) - 1 < T + 1 by omega)]
          exact w
/-- every board drives what it drives at the end -/
def enN (p : PP) (t : Nat) : Bool := !exN (pN p) (fun b => decide (tD (tb p 401) b t ≠ tD (tb p 401) b 400))
theorem set_eq (p : PP) : suN (enN p) 400 = chT p 401 := by
  have hl := chT_le p 400
  obtain ⟨h1, h2⟩ := ch_spec p 400
  have hin : ∀ t, chT p 401 ≤ t → t ≤ 400 → enN p t = true := fun t a b => by
    unfold enN
    rw [Bool.not_eq_true']
    cases q : exN (pN p) (fun b => decide (tD (tb p 401) b t ≠ tD (tb p 401) b 400)) with
    | false => rfl
    | true =>
      obtain ⟨i, i1, i2⟩ := exN_iff.mp q
      exact absurd ((h1 t a b i i1).trans (h1 400 hl (Nat.le_refl _) i i1).symm) (of_decide_eq_true i2)
  refine suN_uniq ?_ 400 hl (fun t a b => hin t a (by omega))
  rcases h2 with w | ⟨b, hb, w⟩
  · exact Or.inl w
  · right
    unfold enN
    rw [Bool.not_eq_false']
    refine exN_of (f := fun b => decide (tD (tb p 401) b (chT p 401 - 1) ≠ tD (tb p 401) b 400)) (decide_eq_true ?_) hb
    rw [h1 400 hl (Nat.le_refl _) b hb]
    exact fun z => w z.symm
theorem m_areSettled {σ : St} {p : PP} (hp : POk p) (h : MPr σ p) (hA : MA σ p (tb p 401) 401) {t : Nat} (ht : t < 401) : fX8_areSettled (nI t) σ = some (if enN p t = true then nI 1 else 0, σ) := by
  have hn := hp.1
  unfold fX8_areSettled
  have := lpX0 (fun m i => LX8_areSettled_2 (nI t) (fun (σ1 : St) => some (nI 1, σ1)) m (nI i) σ) (some (nI 1, σ)) (some (0, σ)) (fun b => decide (tD (tb p 401) b t ≠ tD (tb p 401) b 400)) (pN p) (by omega)
    (fun m => by
      rw [LX8_areSettled_2]
      simp (disch := omega) only [gi_n, cl, h.1, le_n, Nat.le_refl, if_true])
    (fun m i hi => by
      obtain ⟨c1, c2⟩ := (hA.1 i hi t ht).1
      obtain ⟨d1, d2⟩ := (hA.1 i hi 400 (by omega)).1
      rw [LX8_areSettled_2]
      simp (disch := omega) only [gi_n, cl, h.1, le_n, cell8, c1, d1, add_n, eq_n]
      rw [if_neg (by omega)]
      by_cases q : tD (tb p 401) i t = tD (tb p 401) i 400
      · rw [if_pos q, if_neg (fun z => (of_decide_eq_true z) q)]
      · rw [if_neg q, if_pos (decide_eq_true q)])
  rw [nI_0] at this
  rw [this]
  unfold enN
  cases exN (pN p) (fun b => decide (tD (tb p 401) b t ≠ tD (tb p 401) b 400)) <;> rfl
theorem m_settled {σ : St} {p : PP} (hp : POk p) (h : MPr σ p) (hA : MA σ p (tb p 401) 401) : fX8_settledAt σ = some (nI (chT p 401), σ) := by
  unfold fX8_settledAt
  have key : ∀ (n m : Nat), n ≤ 400 → n < m → ∀ ke : Int32 → St → Option (Int32 × St), LX8_settledAt_4 ke m (nI n) σ = ke (nI (suN (enN p) n)) σ := by
    intro n
    induction n with
    | zero =>
      intro m _ hm ke
      cases m with
      | zero => omega
      | succ m => rw [LX8_settledAt_4, if_pos (by rw [nI_0]; decide)]; rfl
    | succ n ih =>
      intro m hn hm ke
      cases m with
      | zero => omega
      | succ m =>
        rw [LX8_settledAt_4, if_neg (by rw [le_0 (by omega)]; omega), sub_n (by omega), Nat.add_sub_cancel, m_areSettled hp h hA (by omega), bdS, suN]
        by_cases q : enN p n = true
        · rw [if_pos q, if_neg (by decide), if_pos q, pk_m1]
          exact ih m (by omega) (by omega) ke
        · rw [if_neg q, if_pos rfl, if_neg q]
  rw [key 400 FU (Nat.le_refl _) (by have := FU_gt; omega), set_eq]
theorem c_changed {σ : St} {p : PP} (hp : POk p) (h : PR σ p 400) : σ.1 1 0 15 = nI (chT p 401) ∧ σ.1 1 0 16 = nI (tK (tb p 401)) := by
  obtain ⟨_, T, hT, hL, hs⟩ := h
  obtain ⟨e1, e2⟩ := st_end hp hT hs
  exact ⟨by rw [← e2]; exact hL.2.2.2, by rw [← e1]; exact hL.2.1.2.2.2.2⟩
/-- how often a line changes in what is seen, at ticks 1 .. n -/
def edN (f : Nat → Nat) (l : Nat) : Nat → Nat
  | 0 => 0
  | n + 1 => edN f l n + (if (f (n + 1) ^^^ f n).testBit l = true then 1 else 0)
theorem edN_le (f : Nat → Nat) (l : Nat) : ∀ n, edN f l n ≤ n := by
  intro n
  induction n with
  | zero => exact Nat.le_refl _
  | succ n ih => rw [edN]; split <;> omega
theorem edN_tail {f : Nat → Nat} {l T : Nat} (h : ∀ t, T ≤ t → t ≤ 400 → f t = f T) : ∀ k, T + k ≤ 400 → edN f l (T + k) = edN f l T := by
  intro k
  induction k with
  | zero => intro _; rfl
  | succ k ih =>
    intro hk
    show edN f l (T + k + 1) = _
    rw [edN, h (T + k + 1) (by omega) (by omega), h (T + k) (by omega) (by omega), Nat.xor_self, if_neg (by simp), Nat.add_zero]
    exact ih (by omega)
theorem xor64 {a b : Nat} (ha : a < 64) (hb : b < 64) : a ^^^ b < 64 := Nat.xor_lt_two_pow (n := 6) ha hb
theorem c_edges {σ : St} {p : PP} (hp : POk p) (h : PR σ p 400) {b l : Nat} (hb : b < pN p) (hl : l < 6) : fX1_edgesOf (nI b) (nI l) σ = some (nI (edN (tS (tb p 401) b) l 400), σ) := by
  have h' := h
  obtain ⟨_, T, hT, hL, hs⟩ := h'
  have h64 : ∀ u, u ≤ 400 → tS (tb p 401) b u < 64 := fun u hu => by
    obtain ⟨v, hv, _, _, c, _⟩ := c_cell hp h hb hu
    exact c.2
  unfold fX1_edgesOf
  obtain ⟨s, ⟨_, hs'⟩, e⟩ := lpU (fun m i (s : Int32) => LX1_edgesOf_5 (nI b) (nI l) (fun (x7 : Int32) (σ8 : St) => some (x7, σ8)) m s (nI i) σ) (fun s => some (s, σ)) (T + 1) (fun i s => 1 ≤ i ∧ s = nI (edN (tS (tb p 401) b) l (i - 1)))
    (fun m s _ => by
      rw [LX1_edgesOf_5, hL.2.2.1, if_pos (by rw [lt_n (by omega) (by omega)]; omega)])
    (fun m i s hi hI => by
      refine ⟨_, ⟨by omega, rfl⟩, ?_⟩
      have x1 := h64 i (by omega)
      have x2 := h64 (i - 1) (by omega)
      have x3 := xor64 x1 x2
      rw [LX1_edgesOf_5, hL.2.2.1, if_neg (by rw [lt_n (by omega) (by omega)]; omega), c_sight hp h hb (by omega), bdS, sub_n hI.1, c_sight hp h hb (by omega), bdS, xor_n, has7 (by omega) (by omega), hI.2]
      simp only [jnD, add_n]
      obtain ⟨k, rfl⟩ : ∃ k, i = k + 1 := ⟨i - 1, by omega⟩
      rw [Nat.add_sub_cancel, Nat.add_sub_cancel, edN]
      rw [Nat.add_sub_cancel] at x2
      by_cases q : (tS (tb p 401) b (k + 1) ^^^ tS (tb p 401) b k).testBit l = true
      · rw [if_pos q, if_neg (by decide), if_pos q]
      · rw [if_neg q, if_pos rfl, if_neg q, Nat.add_zero (edN _ _ _)]) T 1 0 FU (by omega) (by have := FU_gt; omega) ⟨Nat.le_refl _, rfl⟩
  rw [hs', Nat.add_sub_cancel] at e
  have ht := edN_tail (f := tS (tb p 401) b) (l := l) (T := T) (fun t a c => by
      have r1 := (st_read hp hT (Nat.le_refl _) hs hb c).2.1
      have r2 := (st_read hp hT (Nat.le_refl _) hs hb hT).2.1
      rw [Nat.min_eq_right a] at r1
      rw [Nat.min_self] at r2
      rw [← r1, ← r2]) (400 - T) (by omega)
  rw [show T + (400 - T) = 400 by omega] at ht
  rw [ht]
  exact e
theorem m_edgesL {σ : St} {p : PP} (hp : POk p) (hA : MA σ p (tb p 401) 401) {b l : Nat} (hb : b < pN p) (hl : l < 6) (ke : Int32 → St → Option (Int32 × St)) : LX8_edges_51 (nI b) (nI l) ke FU 0 (nI 1) σ = ke (nI (edN (tS (tb p 401) b) l 400)) σ := by
  have hn := hp.1
  obtain ⟨s, ⟨_, hs'⟩, e⟩ := lpU (fun m i (s : Int32) => LX8_edges_51 (nI b) (nI l) ke m s (nI i) σ) (fun s => ke s σ) 401 (fun i s => 1 ≤ i ∧ s = nI (edN (tS (tb p 401) b) l (i - 1)))
    (fun m s _ => by
      rw [LX8_edges_51, if_pos (by rw [le_n (by omega) (by omega)]; omega)])
    (fun m i s hi hI => by
      refine ⟨_, ⟨by omega, rfl⟩, ?_⟩
      obtain ⟨a1, a2⟩ := (hA.1 b hb i (by omega)).2.1
      obtain ⟨b1, b2⟩ := (hA.1 b hb (i - 1) (by omega)).2.1
      have x3 := xor64 a2 b2
      rw [LX8_edges_51, if_neg (by rw [le_n (by omega) (by omega)]; omega), sub_n hI.1]
      simp (disch := omega) only [gi_n, cl, cell8, a1, b1, xor_n, has8, ltD, add_n]
      rw [hI.2]
      obtain ⟨k, rfl⟩ : ∃ k, i = k + 1 := ⟨i - 1, by omega⟩
      rw [Nat.add_sub_cancel, Nat.add_sub_cancel, edN]
      by_cases q : (tS (tb p 401) b (k + 1) ^^^ tS (tb p 401) b k).testBit l = true
      · rw [if_pos q, if_neg (by decide), if_pos q, add_n]
      · rw [if_neg q, if_pos rfl, if_neg q, Nat.add_zero (edN _ _ _), add_0]) 400 1 0 FU (by omega) (by have := FU_gt; omega) ⟨Nat.le_refl _, rfl⟩
  rw [hs'] at e
  exact e
