/-! ===== the greatest, sure and settled ticks, edges ===== -/
def riN (p : PP) : Nat → Nat × Nat
  | 0 => (0, 0)
  | b + 1 => if (pC p).testBit b = true ∧ (riN p b).1 ≤ pW p b then (pW p b, if pW p b ≤ (riN p b).1 then (riN p b).2 ||| 2 ^ b else 2 ^ b) else riN p b
theorem riN_p {p : PP} {i : Nat} (q : (pC p).testBit i = true) (q2 : (riN p i).1 ≤ pW p i) : riN p (i + 1) = (pW p i, if pW p i ≤ (riN p i).1 then (riN p i).2 ||| 2 ^ i else 2 ^ i) := by
  rw [riN, if_pos ⟨q, q2⟩]
theorem riN_n {p : PP} {i : Nat} (q : ¬ ((pC p).testBit i = true ∧ (riN p i).1 ≤ pW p i)) : riN p (i + 1) = riN p i := by
  rw [riN, if_neg q]
theorem riN_lt {p : PP} (hp : POk p) : ∀ n, n ≤ pN p → (riN p n).1 < 64 ∧ ((riN p n).2 = 0 → (riN p n).1 = 0) := by
  intro n
  induction n with
  | zero => intro _; exact ⟨by show 0 < 64; decide, fun _ => rfl⟩
  | succ n ih =>
    intro h
    have hi := ih (by omega)
    have hw := hp.2.2.2.2.2.2.1 n (by omega)
    rw [riN]
    split
    · refine ⟨hw, fun z => ?_⟩
      exfalso
      have h2 : 0 < 2 ^ n := Nat.two_pow_pos n
      simp only at z
      split at z
      · have := Nat.right_le_or (n := (riN p n).2) (m := 2 ^ n); omega
      · omega
    · exact hi
theorem c_greatest {σ : St} {p : PP} (hp : POk p) (h : CPr σ p) : fX1_greatestOf (nI (pC p)) σ = some (nI (riN p (pN p)).2, σ) := by
  have hn := hp.1
  have hC := pC_lt hp
  unfold fX1_greatestOf
  obtain ⟨s, hs, e⟩ := lp0 (fun m i (s : Int32 × Int32) => LX1_greatestOf_7 (nI (pC p)) (fun (x9 : Int32) (σ10 : St) => some (x9, σ10)) m s.1 s.2 (nI i) σ) (fun s => some (s.2, σ)) (pN p) (by omega) (fun i s => s = (nI (riN p i).1, nI (riN p i).2)) (0, 0) rfl
    (fun m s _ => by
      rw [LX1_greatestOf_7, h.1, if_pos (by rw [le_n (by omega) (by omega)]; exact Nat.le_refl _)])
    (fun m i s hi hI => by
      refine ⟨_, rfl, ?_⟩
      have hw := hp.2.2.2.2.2.2.1 i hi
      have hr := (riN_lt hp i (by omega)).1
      subst hI
      show LX1_greatestOf_7 (nI (pC p)) (fun (x9 : Int32) (σ10 : St) => some (x9, σ10)) (m + 1) (nI (riN p i).1) (nI (riN p i).2) (nI i) σ = LX1_greatestOf_7 (nI (pC p)) (fun (x9 : Int32) (σ10 : St) => some (x9, σ10)) m (nI (riN p (i + 1)).1) (nI (riN p (i + 1)).2) (nI (i + 1)) σ
      rw [LX1_greatestOf_7, h.1, if_neg (by rw [le_n (by omega) (by omega)]; omega), has7 (by omega) (by omega)]
      simp (disch := omega) only [jnD, ltD, gi_n, cl, add_n, shl_1, h.2.2.2.2.2.1 i hi, lt_n, le_n, or_n]
      by_cases q : (pC p).testBit i = true
      · rw [if_pos q, if_neg (by decide)]
        by_cases q2 : (riN p i).1 ≤ pW p i
        · rw [if_neg (by omega), riN_p q q2]
          by_cases q3 : pW p i ≤ (riN p i).1
          · rw [if_pos q3, if_pos q3]
          · rw [if_neg q3, if_neg q3]
        · rw [if_pos (by omega), riN_n (fun z => q2 z.2)]
      · rw [if_neg q, if_pos rfl, riN_n (fun z => q z.1)])
  rw [hs] at e
  exact e
theorem m_right {σ : St} {p : PP} (hp : POk p) (h : MPr σ p) : fX8_rightOnes σ = some (nI (riN p (pN p)).2, σ) := by
  have hn := hp.1
  have hC := pC_lt hp
  unfold fX8_rightOnes
  obtain ⟨s, hs, e⟩ := lp0 (fun m i (s : Int32 × Int32) => LX8_rightOnes_6 (fun (x9 : Int32) (σ10 : St) => some (x9, σ10)) m s.1 s.2 (nI i) σ) (fun s => some (s.2, σ)) (pN p) (by omega) (fun i s => s.2 = nI (riN p i).2 ∧ (((riN p i).2 = 0 ∧ s.1 = -1) ∨ ((riN p i).2 ≠ 0 ∧ s.1 = nI (riN p i).1))) (-1, 0) ⟨rfl, Or.inl ⟨rfl, rfl⟩⟩
    (fun m s _ => by
      rw [LX8_rightOnes_6]
      simp (disch := omega) only [gi_n, cl, h.1, le_n, Nat.le_refl, if_true])
    (fun m i s hi hI => by
      have hw := hp.2.2.2.2.2.2.1 i hi
      obtain ⟨hr, hr0⟩ := riN_lt hp i (by omega)
      obtain ⟨s1, s2⟩ := s
      obtain ⟨hI1, hI2⟩ := hI
      simp only at hI1 hI2
      subst hI1
      have h2i : 0 < 2 ^ i := Nat.two_pow_pos i
      show ∃ s', _ ∧ LX8_rightOnes_6 (fun (x9 : Int32) (σ10 : St) => some (x9, σ10)) (m + 1) s1 (nI (riN p i).2) (nI i) σ = _
      rw [LX8_rightOnes_6, h.2.2.2.1, has8 (by omega) (by omega)]
      simp (disch := omega) only [jnD, ltD, gi_n, cl, h.1, le_n, add_n, shl_1, h.2.2.2.2.2.1 i hi, or_n]
      rw [if_neg (by omega)]
      by_cases q : (pC p).testBit i = true
      · rw [if_pos q, if_neg (by decide)]
        rcases hI2 with ⟨g1, rfl⟩ | ⟨g1, rfl⟩
        · have g2 := hr0 g1
          have hlt : (-1 : Int32) < nI (pW p i) := by
            apply Int32.lt_iff_toInt_lt.mpr
            rw [show (nI (pW p i)).toInt = (pW p i : Int) from nI_toInt (by omega)]
            show (-1 : Int) < _
            omega
          rw [if_neg (fun z => absurd (Int32.lt_trans z hlt) (Int32.lt_irrefl)), if_neg (Int32.not_le.mpr hlt), riN_p q (by omega)]
          refine ⟨(nI (pW p i), nI (2 ^ i)), ⟨?_, Or.inr ⟨?_, rfl⟩⟩, rfl⟩
          · show nI (2 ^ i) = nI (if pW p i ≤ (riN p i).1 then (riN p i).2 ||| 2 ^ i else 2 ^ i)
            rw [g1, Nat.zero_or]
            split <;> rfl
          · show (if pW p i ≤ (riN p i).1 then (riN p i).2 ||| 2 ^ i else 2 ^ i) ≠ 0
            rw [g1, Nat.zero_or]
            split <;> omega
        · by_cases q2 : (riN p i).1 ≤ pW p i
          · rw [if_neg (by rw [lt_n (by omega) (by omega)]; omega), riN_p q q2]
            refine ⟨(nI (pW p i), nI (if pW p i ≤ (riN p i).1 then (riN p i).2 ||| 2 ^ i else 2 ^ i)), ⟨rfl, Or.inr ⟨?_, rfl⟩⟩, ?_⟩
            · show (if pW p i ≤ (riN p i).1 then (riN p i).2 ||| 2 ^ i else 2 ^ i) ≠ 0
              split
              · have := Nat.right_le_or (n := (riN p i).2) (m := 2 ^ i); omega
              · omega
            · by_cases q3 : pW p i ≤ (riN p i).1
              · rw [if_pos (by rw [le_n (by omega) (by omega)]; exact q3), if_pos q3]
              · rw [if_neg (by rw [le_n (by omega) (by omega)]; exact q3), if_neg q3]
          · rw [if_pos (by rw [lt_n (by omega) (by omega)]; omega), riN_n (fun z => q2 z.2)]
            exact ⟨(nI (riN p i).1, nI (riN p i).2), ⟨rfl, Or.inr ⟨g1, rfl⟩⟩, rfl⟩
      · rw [if_neg q, if_pos rfl, riN_n (fun z => q z.1)]
        exact ⟨(s1, nI (riN p i).2), ⟨rfl, hI2⟩, rfl⟩)
  rw [hs.1] at e
  exact e
/-- from where on, up to n, f holds -/
def suN (f : Nat → Bool) : Nat → Nat
  | 0 => 0
  | n + 1 => if f n = true then suN f n else n + 1
theorem suN_le (f : Nat → Bool) : ∀ n, suN f n ≤ n := by
  intro n
  induction n with
  | zero => exact Nat.le_refl _
  | succ n ih => rw [suN]; split <;> omega
theorem suN_uniq {f : Nat → Bool} {r : Nat} (h0 : r = 0 ∨ f (r - 1) = false) : ∀ n, r ≤ n → (∀ t, r ≤ t → t < n → f t = true) → suN f n = r := by
  intro n
  induction n with
  | zero => intro h _; rw [suN]; omega
  | succ n ih =>
    intro h1 h2
    rw [suN]
    by_cases q : r = n + 1
    · have : f n = false := by
        have := h0.resolve_left (by omega)
        rw [q] at this
        exact this
      rw [this, q]; rfl
    · rw [if_pos (h2 n (by omega) (by omega))]
      exact ih (by omega) (fun t a b => h2 t a (by omega))
theorem suN_tail {f : Nat → Bool} {T : Nat} (h : ∀ t, T ≤ t → t ≤ 400 → f t = f T) (hT : T ≤ 400) : (if suN f (T + 1) = T + 1 then none else some (suN f (T + 1))) = (if suN f 401 = 401 then none else some (suN f 401)) := by
  by_cases q : f T = true
  · have hk : ∀ k, T + 1 + k ≤ 401 → suN f (T + 1 + k) = suN f T := by
      intro k
      induction k with
      | zero => intro _; show suN f (T + 1) = _; rw [suN, if_pos q]
      | succ k ih =>
        intro hk
        show suN f (T + 1 + k + 1) = _
        rw [suN, if_pos (by rw [h _ (by omega) (by omega)]; exact q)]
        exact ih (by omega)
    have h1 := hk 0 (by omega)
    have h2 := hk (400 - T) (by omega)
    rw [show T + 1 + (400 - T) = 401 by omega] at h2
    have h3 := suN_le f T
    rw [Nat.add_zero] at h1
    rw [h1, h2, if_neg (by omega), if_neg (by omega)]
  · have h1 : suN f (T + 1) = T + 1 := by rw [suN, if_neg q]
    have h2 : suN f 401 = 401 := by rw [suN, if_neg (by rw [h 400 hT (by omega)]; exact q)]
    rw [h1, h2, if_pos rfl, if_pos rfl]
/-- the sure tick of a pass -/
def srN (p : PP) : Option Nat := if suN (fun t => decide (wiN p (tO (tb p 401)) t (pN p) = (riN p (pN p)).2)) 401 = 401 then none else some (suN (fun t => decide (wiN p (tO (tb p 401)) t (pN p) = (riN p (pN p)).2)) 401)
theorem wiN_64 {p : PP} (hp : POk p) (ou : Nat → Nat → Option Nat) (u : Nat) : wiN p ou u (pN p) < 64 := bsN_64 hp.1 _
theorem riN2_64 {p : PP} (hp : POk p) : ∀ n, n ≤ pN p → (riN p n).2 < 64 := by
  have hn := hp.1
  intro n
  induction n with
  | zero => intro _; show 0 < 64; decide
  | succ n ih =>
    intro h
    have h2 : 2 ^ n < 64 := Nat.lt_of_lt_of_le (Nat.pow_lt_pow_right (by omega) (show n < 6 by omega)) (by omega)
    rw [riN]
    split
    · show (if _ then _ else _) < 64
      split
      · exact or64 (ih (by omega)) (by omega)
      · exact h2
    · exact ih (by omega)
theorem m_sure {σ : St} {p : PP} (hp : POk p) (h : MPr σ p) (hA : MA σ p (tb p 401) 401) : fX8_sureAt σ = some (wv (srN p), σ) := by
  have hr := riN2_64 hp (pN p) (Nat.le_refl _)
  unfold fX8_sureAt
  rw [m_right hp h, bdS]
  have key : ∀ (n m : Nat), n ≤ 401 → n < m → ∀ ke : Int32 → St → Option (Int32 × St), LX8_sureAt_9 (nI (riN p (pN p)).2) ke m (nI n) σ = ke (nI (suN (fun t => decide (wiN p (tO (tb p 401)) t (pN p) = (riN p (pN p)).2)) n)) σ := by
    intro n
    induction n with
    | zero =>
      intro m _ hm ke
      cases m with
      | zero => omega
      | succ m => rw [LX8_sureAt_9, if_pos (by rw [nI_0]; decide)]; rfl
    | succ n ih =>
      intro m hn hm ke
      cases m with
      | zero => omega
      | succ m =>
        have hw := wiN_64 hp (tO (tb p 401)) n
        rw [LX8_sureAt_9, if_neg (by rw [le_0 (by omega)]; omega), sub_n (by omega), Nat.add_sub_cancel, m_winners hp h (by omega) hA (by omega), bdS, suN]
        by_cases q : wiN p (tO (tb p 401)) n (pN p) = (riN p (pN p)).2
        · rw [if_pos (by rw [q]), if_pos (decide_eq_true q), pk_m1]
          exact ih m (by omega) (by omega) ke
        · rw [if_neg (by rw [eq_n (by omega) (by omega)]; exact q), if_neg (fun z => q (of_decide_eq_true z))]
  rw [key 401 FU (by omega) (by have := FU_gt; omega)]
  have hl := suN_le (fun t => decide (wiN p (tO (tb p 401)) t (pN p) = (riN p (pN p)).2)) 401
  unfold srN
  by_cases q : suN (fun t => decide (wiN p (tO (tb p 401)) t (pN p) = (riN p (pN p)).2)) 401 = 401
  · rw [if_pos (by rw [q]), if_pos q, wv_none]
  · rw [if_neg (by rw [eq_n (by omega) (by omega)]; exact q), if_neg q, wv_some]
theorem c_sure {σ : St} {p : PP} (hp : POk p) (h : PR σ p 400) : fX1_sureFrom σ = some (wv (srN p), σ) := by
  have hr := riN2_64 hp (pN p) (Nat.le_refl _)
  have hP : CPr σ p := by obtain ⟨_, T, _, g, _⟩ := h; exact g.1
  have h' := h
  obtain ⟨_, T, hT, hL, hs⟩ := h'
  unfold fX1_sureFrom
  rw [hP.2.2.2.1, c_greatest hp hP, bdS, hL.2.2.1, ltD]
  have key : ∀ (n m : Nat), n ≤ 401 → n < m → ∀ (fr : Int32) (ke : Int32 → St → Option (Int32 × St)), LX1_sureFrom_17 (nI (riN p (pN p)).2) ke m fr (nI n + (-1)) σ = ke (if suN (fun t => decide (wiN p (tO (tb p 401)) t (pN p) = (riN p (pN p)).2)) n = n then fr else nI (suN (fun t => decide (wiN p (tO (tb p 401)) t (pN p) = (riN p (pN p)).2)) n)) σ := by
    intro n
    induction n with
    | zero =>
      intro m _ hm fr ke
      cases m with
      | zero => omega
      | succ m => rw [LX1_sureFrom_17, if_pos (by decide)]; rfl
    | succ n ih =>
      intro m hn hm fr ke
      cases m with
      | zero => omega
      | succ m =>
        have hw := wiN_64 hp (tO (tb p 401)) n
        have hl := suN_le (fun t => decide (wiN p (tO (tb p 401)) t (pN p) = (riN p (pN p)).2)) n
        rw [LX1_sureFrom_17, pk_m1, if_neg (by rw [lt_0n (by omega)]; exact id), c_winners hp h (by omega), bdS, suN]
        by_cases q : wiN p (tO (tb p 401)) n (pN p) = (riN p (pN p)).2
        · rw [if_pos (by rw [q]), ih m (by omega) (by omega), if_pos (decide_eq_true q)]
          rw [if_neg (show ¬ suN (fun t => decide (wiN p (tO (tb p 401)) t (pN p) = (riN p (pN p)).2)) n = n + 1 by omega)]
          by_cases q2 : suN (fun t => decide (wiN p (tO (tb p 401)) t (pN p) = (riN p (pN p)).2)) n = n
          · rw [if_pos q2, q2]
          · rw [if_neg q2]
        · rw [if_neg (by rw [eq_n (by omega) (by omega)]; exact q), if_neg (fun z => q (of_decide_eq_true z)), if_pos rfl]
  have := key (T + 1) FU (by omega) (by have := FU_gt; omega) (-2) (fun (x6 : Int32) (σ7 : St) => some (x6, σ7))
  rw [pk_m1] at this
  rw [this]
  have ht := suN_tail (f := fun t => decide (wiN p (tO (tb p 401)) t (pN p) = (riN p (pN p)).2)) (T := T) (fun t a b => by
    have : wiN p (tO (tb p 401)) t (pN p) = wiN p (tO (tb p 401)) T (pN p) := bsN_congr (fun i hi => by
      have r1 := (st_read hp hT (Nat.le_refl _) hs hi b).2.2.2
      have r2 := (st_read hp hT (Nat.le_refl _) hs hi hT).2.2.2
      rw [Nat.min_eq_right a] at r1
      rw [Nat.min_self] at r2
      rw [← r1, ← r2])
    show decide _ = decide _
    rw [this]) hT
  have hsr : srN p = (if suN (fun t => decide (wiN p (tO (tb p 401)) t (pN p) = (riN p (pN p)).2)) (T + 1) = T + 1 then none else some (suN (fun t => decide (wiN p (tO (tb p 401)) t (pN p) = (riN p (pN p)).2)) (T + 1))) := ht.symm
  rw [hsr]
  split
  · rw [wv_none]
  · rw [wv_some]
