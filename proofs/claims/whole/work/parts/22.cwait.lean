/-! ===== pure: the class's side of waiting, ranks and words ===== -/
theorem wv_none : wv none = -2 := id rfl
theorem wv_some (c : Nat) : wv (some c) = nI c := id rfl
theorem m2_lt : ((-2 : Int32) < 0) = True := eq_true (by decide)
/-- the plan of run k: its number, how many boards -/
def CP (σ : St) (k n : Nat) : Prop := σ.2.2 4 k 1 < 6 ∧ σ.1 2 (σ.2.2 4 k 1) 3 = nI n ∧ n ≤ 6
/-- inner loop of waitersOf: every one below i that waits for b, or for one of S0, is in -/
theorem c_wInner (σ : St) (k n b r : Nat) (w : Nat → Option Nat) (hb : b < n) (hc : CP σ k n) (hw : ∀ o, o < n → σ.1 36 k o = wv (w o)) (hr : ∀ o, o < n → ∀ c, w o = some c → c < n) (a3 : Int32) (ke : Int32 → St → Option (Int32 × St)) (S0 : Nat) (h0 : S0 < 64)
    (T : Nat → Prop) (hT0 : ∀ o, S0.testBit o = true → T o) (hTs : ∀ o c, o < n → w o = some c → (c = b ∨ T c) → T o) :
    ∃ S : Nat, (S < 64 ∧ (∀ o, S.testBit o = true → T o) ∧ (∀ o, S0.testBit o = true → S.testBit o = true) ∧ ∀ o, o < n → ∀ c, w o = some c → (c = b ∨ S0.testBit c = true) → S.testBit o = true) ∧ LX4_waitersOf_18 k (nI b) a3 ke FU (nI S0) 0 σ = ke (nI S) σ := by
  obtain ⟨h1, h2, h3⟩ := hc
  obtain ⟨s, ⟨S, rfl, hs⟩, e⟩ := lp0 (fun m i (s : Int32) => LX4_waitersOf_18 k (nI b) a3 ke m s (nI i) σ) (fun s => ke s σ) n (by omega)
    (fun i s => ∃ S : Nat, s = nI S ∧ S < 64 ∧ (∀ o, S.testBit o = true → T o) ∧ (∀ o, S0.testBit o = true → S.testBit o = true) ∧ ∀ o, o < i → ∀ c, w o = some c → (c = b ∨ S0.testBit c = true) → S.testBit o = true) (nI S0) ⟨S0, rfl, h0, hT0, fun _ h => h, fun o h => by omega⟩
    (fun m s _ => by
      rw [LX4_waitersOf_18]
      simp (disch := omega) only [gd_t h1, h2, le_n, Nat.le_refl, if_true])
    (fun m i s hi hI => by
      obtain ⟨S, rfl, g1, g2, g3, g4⟩ := hI
      rw [LX4_waitersOf_18]
      simp (disch := omega) only [gd_t h1, h2, le_n, gi_n, cl, jnD, ltD, add_n, hw i hi]
      rw [if_neg (by omega)]
      have hin : ∀ T' : Nat, T' = S ||| 2 ^ i → T i → (∃ S' : Nat, nI T' = nI S' ∧ S' < 64 ∧ (∀ o, S'.testBit o = true → T o) ∧ (∀ o, S0.testBit o = true → S'.testBit o = true) ∧ ∀ o, o < i + 1 → ∀ c, w o = some c → (c = b ∨ S0.testBit c = true) → S'.testBit o = true) := by
        intro T' hT' hTi
        refine ⟨T', rfl, ?_, ?_, ?_, ?_⟩
        · rw [hT']
          have : 2 ^ i < 64 := Nat.lt_of_lt_of_le (Nat.pow_lt_pow_right (by omega) (show i < 6 by omega)) (by omega)
          exact Nat.or_lt_two_pow (n := 6) g1 this
        · intro o ho
          rw [hT', Nat.testBit_or, Nat.testBit_two_pow] at ho
          by_cases e : i = o
          · subst e; exact hTi
          · simp [e] at ho; exact g2 o ho
        · intro o ho
          rw [hT', Nat.testBit_or, g3 o ho]; rfl
        · intro o ho c hc h
          rw [hT', Nat.testBit_or, Nat.testBit_two_pow]
          by_cases e : i = o
          · simp [e]
          · rw [g4 o (by omega) c hc h]; rfl
      cases hwi : w i with
      | none =>
        refine ⟨nI S, ⟨S, rfl, g1, g2, g3, fun o ho c hc h => ?_⟩, ?_⟩
        · by_cases e : i = o
          · subst e; rw [hwi] at hc; cases hc
          · exact g4 o (by omega) c hc h
        · simp (disch := omega) only [wv_none, m2n, if_false, m2_lt, if_true]
      | some c =>
        have hcn := hr i hi c hwi
        simp (disch := omega) only [wv_some, eq_n, lt_0n, if_false, bit_n, shl_1, or_n]
        by_cases e : c = b
        · rw [if_pos e]
          exact ⟨nI (S ||| 2 ^ i), hin _ rfl (hTs i c hi hwi (Or.inl e)), rfl⟩
        · rw [if_neg e]
          by_cases q : S.testBit c = true
          · rw [if_neg (by rw [q]; decide)]
            exact ⟨nI (S ||| 2 ^ i), hin _ rfl (hTs i c hi hwi (Or.inr (g2 c q))), rfl⟩
          · rw [if_pos (by cases h : S.testBit c <;> simp_all)]
            refine ⟨nI S, ⟨S, rfl, g1, g2, g3, fun o ho c' hc h => ?_⟩, rfl⟩
            by_cases e2 : i = o
            · subst e2
              rw [hwi] at hc
              cases hc
              rcases h with h | h
              · exact absurd h e
              · exact absurd (g3 c h) q
            · exact g4 o (by omega) c' hc h)
  exact ⟨S, hs, e⟩
theorem dw_step {w : Nat → Option Nat} {f b o c : Nat} (hw : w b = some c) (hne : b ≠ o) : dw (f + 1) w b o = dw f w c o := by
  simp [dw, hw, hne]
/-- waitersOf: those that wait for b, by others, too -/
theorem c_waiters (σ : St) (k n b : Nat) (w : Nat → Option Nat) (μ : Nat → Nat) (hb : b < n) (hc : CP σ k n) (ha : Acy w n μ) (hm : ∀ b, b < n → μ b < n) (hw : ∀ o, o < n → σ.1 36 k o = wv (w o)) :
    fX4_waitersOf k (nI b) σ = some (nI (bsN n (fun o => decide (o ≠ b) && dw 6 w o b)), σ) := by
  have hc' := hc
  obtain ⟨h1, h2, h3⟩ := hc
  unfold fX4_waitersOf
  obtain ⟨s, ⟨S, rfl, g1, g2, g3⟩, e⟩ := lp0 (fun m i (s : Int32) => LX4_waitersOf_4 k (nI b) (fun (x10 : Int32) (σ11 : St) => some (x10, σ11)) m s (nI i) σ) (fun s => some (s, σ)) n (by omega)
    (fun i s => ∃ S : Nat, s = nI S ∧ S < 64 ∧ (∀ o, S.testBit o = true → o < n ∧ o ≠ b ∧ dw 6 w o b = true) ∧ ∀ o, o < n → o ≠ b → dw i w o b = true → S.testBit o = true) 0 ⟨0, rfl, by omega, fun o h => by simp at h, fun o _ hne h => by simp [dw, hne] at h⟩
    (fun m s _ => by
      rw [LX4_waitersOf_4]
      simp (disch := omega) only [gd_t h1, h2, le_n, Nat.le_refl, if_true])
    (fun m i s hi hI => by
      obtain ⟨S, rfl, g1, g2, g3⟩ := hI
      rw [LX4_waitersOf_4]
      simp (disch := omega) only [gd_t h1, h2, le_n, add_n]
      rw [if_neg (by omega)]
      obtain ⟨S', ⟨q1, q2, q3, q4⟩, e⟩ := c_wInner σ k n b i w hb hc' hw (fun o ho c h => (ha o ho c h).1) (nI i) (fun (x8 : Int32) (σ9 : St) => LX4_waitersOf_4 k (nI b) (fun (x10 : Int32) (σ11 : St) => some (x10, σ11)) m x8 (nI (i + 1)) σ9) S g1 (fun o => o < n ∧ o ≠ b ∧ dw 6 w o b = true) g2
        (fun o c ho hoc h => by
          have hmo := hm o ho
          obtain ⟨hcn, hmc⟩ := ha o ho c hoc
          have hne : o ≠ b := by
            rintro rfl
            rcases h with h | h
            · subst h; omega
            · have key : ∀ (f x : Nat), x < n → dw f w x o = true → x ≠ o → μ o < μ x := by
                intro f
                induction f with
                | zero => intro x _ hd hx; simp [dw, hx] at hd
                | succ f ih =>
                  intro x hx hd hxo
                  cases hwx : w x with
                  | none => simp [dw, hwx, hxo] at hd
                  | some y =>
                    rw [dw_step hwx hxo] at hd
                    obtain ⟨hy, hmy⟩ := ha x hx y hwx
                    by_cases e : y = o
                    · subst e; exact hmy
                    · exact Nat.lt_trans (ih y hy hd e) hmy
              have := key 6 c hcn h.2.2 h.2.1
              omega
          refine ⟨ho, hne, ?_⟩
          rw [dw_fuel ha b 6 7 o ho (by omega) (by omega), dw_step hoc hne]
          rcases h with h | h
          · rw [h]; exact dw_self 6 w b
          · exact h.2.2)
      refine ⟨nI S', ⟨S', rfl, q1, q2, fun o ho hne hd => ?_⟩, e⟩
      cases hwo : w o with
      | none => simp [dw, hwo, hne] at hd
      | some c =>
        rw [dw_step hwo hne] at hd
        by_cases e : c = b
        · exact q4 o ho c hwo (Or.inl e)
        · exact q4 o ho c hwo (Or.inr (g3 c (ha o ho c hwo).1 e hd)))
  have hS : S = bsN n (fun o => decide (o ≠ b) && dw 6 w o b) := by
    apply Nat.eq_of_testBit_eq
    intro o
    rw [bsN_bit]
    by_cases ho : o < n
    · by_cases hne : o = b
      · subst hne
        cases h : S.testBit o
        · simp
        · exact absurd rfl (g2 o h).2.1
      · have hmo := hm o ho
        cases h : S.testBit o
        · cases hd : dw 6 w o b
          · simp
          · rw [dw_fuel ha b 6 n o ho (by omega) (by omega)] at hd
            rw [g3 o ho hne hd] at h
            cases h
        · simp [ho, hne, (g2 o h).2.2]
    · cases h : S.testBit o
      · simp [ho]
      · exact absurd (g2 o h).1 ho
  rw [← hS]
  exact e
theorem c_rank (σ : St) (k n b : Nat) (w : Nat → Option Nat) (μ : Nat → Nat) (rk : Nat → Nat) (hb : b < n) (hc : CP σ k n) (ha : Acy w n μ) (hm : ∀ b, b < n → μ b < n) (hw : ∀ o, o < n → σ.1 36 k o = wv (w o)) (hr : ∀ o, o < n → σ.1 26 (σ.2.2 4 k 1) o = nI (rk o)) (hr7 : ∀ b, b < n → rk b ≤ 7) :
    fX4_rankOfDay k (nI b) σ = some (nI (rkD w rk n b), σ) := by
  have hc' := hc
  obtain ⟨h1, h2, h3⟩ := hc
  unfold fX4_rankOfDay rkD
  rw [c_waiters σ k n b w μ hb hc' ha hm hw, bdS, ltD, shl_1 (by omega), or_n]
  have hlt : 2 ^ b ||| bsN n (fun o => decide (o ≠ b) && dw 6 w o b) < 64 :=
    Nat.or_lt_two_pow (n := 6) (Nat.lt_of_lt_of_le (Nat.pow_lt_pow_right (by omega) (show b < 6 by omega)) (by omega)) (bsN_64 h3 _)
  obtain ⟨s, hs, e⟩ := lp0 (fun m i (s : Int32) => LX4_rankOfDay_15 k (nI (2 ^ b ||| bsN n (fun o => decide (o ≠ b) && dw 6 w o b))) (fun (x9 : Int32) (σ10 : St) => some (x9, σ10)) m s (nI i) σ) (fun s => some (s, σ)) n (by omega) (fun i s => s = nI (mxN i (fun o => dw 6 w o b) rk)) 0 rfl
    (fun m s _ => by
      rw [LX4_rankOfDay_15]
      simp (disch := omega) only [gd_t h1, h2, le_n, Nat.le_refl, if_true])
    (fun m i s hi hI => by
      refine ⟨_, rfl, ?_⟩
      have hle : mxN i (fun o => dw 6 w o b) rk ≤ 7 := mxN_le (fun b hb => hr7 b (by omega))
      have hri := hr7 i hi
      have hbit : (2 ^ b ||| bsN n (fun o => decide (o ≠ b) && dw 6 w o b)).testBit i = dw 6 w i b := by
        rw [Nat.testBit_or, Nat.testBit_two_pow, bsN_bit]
        by_cases e : b = i
        · subst e; simp [dw_self]
        · simp [e, Ne.symm e, hi]
      rw [LX4_rankOfDay_15, has7 (by omega) (by omega), hbit]
      simp (disch := omega) only [gd_t h1, h2, le_n, gi_n, cl, jnD, ltD, add_n, hr i hi]
      rw [if_neg (by omega), hI, mxN]
      by_cases hd : dw 6 w i b = true
      · simp (disch := omega) only [hd, if_true, lt_n, eq_0, true_and]
        rw [if_neg (by omega)]
        split <;> rfl
      · rw [if_neg hd, if_pos rfl, if_neg (fun z => hd z.1)])
  rw [hs] at e
  exact e
