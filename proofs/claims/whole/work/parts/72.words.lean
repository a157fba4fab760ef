/-! ===== the reader and the model go on together; words that are asked for ===== -/
def tx (s j : Nat) : Nat := (chS s j).toNatClampNeg
def kw (s : Nat) : List Nat := wr (tx s) 0 (lenS.getD s 0)
theorem tx_ok : ∀ s, s < 9 → ∀ j, j < lenS.getD s 0 → chS s j = nI (tx s j) ∧ 97 ≤ tx s j ∧ tx s j ≤ 122 := by decide +kernel
theorem len_ok : ∀ s, s < 9 → 1 ≤ lenS.getD s 0 ∧ lenS.getD s 0 ≤ 6 := by decide +kernel
theorem kw_lt {s : Nat} (hs : s < 9) : Lt (kw s) := wr_lt _ (fun i hi => by
  rw [Nat.zero_add]
  have := tx_ok s hs i hi
  exact decide_eq_true ⟨this.2.1, this.2.2⟩)
theorem vB_31 {l : List Nat} (h : Lt l) (hl : l.length ≤ 6) : vB 27 l < 2147483648 := by
  have h1 := vB_lt (B := 27) (by omega) h
  have h2 : 27 ^ l.length ≤ 27 ^ 6 := Nat.pow_le_pow_right (by omega) hl
  have h3 : 27 ^ 6 < 2147483648 := by decide
  omega
theorem c_packed {s : Nat} (hs : s < 9) (σ : St) : fX3_packed s σ = some (nI (vB 27 (kw s)), σ) := by
  have hl := len_ok s hs
  unfold fX3_packed kw
  obtain ⟨x, i1, e⟩ := lp0 (fun m i (x : Int32) => LX3_packed_4 s (fun (x2 : Int32) (σ3 : St) => some (x2, σ3)) m x (nI i) σ) (fun x => some (x, σ)) (lenS.getD s 0) (by omega) (fun i x => x = nI (vB 27 (wr (tx s) 0 i))) 0 nI_0.symm
    (fun m x _ => by
      rw [LX3_packed_4, if_pos (by rw [le_n (by omega) (by omega)]; exact Nat.le_refl _)])
    (fun m i x hi hI => by
      obtain ⟨t1, t2, t3⟩ := tx_ok s hs i hi
      refine ⟨_, rfl, ?_⟩
      rw [LX3_packed_4, if_neg (by rw [le_n (by omega) (by omega)]; omega), gi_n hi (by omega), cl (by omega), t1, ltD, hI]
      unfold fX3_letter
      rw [sub_n t2, add_n, mul_n, add_n, add_n, wr, vB, Nat.zero_add, show tx s i - 97 + 1 = tx s i - 96 by omega])
  rw [nI_0] at e
  rw [e, i1]
/-- a word of the text is this one -/
def wdB (T : Nat → Nat) (n q s : Nat) : Bool := decide (tkK T n q = 1 ∧ wr T q (tkE T n q - q) = kw s)
theorem c_isWord {σ : St} {T : Nat → Nat} {n q s : Nat} (hs : s < 9) (h : CK σ T n q) : fX3_isWord s σ = some (if wdB T n q s = true then nI 1 else 0, σ) := by
  obtain ⟨h5, h7, h6, h81, h82⟩ := h
  unfold fX3_isWord wdB
  have hk : tkK T n q ≤ 4 := by
    unfold tkK
    split
    · omega
    · split
      · split <;> omega
      · split
        · split <;> omega
        · split <;> omega
  rw [h6]
  by_cases z : tkK T n q = 1
  · obtain ⟨w1, w2, w3, w4, w5⟩ := tk_word z
    have hW := wr_lt _ w5
    have b1 := vB_31 hW (by rw [wr_len]; exact w4)
    have hl := len_ok s hs
    have b2 := vB_31 (kw_lt hs) (by unfold kw; rw [wr_len]; exact hl.2)
    rw [if_pos (by rw [z]), c_packed hs, bdS, rz_if, h81 z]
    by_cases y : wr T q (tkE T n q - q) = kw s
    · rw [if_pos (by rw [y]), if_pos (decide_eq_true ⟨z, y⟩)]
    · rw [if_neg (by rw [eq_n b1 b2]; exact fun x => y (vB_inj (by omega) hW (kw_lt hs) x)), if_neg (fun x => y (of_decide_eq_true x).2)]
  · rw [if_neg (by rw [eq_n (by omega) (by omega)]; exact z), if_neg (fun x => z (of_decide_eq_true x).1)]
theorem kM_eq : ∀ k, k < 5 → (kM k = nI 2 ↔ k = 1) ∧ (kM k = nI 3 ↔ k = 2) ∧ (kM k = nI 59 ↔ k = 3) ∧ (kM k = 0 ↔ k = 0) := by decide
theorem tkK_le (T : Nat → Nat) (n q : Nat) : tkK T n q < 5 := by
  unfold tkK
  split
  · omega
  · split
    · split <;> omega
    · split
      · split <;> omega
      · split <;> omega
theorem m_isWord {σ : St} {T : Nat → Nat} {n q s : Nat} (hs : s < 9) (hX : MX σ T n) (h : MK σ T n q) : fX8_isWord s σ = some (if wdB T n q s = true then nI 1 else 0, σ) := by
  obtain ⟨h12, h11, h13, h14⟩ := h
  have hk := kM_eq _ (tkK_le T n q)
  have hl := len_ok s hs
  have hn := hX.n7
  unfold fX8_isWord wdB
  rw [h13]
  by_cases z : tkK T n q = 1
  · obtain ⟨w1, w2, w3, w4, w5⟩ := tk_word z
    rw [if_pos (hk.1.mpr z), h12, h11, sub_n w2]
    by_cases y : tkE T n q - q = lenS.getD s 0
    · rw [if_pos (by rw [y])]
      have L := lpX0 (fun m i => LX8_isWord_28 s (fun (σ1 : St) => some (nI 1, σ1)) m (nI i) σ) (some (nI 1, σ)) (some (0, σ)) (fun i => decide (T (q + i) ≠ tx s i)) (lenS.getD s 0) (by omega)
        (fun m => by
          rw [LX8_isWord_28, if_pos (by rw [le_n (by omega) (by omega)]; exact Nat.le_refl _)])
        (fun m i hi => by
          obtain ⟨t1, t2, t3⟩ := tx_ok s hs i hi
          obtain ⟨x1, x2⟩ := hX.2.2 (q + i) (by omega)
          rw [LX8_isWord_28, if_neg (by rw [le_n (by omega) (by omega)]; omega), h11, add_n, gi_n (by omega) (by omega), gi_n hi (by omega), cl (by omega), cl (by omega), x1, t1, add_n]
          by_cases g : T (q + i) = tx s i
          · rw [if_pos (by rw [g]), if_neg (fun v => (of_decide_eq_true v) g)]
          · rw [if_neg (by rw [eq_n (by omega) (by omega)]; exact g), if_pos (decide_eq_true g)])
      rw [nI_0] at L
      rw [L]
      by_cases g : exN (lenS.getD s 0) (fun i => decide (T (q + i) ≠ tx s i)) = true
      · rw [if_pos g, if_neg]
        intro v
        obtain ⟨i, i1, i2⟩ := exN_ex g
        have ee := (of_decide_eq_true v).2
        rw [y] at ee
        have := (wr_eq _).mp ee i i1
        rw [Nat.zero_add] at this
        obtain ⟨t1, t2, t3⟩ := tx_ok s hs i i1
        have hL := of_decide_eq_true (w5 i (by omega))
        exact (of_decide_eq_true i2) (by omega)
      · rw [if_neg g, if_pos]
        refine decide_eq_true ⟨z, ?_⟩
        rw [y]
        refine (wr_eq _).mpr (fun i hi => ?_)
        rw [Nat.zero_add]
        by_cases v : T (q + i) = tx s i
        · rw [v]
        · exfalso
          apply g
          have key : ∀ k, i < k → exN k (fun i => decide (T (q + i) ≠ tx s i)) = true := by
            intro k
            induction k with
            | zero => intro x; omega
            | succ k ih =>
              intro x
              rw [exN]
              by_cases e : i = k
              · rw [← e, decide_eq_true v, Bool.or_true]
              · rw [ih (by omega), Bool.true_or]
          exact key _ hi
    · rw [if_neg (by rw [eq_n (by omega) (by omega)]; exact y), if_neg]
      intro v
      have ee := congrArg List.length (of_decide_eq_true v).2
      unfold kw at ee
      rw [wr_len, wr_len] at ee
      exact y ee
  · rw [if_neg (fun v => z (hk.1.mp v)), if_neg (fun x => z (of_decide_eq_true x).1)]
theorem tkE_le {T : Nat → Nat} {n q : Nat} (h : q ≤ n) : tkE T n q ≤ n := by
  unfold tkE
  split
  · exact h
  · split
    · have := runN_le (isL T) (n - q) q; omega
    · split
      · have := runN_le (isG T) (n - q) q; omega
      · omega
theorem tkQ_le {T : Nat → Nat} {n p : Nat} (h : p ≤ n) : tkQ T n p ≤ n := by have := runN_le (isB T) (n - p) p; unfold tkQ; omega
/-- the class is about to step, the model has stepped -/
def SY (σ σm : St) (T : Nat → Nat) (n p : Nat) : Prop := CX σ T n ∧ MX σm T n ∧ p ≤ n ∧ σ.1 3 0 4 = nI n ∧ σ.1 3 0 5 = nI p ∧ MK σm T n (tkQ T n p)
/-- both have -/
def SK (σ σm : St) (T : Nat → Nat) (n q : Nat) : Prop := CX σ T n ∧ MX σm T n ∧ q ≤ n ∧ σ.1 3 0 4 = nI n ∧ CK σ T n q ∧ MK σm T n q
theorem sy_step {σ σm : St} {T : Nat → Nat} {n p : Nat} (h : SY σ σm T n p) : ∃ σ', fX3_step σ = some ((), σ') ∧ F3 σ σ' ∧ SK σ' σm T n (tkQ T n p) := by
  obtain ⟨h1, h2, h3, h4, h5, h6⟩ := h
  obtain ⟨σ', e1, e2, e3⟩ := c_step h1 h3 h4 h5
  exact ⟨σ', e1, e2, h1.f3 e2, h2, tkQ_le h3, (e2.2.2 4 (by omega)).trans h4, e3, h6⟩
theorem sk_go {σ σm : St} {T : Nat → Nat} {n q : Nat} (h : SK σ σm T n q) : ∃ σm', fX8_goesOn σm = some ((), σm') ∧ F8 σm σm' ∧ SY σ σm' T n (tkE T n q) := by
  obtain ⟨h1, h2, h3, h4, h5, h6⟩ := h
  obtain ⟨σ', e1, e2, e3⟩ := m_step h2 (tkE_le h3) h6.1
  exact ⟨σ', e1, e2, h1, h2.f8 e2, tkE_le h3, h4, h5.1, e3⟩
/-- what the reader may write: itself and its plan -/
def FC (P : Nat) (σ σ' : St) : Prop := (∀ x y, ¬ (x = 3 ∧ y = 0) → ¬ ((x = 2 ∨ 23 ≤ x ∧ x ≤ 30) ∧ y = P) → σ'.1 x y = σ.1 x y) ∧ σ'.2 = σ.2
def FM (σ σ' : St) : Prop := (∀ x y, ¬ (x = 8 ∧ y = 0) → ¬ (x = 45 ∧ y = 0) → σ'.1 x y = σ.1 x y) ∧ (∀ j, ¬ (11 ≤ j ∧ j ≤ 17) → σ'.1 8 0 j = σ.1 8 0 j) ∧ σ'.2.2 = σ.2.2 ∧ ∀ x y, ¬ (x = 46 ∧ y = 0) → σ'.2.1 x y = σ.2.1 x y
theorem FC.rf {P : Nat} {σ : St} : FC P σ σ := ⟨fun _ _ _ _ => rfl, rfl⟩
theorem FM.rf {σ : St} : FM σ σ := ⟨fun _ _ _ _ => rfl, fun _ _ => rfl, rfl, fun _ _ _ => rfl⟩
theorem FC.tr {P : Nat} {σ σ' σ'' : St} (h : FC P σ σ') (g : FC P σ' σ'') : FC P σ σ'' := ⟨fun x y z w => (g.1 x y z w).trans (h.1 x y z w), g.2.trans h.2⟩
theorem FM.tr {σ σ' σ'' : St} (h : FM σ σ') (g : FM σ' σ'') : FM σ σ'' := ⟨fun x y z w => (g.1 x y z w).trans (h.1 x y z w), fun j z => (g.2.1 j z).trans (h.2.1 j z), g.2.2.1.trans h.2.2.1, fun x y z => (g.2.2.2 x y z).trans (h.2.2.2 x y z)⟩
theorem F3.fc {P : Nat} {σ σ' : St} (h : F3 σ σ') : FC P σ σ' := ⟨fun x y z _ => h.1 x y z, h.2.1⟩
theorem F8.fm {σ σ' : St} (h : F8 σ σ') : FM σ σ' := ⟨fun x y z _ => h.1 x y z, fun j z => h.2.2 j (by omega), by rw [h.2.1], fun x y _ => by rw [h.2.1]⟩
theorem FC.w {P : Nat} {σ σ' : St} (h : FC P σ σ') {x y j : Nat} {v : Int32} (hx : (x = 3 ∧ y = 0) ∨ ((x = 2 ∨ 23 ≤ x ∧ x ≤ 30) ∧ y = P)) : FC P σ (wI σ' x y j v) := ⟨fun a b z w => (wIk (by omega)).trans (h.1 a b z w), h.2⟩
theorem FM.w8 {σ σ' : St} (h : FM σ σ') {j : Nat} {v : Int32} (hj : 11 ≤ j ∧ j ≤ 17) : FM σ (wI σ' 8 0 j v) := ⟨fun a b z w => (wIk z).trans (h.1 a b z w), fun i z => (wIj (by omega)).trans (h.2.1 i z), h.2.2.1, h.2.2.2⟩
theorem FM.w45 {σ σ' : St} (h : FM σ σ') {j : Nat} {v : Int32} : FM σ (wI σ' 45 0 j v) := ⟨fun a b z w => (wIk w).trans (h.1 a b z w), fun i z => (wIj (by omega)).trans (h.2.1 i z), h.2.2.1, h.2.2.2⟩
/-- both fail: by the same number, at the same place -/
def Fl (P : Nat) (σ σm : St) (rc rm : Option (Int32 × St)) : Prop := ∃ (σ' σm' : St) (k q : Nat), rc = some (0, σ') ∧ rm = some (0, σm') ∧ (1 ≤ k ∧ k ≤ 6) ∧ q ≤ 700 ∧ σ'.1 3 0 1 = nI k ∧ σ'.1 3 0 0 = nI q ∧ σm'.1 8 0 15 = nI k ∧ σm'.1 8 0 16 = nI q ∧ FC P σ σ' ∧ FM σm σm'
theorem c_fail {σ : St} {k : Int32} : fX3_fail k σ = some (0, wI (wI σ 3 0 1 k) 3 0 0 (σ.1 3 0 7)) := by
  unfold fX3_fail
  rw [ltD, ltD, wIj (by omega)]
theorem m_fail {σ : St} {k : Int32} : fX8_errs k σ = some (0, wI (wI σ 8 0 15 k) 8 0 16 (σ.1 8 0 11)) := by
  unfold fX8_errs
  rw [ltD, ltD, wIj (by omega)]
/-- they fail at the token that both have before them -/
theorem sk_fail {P : Nat} {σ0 σm0 σ σm : St} {T : Nat → Nat} {n q k : Nat} (h : SK σ σm T n q) (hc : FC P σ0 σ) (hm : FM σm0 σm) (hk : 1 ≤ k ∧ k ≤ 6) : Fl P σ0 σm0 (some (0, wI (wI σ 3 0 1 (nI k)) 3 0 0 (σ.1 3 0 7))) (some (0, wI (wI σm 8 0 15 (nI k)) 8 0 16 (σm.1 8 0 11))) := by
  obtain ⟨h1, h2, h3, h4, h5, h6⟩ := h
  have hn := h2.n7
  refine ⟨_, _, k, q, rfl, rfl, hk, by omega, (wIj (by omega)).trans (wIe (by omega)), ?_, (wIj (by omega)).trans (wIe (by omega)), ?_, (hc.w (by omega)).w (by omega), (hm.w8 (by omega)).w8 (by omega)⟩
  · rw [wIe (by omega)]; exact h5.2.1
  · rw [wIe (by omega)]; exact h6.2.1
