/-! ===== the text: tokens on both sides ===== -/
/-- on while f holds, d steps at most -/
def runN (f : Nat → Bool) : Nat → Nat → Nat
  | 0, p => p
  | d + 1, p => if f p = true then runN f d (p + 1) else p
theorem runN_ge (f : Nat → Bool) : ∀ d p, p ≤ runN f d p := by
  intro d
  induction d with
  | zero => intro p; exact Nat.le_refl _
  | succ d ih =>
    intro p
    rw [runN]
    split
    · have := ih (p + 1); omega
    · exact Nat.le_refl _
theorem runN_le (f : Nat → Bool) : ∀ d p, runN f d p ≤ p + d := by
  intro d
  induction d with
  | zero => intro p; exact Nat.le_refl _
  | succ d ih =>
    intro p
    rw [runN]
    split
    · have := ih (p + 1); omega
    · omega
theorem runN_all (f : Nat → Bool) : ∀ d p i, p ≤ i → i < runN f d p → f i = true := by
  intro d
  induction d with
  | zero => intro p i h1 h2; rw [runN] at h2; omega
  | succ d ih =>
    intro p i h1 h2
    rw [runN] at h2
    by_cases q : f p = true
    · rw [if_pos q] at h2
      by_cases e : i = p
      · rw [e]; exact q
      · exact ih (p + 1) i (by omega) h2
    · rw [if_neg q] at h2; omega
def isB (T : Nat → Nat) (i : Nat) : Bool := decide (T i = 32)
def isL (T : Nat → Nat) (i : Nat) : Bool := decide (97 ≤ T i ∧ T i ≤ 122)
def isG (T : Nat → Nat) (i : Nat) : Bool := decide (48 ≤ T i ∧ T i ≤ 57)
/-- where the next token begins, where it ends, of what kind it is (0 end, 1 word, 2 whole, 3 mark, 4 bad) -/
def tkQ (T : Nat → Nat) (n p : Nat) : Nat := runN (isB T) (n - p) p
def tkE (T : Nat → Nat) (n q : Nat) : Nat := if n ≤ q then q else if isL T q = true then runN (isL T) (n - q) q else if isG T q = true then runN (isG T) (n - q) q else q + 1
def tkK (T : Nat → Nat) (n q : Nat) : Nat := if n ≤ q then 0 else if isL T q = true then (if tkE T n q - q ≤ 6 then 1 else 4) else if isG T q = true then (if tkE T n q - q ≤ 3 then 2 else 4) else if T q = 59 then 3 else 4
/-- letters, the last first; digits as a number -/
def wr (T : Nat → Nat) (q : Nat) : Nat → List Nat
  | 0 => []
  | j + 1 => (T (q + j) - 96) :: wr T q j
def vD (T : Nat → Nat) (q : Nat) : Nat → Nat
  | 0 => 0
  | j + 1 => vD T q j * 10 + (T (q + j) - 48)
def vB (B : Nat) : List Nat → Nat
  | [] => 0
  | d :: r => vB B r * B + d
def CX (σ : St) (T : Nat → Nat) (n : Nat) : Prop := ∃ c, σ.1 6 0 1 = nI c ∧ n ≤ c ∧ c ≤ 700 ∧ ∀ i, i < n → σ.1 42 0 i &&& nI 255 = nI (T i) ∧ T i < 256
def MX (σ : St) (T : Nat → Nat) (n : Nat) : Prop := σ.1 8 0 10 = nI n ∧ n ≤ 700 ∧ ∀ i, i < n → σ.1 43 0 i = nI (T i) ∧ T i < 256
def F3 (σ σ' : St) : Prop := (∀ x y, ¬ (x = 3 ∧ y = 0) → σ'.1 x y = σ.1 x y) ∧ σ'.2 = σ.2 ∧ ∀ j, (j = 0 ∨ j = 1 ∨ j = 4) → σ'.1 3 0 j = σ.1 3 0 j
def F8 (σ σ' : St) : Prop := (∀ x y, ¬ (x = 8 ∧ y = 0) → σ'.1 x y = σ.1 x y) ∧ σ'.2 = σ.2 ∧ ∀ j, ¬ (11 ≤ j ∧ j ≤ 14) → σ'.1 8 0 j = σ.1 8 0 j
theorem F3.rf {σ : St} : F3 σ σ := ⟨fun _ _ _ => rfl, rfl, fun _ _ => rfl⟩
theorem F8.rf {σ : St} : F8 σ σ := ⟨fun _ _ _ => rfl, rfl, fun _ _ => rfl⟩
theorem F3.tr {σ σ' σ'' : St} (h : F3 σ σ') (g : F3 σ' σ'') : F3 σ σ'' := ⟨fun x y z => (g.1 x y z).trans (h.1 x y z), g.2.1.trans h.2.1, fun j z => (g.2.2 j z).trans (h.2.2 j z)⟩
theorem F8.tr {σ σ' σ'' : St} (h : F8 σ σ') (g : F8 σ' σ'') : F8 σ σ'' := ⟨fun x y z => (g.1 x y z).trans (h.1 x y z), g.2.1.trans h.2.1, fun j z => (g.2.2 j z).trans (h.2.2 j z)⟩
theorem F3.w {σ σ' : St} (h : F3 σ σ') {j : Nat} {v : Int32} (hj : 5 ≤ j) : F3 σ (wI σ' 3 0 j v) := ⟨fun x y z => (wIk z).trans (h.1 x y z), h.2.1, fun i z => (wIj (by omega)).trans (h.2.2 i z)⟩
theorem F8.w {σ σ' : St} (h : F8 σ σ') {j : Nat} {v : Int32} (hj : 11 ≤ j ∧ j ≤ 14) : F8 σ (wI σ' 8 0 j v) := ⟨fun x y z => (wIk z).trans (h.1 x y z), h.2.1, fun i z => (wIj (by omega)).trans (h.2.2 i z)⟩
theorem CX.f3 {σ σ' : St} {T : Nat → Nat} {n : Nat} (h : CX σ T n) (f : F3 σ σ') : CX σ' T n := by
  unfold CX
  rw [f.1 6 0 (by omega), f.1 42 0 (by omega)]
  exact h
theorem MX.f8 {σ σ' : St} {T : Nat → Nat} {n : Nat} (h : MX σ T n) (f : F8 σ σ') : MX σ' T n := by
  unfold MX
  rw [f.2.2 10 (by omega), f.1 43 0 (by omega)]
  exact h
theorem c_byte {σ : St} {T : Nat → Nat} {n i : Nat} (h : CX σ T n) (hi : i < n) : fX6_byteAt (nI i) σ = some (nI (T i), σ) := by
  obtain ⟨c, h1, h2, h3, h4⟩ := h
  unfold fX6_byteAt
  rw [if_neg (by rw [lt_0n (by omega)]; exact id), h1, if_neg (by rw [le_n (by omega) (by omega)]; omega), gi_n (by omega) (by omega), cl (by omega), (h4 i hi).1]
theorem CX.n7 {σ : St} {T : Nat → Nat} {n : Nat} (h : CX σ T n) : n ≤ 700 := by
  obtain ⟨c, -, h2, h3, -⟩ := h
  omega
theorem CX.t {σ : St} {T : Nat → Nat} {n i : Nat} (h : CX σ T n) (hi : i < n) : T i < 256 := by
  obtain ⟨c, -, h2, h3, h4⟩ := h
  exact (h4 i hi).2
theorem m_see {σ : St} {T : Nat → Nat} {n i : Nat} (h : MX σ T n) (hi : i ≤ n) : fX8_see (nI i) σ = some (if i < n then nI (T i) else -1, σ) := by
  obtain ⟨h1, h2, h3⟩ := h
  unfold fX8_see
  rw [h1]
  by_cases q : i < n
  · rw [if_neg (by rw [le_n (by omega) (by omega)]; omega), gi_n (by omega) (by omega), cl (by omega), (h3 i q).1, if_pos q]
  · rw [if_pos (by rw [le_n (by omega) (by omega)]; omega), if_neg q]
theorem let_c {t : Nat} (h : t < 256) : fX3_isLetter (nI t) = if 97 ≤ t ∧ t ≤ 122 then nI 1 else 0 := by
  unfold fX3_isLetter
  by_cases q : t < 97
  · rw [if_pos (by rw [lt_n (by omega) (by omega)]; exact q), if_neg (by omega)]
  · rw [if_neg (by rw [lt_n (by omega) (by omega)]; exact q)]
    by_cases q2 : 122 < t
    · rw [if_pos (by rw [lt_n (by omega) (by omega)]; exact q2), if_neg (by omega)]
    · rw [if_neg (by rw [lt_n (by omega) (by omega)]; exact q2), if_pos (by omega)]
theorem dig_c {t : Nat} (h : t < 256) : fX3_isDigit (nI t) = if 48 ≤ t ∧ t ≤ 57 then nI 1 else 0 := by
  unfold fX3_isDigit
  by_cases q : t < 48
  · rw [if_pos (by rw [lt_n (by omega) (by omega)]; exact q), if_neg (by omega)]
  · rw [if_neg (by rw [lt_n (by omega) (by omega)]; exact q)]
    by_cases q2 : 57 < t
    · rw [if_pos (by rw [lt_n (by omega) (by omega)]; exact q2), if_neg (by omega)]
    · rw [if_neg (by rw [lt_n (by omega) (by omega)]; exact q2), if_pos (by omega)]
theorem let_m (t : Nat) : fX8_in (nI t) (nI 97) (nI 122) = fX3_isLetter (nI t) := rfl
theorem dig_m (t : Nat) : fX8_in (nI t) (nI 48) (nI 57) = fX3_isDigit (nI t) := rfl
theorem let_n1 : fX8_in (-1) (nI 97) (nI 122) = 0 := by decide
theorem dig_n1 : fX8_in (-1) (nI 48) (nI 57) = 0 := by decide
/-- the class: blanks are passed over -/
theorem c_skip {T : Nat → Nat} {n : Nat} (ke : St → Option (Unit × St)) : ∀ (d p m : Nat) (σ : St), p + d = n → d < m → CX σ T n → σ.1 3 0 4 = nI n → σ.1 3 0 5 = nI p → ∃ σ', LX3_step_0 ke m σ = ke σ' ∧ F3 σ σ' ∧ σ'.1 3 0 5 = nI (runN (isB T) d p) := by
  intro d
  induction d with
  | zero =>
    intro p m σ hp hm hX h4 h5
    have := hX.n7
    obtain ⟨m, rfl⟩ : ∃ y, m = y + 1 := ⟨m - 1, by omega⟩
    rw [LX3_step_0, h4, h5, if_pos (by rw [le_n (by omega) (by omega)]; omega)]
    exact ⟨σ, rfl, F3.rf, h5⟩
  | succ d ih =>
    intro p m σ hp hm hX h4 h5
    have hn := hX.n7
    have ht := hX.t (show p < n by omega)
    obtain ⟨m, rfl⟩ : ∃ y, m = y + 1 := ⟨m - 1, by omega⟩
    rw [LX3_step_0, h4, h5, if_neg (by rw [le_n (by omega) (by omega)]; omega), c_byte hX (by omega), bdS, runN]
    by_cases q : T p = 32
    · rw [if_pos (by rw [q]), ltD, h5, add_n, if_pos (show isB T p = true from decide_eq_true q)]
      obtain ⟨σ', e1, e2, e3⟩ := ih (p + 1) m (wI σ 3 0 5 (nI (p + 1))) (by omega) (by omega) (hX.f3 (F3.rf.w (by omega))) ((wIj (by omega)).trans h4) (wIe (by omega))
      exact ⟨σ', e1, (F3.rf.w (by omega)).tr e2, e3⟩
    · rw [if_neg (by rw [eq_n (by omega) (by omega)]; exact q), if_neg (show ¬ isB T p = true from fun z => q (of_decide_eq_true z))]
      exact ⟨σ, rfl, F3.rf, h5⟩
theorem c_wordL {T : Nat → Nat} {n q0 : Nat} (ke : St → Option (Unit × St)) : ∀ (d p m : Nat) (σ : St), p + d = n → d < m → q0 ≤ p → CX σ T n → σ.1 3 0 4 = nI n → σ.1 3 0 5 = nI p → σ.1 3 0 8 = nI (vB 27 (wr T q0 (p - q0))) → ∃ σ', LX3_stepOverWord_0 ke m σ = ke σ' ∧ F3 σ σ' ∧ σ'.1 3 0 7 = σ.1 3 0 7 ∧ σ'.1 3 0 5 = nI (runN (isL T) d p) ∧ σ'.1 3 0 8 = nI (vB 27 (wr T q0 (runN (isL T) d p - q0))) := by
  intro d
  induction d with
  | zero =>
    intro p m σ hp hm hq hX h4 h5 h8
    have := hX.n7
    obtain ⟨m, rfl⟩ : ∃ y, m = y + 1 := ⟨m - 1, by omega⟩
    rw [LX3_stepOverWord_0, h4, h5, if_pos (by rw [le_n (by omega) (by omega)]; omega)]
    exact ⟨σ, rfl, F3.rf, rfl, h5, h8⟩
  | succ d ih =>
    intro p m σ hp hm hq hX h4 h5 h8
    have hn := hX.n7
    have ht := hX.t (show p < n by omega)
    obtain ⟨m, rfl⟩ : ∃ y, m = y + 1 := ⟨m - 1, by omega⟩
    rw [LX3_stepOverWord_0, h4, h5, if_neg (by rw [le_n (by omega) (by omega)]; omega), c_byte hX (by omega), bdS, let_c ht, runN]
    by_cases q : 97 ≤ T p ∧ T p ≤ 122
    · rw [if_pos q, if_neg (by decide), h5, c_byte hX (by omega), bdS, ltD, ltD, if_pos (show isL T p = true from decide_eq_true q)]
      have e5 : ∀ v, (wI σ 3 0 8 v).1 3 0 5 = nI p := fun v => (wIj (by omega)).trans h5
      rw [e5, add_n, h8]
      unfold fX3_letter
      rw [sub_n q.1, add_n, mul_n, add_n]
      have hw : vB 27 (wr T q0 (p - q0)) * 27 + (T p - 97 + 1) = vB 27 (wr T q0 (p + 1 - q0)) := by
        rw [show p + 1 - q0 = (p - q0) + 1 by omega, wr, vB, show q0 + (p - q0) = p by omega]
        omega
      rw [hw]
      obtain ⟨σ', e1, e2, e3, e4, e6⟩ := ih (p + 1) m (wI (wI σ 3 0 8 (nI (vB 27 (wr T q0 (p + 1 - q0))))) 3 0 5 (nI (p + 1))) (by omega) (by omega) (by omega) (hX.f3 ((F3.rf.w (by omega)).w (by omega))) ((wIj (by omega)).trans ((wIj (by omega)).trans h4)) (wIe (by omega)) ((wIj (by omega)).trans (wIe (by omega)))
      exact ⟨σ', e1, ((F3.rf.w (by omega)).w (by omega)).tr e2, e3.trans ((wIj (by omega)).trans (wIj (by omega))), e4, e6⟩
    · rw [if_neg q, if_pos rfl, if_neg (show ¬ isL T p = true from fun z => q (of_decide_eq_true z))]
      exact ⟨σ, rfl, F3.rf, rfl, h5, h8⟩
theorem c_wholeL {T : Nat → Nat} {n q0 : Nat} (ke : St → Option (Unit × St)) : ∀ (d p m : Nat) (σ : St), p + d = n → d < m → q0 ≤ p → CX σ T n → σ.1 3 0 4 = nI n → σ.1 3 0 5 = nI p → σ.1 3 0 8 = nI (vD T q0 (p - q0)) → ∃ σ', LX3_stepOverWhole_0 ke m σ = ke σ' ∧ F3 σ σ' ∧ σ'.1 3 0 7 = σ.1 3 0 7 ∧ σ'.1 3 0 5 = nI (runN (isG T) d p) ∧ σ'.1 3 0 8 = nI (vD T q0 (runN (isG T) d p - q0)) := by
  intro d
  induction d with
  | zero =>
    intro p m σ hp hm hq hX h4 h5 h8
    have := hX.n7
    obtain ⟨m, rfl⟩ : ∃ y, m = y + 1 := ⟨m - 1, by omega⟩
    rw [LX3_stepOverWhole_0, h4, h5, if_pos (by rw [le_n (by omega) (by omega)]; omega)]
    exact ⟨σ, rfl, F3.rf, rfl, h5, h8⟩
  | succ d ih =>
    intro p m σ hp hm hq hX h4 h5 h8
    have hn := hX.n7
    have ht := hX.t (show p < n by omega)
    obtain ⟨m, rfl⟩ : ∃ y, m = y + 1 := ⟨m - 1, by omega⟩
    rw [LX3_stepOverWhole_0, h4, h5, if_neg (by rw [le_n (by omega) (by omega)]; omega), c_byte hX (by omega), bdS, dig_c ht, runN]
    by_cases q : 48 ≤ T p ∧ T p ≤ 57
    · rw [if_pos q, if_neg (by decide), h5, c_byte hX (by omega), bdS, ltD, ltD, if_pos (show isG T p = true from decide_eq_true q)]
      have e5 : ∀ v, (wI σ 3 0 8 v).1 3 0 5 = nI p := fun v => (wIj (by omega)).trans h5
      rw [e5, add_n, h8, mul_n, add_n, sub_n (by omega)]
      have hw : vD T q0 (p - q0) * 10 + T p - 48 = vD T q0 (p + 1 - q0) := by
        rw [show p + 1 - q0 = (p - q0) + 1 by omega, vD, show q0 + (p - q0) = p by omega]
        omega
      rw [hw]
      obtain ⟨σ', e1, e2, e3, e4, e6⟩ := ih (p + 1) m (wI (wI σ 3 0 8 (nI (vD T q0 (p + 1 - q0)))) 3 0 5 (nI (p + 1))) (by omega) (by omega) (by omega) (hX.f3 ((F3.rf.w (by omega)).w (by omega))) ((wIj (by omega)).trans ((wIj (by omega)).trans h4)) (wIe (by omega)) ((wIj (by omega)).trans (wIe (by omega)))
      exact ⟨σ', e1, ((F3.rf.w (by omega)).w (by omega)).tr e2, e3.trans ((wIj (by omega)).trans (wIj (by omega))), e4, e6⟩
    · rw [if_neg q, if_pos rfl, if_neg (show ¬ isG T p = true from fun z => q (of_decide_eq_true z))]
      exact ⟨σ, rfl, F3.rf, rfl, h5, h8⟩
/-- a token stands in the class's reader -/
def CK (σ : St) (T : Nat → Nat) (n q : Nat) : Prop := σ.1 3 0 5 = nI (tkE T n q) ∧ σ.1 3 0 7 = nI q ∧ σ.1 3 0 6 = nI (tkK T n q) ∧ (tkK T n q = 1 → σ.1 3 0 8 = nI (vB 27 (wr T q (tkE T n q - q)))) ∧ (tkK T n q = 2 → σ.1 3 0 8 = nI (vD T q (tkE T n q - q)))
theorem c_step {σ : St} {T : Nat → Nat} {n p : Nat} (hX : CX σ T n) (hp : p ≤ n) (h4 : σ.1 3 0 4 = nI n) (h5 : σ.1 3 0 5 = nI p) : ∃ σ', fX3_step σ = some ((), σ') ∧ F3 σ σ' ∧ CK σ' T n (tkQ T n p) := by
  have hn := hX.n7
  have hFU := FU_gt
  unfold fX3_step
  obtain ⟨σ1, e1, e2, e3⟩ := c_skip (T := T) (n := n) (fun (σ4 : St) => lt (wI σ4 3 0 7 (σ4.1 3 0 5)) fun (σ5 : St) => lt (wI σ5 3 0 8 0) fun (σ6 : St) => (if (σ6.1 3 0 5) < (σ6.1 3 0 4) then bd (fX6_byteAt (σ6.1 3 0 5) σ6) fun (r8 : Int32) (σ7 : St) => (if (fX3_isLetter r8) = 0 then bd (fX6_byteAt (σ7.1 3 0 5) σ7) fun (r10 : Int32) (σ9 : St) => (if (fX3_isDigit r10) = 0 then bd (fX6_byteAt (σ9.1 3 0 5) σ9) fun (r12 : Int32) (σ11 : St) => lt (wI σ11 3 0 6 (if r12 = (nI 59) then (nI 3) else (nI 4))) fun (σ16 : St) => lt (wI σ16 3 0 5 ((σ16.1 3 0 5) + (nI 1))) fun (σ17 : St) => some ((), σ17) else bd (fX3_stepOverWhole σ9) fun _ (σ18 : St) => some ((), σ18)) else bd (fX3_stepOverWord σ7) fun _ (σ19 : St) => some ((), σ19)) else lt (wI σ6 3 0 6 0) fun (σ20 : St) => some ((), σ20))) (n - p) p FU σ (by omega) (by omega) hX h4 h5
  have hq1 : p ≤ tkQ T n p := runN_ge _ _ _
  have hq2 : tkQ T n p ≤ n := by have := runN_le (isB T) (n - p) p; unfold tkQ; omega
  have e3' : σ1.1 3 0 5 = nI (tkQ T n p) := e3
  rw [e1, e3']
  generalize tkQ T n p = q at hq1 hq2 e3' ⊢
  clear e3
  simp only [ltD]
  have f0 : F3 σ (wI (wI σ1 3 0 7 (nI q)) 3 0 8 0) := (e2.w (by omega)).w (by omega)
  have x5 : (wI (wI σ1 3 0 7 (nI q)) 3 0 8 0).1 3 0 5 = nI q := (wIj (by omega)).trans ((wIj (by omega)).trans e3')
  have x4 : (wI (wI σ1 3 0 7 (nI q)) 3 0 8 0).1 3 0 4 = nI n := (f0.2.2 4 (by omega)).trans h4
  have x7 : (wI (wI σ1 3 0 7 (nI q)) 3 0 8 0).1 3 0 7 = nI q := (wIj (by omega)).trans (wIe (by omega))
  have x8 : (wI (wI σ1 3 0 7 (nI q)) 3 0 8 0).1 3 0 8 = 0 := wIe (by omega)
  generalize wI (wI σ1 3 0 7 (nI q)) 3 0 8 0 = τ at f0 x5 x4 x7 x8
  rw [x5, x4]
  have hXτ := hX.f3 f0
  by_cases g : n ≤ q
  · rw [if_neg (by rw [lt_n (by omega) (by omega)]; omega)]
    have hE : tkE T n q = q := by unfold tkE; rw [if_pos g]
    have hK : tkK T n q = 0 := by unfold tkK; rw [if_pos g]
    refine ⟨_, rfl, f0.w (by omega), ?_⟩
    unfold CK
    rw [hE, hK]
    exact ⟨(wIj (by omega)).trans x5, (wIj (by omega)).trans x7, by rw [wIe (by omega), nI_0], fun z => by omega, fun z => by omega⟩
  · have ht := hXτ.t (show q < n by omega)
    rw [if_pos (by rw [lt_n (by omega) (by omega)]; omega), c_byte hXτ (by omega), bdS, let_c ht]
    by_cases gl : 97 ≤ T q ∧ T q ≤ 122
    · have hl : isL T q = true := decide_eq_true gl
      rw [if_pos gl, if_neg (by decide)]
      unfold fX3_stepOverWord
      obtain ⟨σ2, s1, s2, s3, s4, s5⟩ := c_wordL (T := T) (n := n) (q0 := q) (fun (σ7 : St) => lt (wI σ7 3 0 6 (if (nI 6) < ((σ7.1 3 0 5) - (σ7.1 3 0 7)) then (nI 4) else (nI 1))) fun (σ11 : St) => some ((), σ11)) (n - q) q FU τ (by omega) (by omega) (Nat.le_refl _) hXτ x4 x5 (by rw [x8, Nat.sub_self]; exact nI_0.symm)
      have hE : tkE T n q = runN (isL T) (n - q) q := by unfold tkE; rw [if_neg g, if_pos hl]
      rw [← hE] at s4 s5
      have hE1 : q ≤ tkE T n q := by rw [hE]; exact runN_ge _ _ _
      have hE2 : tkE T n q ≤ n := by rw [hE]; have := runN_le (isL T) (n - q) q; omega
      rw [s1, ltD, s4, s3, x7, sub_n hE1, bdS]
      have hK : tkK T n q = if tkE T n q - q ≤ 6 then 1 else 4 := by unfold tkK; rw [if_neg g, if_pos hl]
      refine ⟨_, rfl, (f0.tr s2).w (by omega), (wIj (by omega)).trans s4, (wIj (by omega)).trans (s3.trans x7), ?_, fun _ => (wIj (by omega)).trans s5, fun z => ?_⟩
      · rw [wIe (by omega), hK]
        by_cases w6 : tkE T n q - q ≤ 6
        · rw [if_neg (by rw [lt_n (by omega) (by omega)]; omega), if_pos w6]
        · rw [if_pos (by rw [lt_n (by omega) (by omega)]; omega), if_neg w6]
      · rw [hK] at z; split at z <;> omega
    · have hl : ¬ isL T q = true := fun z => gl (of_decide_eq_true z)
      rw [if_neg gl, if_pos rfl, x5, c_byte hXτ (by omega), bdS, dig_c ht]
      by_cases gd' : 48 ≤ T q ∧ T q ≤ 57
      · have hg : isG T q = true := decide_eq_true gd'
        rw [if_pos gd', if_neg (by decide)]
        unfold fX3_stepOverWhole
        obtain ⟨σ2, s1, s2, s3, s4, s5⟩ := c_wholeL (T := T) (n := n) (q0 := q) (fun (σ7 : St) => lt (wI σ7 3 0 6 (if (nI 3) < ((σ7.1 3 0 5) - (σ7.1 3 0 7)) then (nI 4) else (nI 2))) fun (σ11 : St) => some ((), σ11)) (n - q) q FU τ (by omega) (by omega) (Nat.le_refl _) hXτ x4 x5 (by rw [x8, Nat.sub_self]; exact nI_0.symm)
        have hE : tkE T n q = runN (isG T) (n - q) q := by unfold tkE; rw [if_neg g, if_neg hl, if_pos hg]
        rw [← hE] at s4 s5
        have hE1 : q ≤ tkE T n q := by rw [hE]; exact runN_ge _ _ _
        have hE2 : tkE T n q ≤ n := by rw [hE]; have := runN_le (isG T) (n - q) q; omega
        rw [s1, ltD, s4, s3, x7, sub_n hE1, bdS]
        have hK : tkK T n q = if tkE T n q - q ≤ 3 then 2 else 4 := by unfold tkK; rw [if_neg g, if_neg hl, if_pos hg]
        refine ⟨_, rfl, (f0.tr s2).w (by omega), (wIj (by omega)).trans s4, (wIj (by omega)).trans (s3.trans x7), ?_, fun z => ?_, fun _ => (wIj (by omega)).trans s5⟩
        · rw [wIe (by omega), hK]
          by_cases w6 : tkE T n q - q ≤ 3
          · rw [if_neg (by rw [lt_n (by omega) (by omega)]; omega), if_pos w6]
          · rw [if_pos (by rw [lt_n (by omega) (by omega)]; omega), if_neg w6]
        · rw [hK] at z; split at z <;> omega
      · have hg : ¬ isG T q = true := fun z => gd' (of_decide_eq_true z)
        rw [if_neg gd', if_pos rfl, x5, c_byte hXτ (by omega), bdS, wIj (by omega), x5, add_n]
        have hE : tkE T n q = q + 1 := by unfold tkE; rw [if_neg g, if_neg hl, if_neg hg]
        have hK : tkK T n q = if T q = 59 then 3 else 4 := by unfold tkK; rw [if_neg g, if_neg hl, if_neg hg]
        refine ⟨_, rfl, (f0.w (by omega)).w (by omega), by rw [hE]; exact wIe (by omega), (wIj (by omega)).trans ((wIj (by omega)).trans x7), ?_, fun z => ?_, fun z => ?_⟩
        · rw [wIj (by omega), wIe (by omega), hK]
          by_cases w : T q = 59
          · rw [if_pos w, if_pos (by rw [w])]
          · rw [if_neg w, if_neg (by rw [eq_n (by omega) (by omega)]; exact w)]
        · rw [hK] at z; split at z <;> omega
        · rw [hK] at z; split at z <;> omega
