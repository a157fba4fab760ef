/-! ===== the run on both sides: what the class's run and the model's row have in common ===== -/
/-- a bus: boards, gate, filter, window, asks; slots, codes, ranks; times, boards and lengths of its asks; the number of its plan -/
abbrev BU : Type := (Nat × Nat × Nat × Nat × Nat) × (Nat → Nat) × (Nat → Nat) × (Nat → Nat) × (Nat → Nat) × (Nat → Nat) × (Nat → Nat) × Nat × (Nat → Nat)
abbrev uN (u : BU) : Nat := u.1.1
abbrev uG (u : BU) : Nat := u.1.2.1
abbrev uF (u : BU) : Nat := u.1.2.2.1
abbrev uW (u : BU) : Nat := u.1.2.2.2.1
abbrev uA (u : BU) : Nat := u.1.2.2.2.2
abbrev uS (u : BU) : Nat → Nat := u.2.1
abbrev uC (u : BU) : Nat → Nat := u.2.2.1
abbrev uR (u : BU) : Nat → Nat := u.2.2.2.1
abbrev uT (u : BU) : Nat → Nat := u.2.2.2.2.1
abbrev uB (u : BU) : Nat → Nat := u.2.2.2.2.2.1
abbrev uK (u : BU) : Nat → Nat := u.2.2.2.2.2.2.1
abbrev uP (u : BU) : Nat := u.2.2.2.2.2.2.2.1
/-- how often at least each has been master -/
abbrev uL (u : BU) : Nat → Nat := u.2.2.2.2.2.2.2.2
def UOk (u : BU) : Prop := (1 ≤ uN u ∧ uN u ≤ 6) ∧ (1 ≤ uG u ∧ uG u ≤ 3) ∧ uF u ≤ 20 ∧ (1 ≤ uW u ∧ uW u ≤ 200) ∧ uA u ≤ 12 ∧ (∀ b, b < uN u → uS u b < 10) ∧ (∀ a b, a < uN u → b < uN u → uS u a = uS u b → a = b) ∧ (∀ b, b < uN u → 1 ≤ uC u b ∧ uC u b < 32) ∧ (∀ b, b < uN u → uR u b ≤ 7) ∧ (∀ i, i < uA u → 1 ≤ uT u i ∧ uT u i ≤ 999) ∧ (∀ i j, i ≤ j → j < uA u → uT u i ≤ uT u j) ∧ (∀ i, i < uA u → uB u i < uN u) ∧ ∀ i, i < uA u → uK u i ≤ 99
section UOKS
variable {u : BU} (h : UOk u)
theorem UOk.n1 (h : UOk u) : 1 ≤ uN u := h.1.1
theorem UOk.n6 (h : UOk u) : uN u ≤ 6 := h.1.2
theorem UOk.g (h : UOk u) : 1 ≤ uG u ∧ uG u ≤ 3 := h.2.1
theorem UOk.f (h : UOk u) : uF u ≤ 20 := h.2.2.1
theorem UOk.w (h : UOk u) : 1 ≤ uW u ∧ uW u ≤ 200 := h.2.2.2.1
theorem UOk.a (h : UOk u) : uA u ≤ 12 := h.2.2.2.2.1
theorem UOk.s (h : UOk u) : ∀ b, b < uN u → uS u b < 10 := h.2.2.2.2.2.1
theorem UOk.sd (h : UOk u) : ∀ a b, a < uN u → b < uN u → uS u a = uS u b → a = b := h.2.2.2.2.2.2.1
theorem UOk.c (h : UOk u) : ∀ b, b < uN u → 1 ≤ uC u b ∧ uC u b < 32 := h.2.2.2.2.2.2.2.1
theorem UOk.r (h : UOk u) : ∀ b, b < uN u → uR u b ≤ 7 := h.2.2.2.2.2.2.2.2.1
theorem UOk.t (h : UOk u) : ∀ i, i < uA u → 1 ≤ uT u i ∧ uT u i ≤ 999 := h.2.2.2.2.2.2.2.2.2.1
theorem UOk.tm (h : UOk u) : ∀ i j, i ≤ j → j < uA u → uT u i ≤ uT u j := h.2.2.2.2.2.2.2.2.2.2.1
theorem UOk.b (h : UOk u) : ∀ i, i < uA u → uB u i < uN u := h.2.2.2.2.2.2.2.2.2.2.2.1
theorem UOk.k (h : UOk u) : ∀ i, i < uA u → uK u i ≤ 99 := h.2.2.2.2.2.2.2.2.2.2.2.2
end UOKS
/-- a plan of the class holds the bus -/
def BC (σ : St) (P : Nat) (u : BU) : Prop := P < 6 ∧ σ.1 2 P 0 = nI (uG u) ∧ σ.1 2 P 1 = nI (uF u) ∧ σ.1 2 P 2 = nI (uW u) ∧ σ.1 2 P 3 = nI (uN u) ∧ σ.1 2 P 4 = nI (uA u) ∧ (∀ b, b < uN u → σ.1 24 P b = nI (uS u b) ∧ σ.1 25 P b = nI (uC u b) ∧ σ.1 26 P b = nI (uR u b) ∧ σ.1 27 P b = nI (wd2 (uC u) b)) ∧ ∀ i, i < uA u → σ.1 28 P i = nI (uT u i) ∧ σ.1 29 P i = nI (uB u i) ∧ σ.1 30 P i = nI (uK u i)
/-- the model holds it -/
def BM (σ : St) (u : BU) : Prop := σ.1 44 0 0 = nI (uG u) ∧ σ.1 44 0 1 = nI (uF u) ∧ σ.1 44 0 2 = nI (uW u) ∧ σ.1 44 0 3 = nI (uN u) ∧ σ.1 44 0 4 = nI (uA u) ∧ (∀ b, b < uN u → σ.1 44 0 (5 + b) = nI (uS u b) ∧ σ.1 44 0 (11 + b) = nI (uC u b) ∧ σ.1 44 0 (17 + b) = nI (uR u b)) ∧ ∀ i, i < uA u → σ.1 44 0 (23 + i) = nI (uT u i) ∧ σ.1 44 0 (35 + i) = nI (uB u i) ∧ σ.1 44 0 (47 + i) = nI (uK u i)
theorem BC.fr {σ σ' : St} {P : Nat} {u : BU} (h : BC σ P u) (hc : ∀ a b, (a = 2 ∨ 24 ≤ a ∧ a ≤ 30) → σ'.1 a b = σ.1 a b) : BC σ' P u := by
  unfold BC
  rw [hc 2 P (by omega), hc 24 P (by omega), hc 25 P (by omega), hc 26 P (by omega), hc 27 P (by omega), hc 28 P (by omega), hc 29 P (by omega), hc 30 P (by omega)]
  exact h
theorem BM.fr {σ σ' : St} {u : BU} (h : BM σ u) (hc : σ'.1 44 0 = σ.1 44 0) : BM σ' u := by
  unfold BM
  rw [hc]
  exact h
/-- a board, or none -/
def Wn (x : Int32) (n : Nat) : Prop := ∃ o : Option Nat, x = wv o ∧ ∀ b, o = some b → b < n
def Q0 (u : BU) (σ : St) (k : Nat) : Prop := ∃ P, σ.2.2 4 k 1 = P ∧ BC σ P u ∧ P = uP u
def Q1 (u : BU) (σ : St) (k : Nat) (r : Nat → Int32) (t : Nat) : Prop := (σ.1 4 k 2 = nI t ∧ r 0 = nI t) ∧ (σ.1 4 k 3 = r 1 ∧ Wn (r 1) (uN u)) ∧ (σ.1 4 k 4 = r 2 ∧ (r 1 = -2 → r 2 = -2)) ∧ (σ.1 4 k 5 = r 3 ∧ Wn (r 3) (uN u)) ∧ σ.1 4 k 6 = r 4 ∧ σ.1 4 k 7 = r 5 ∧ ∃ C, r 5 = nI C ∧ C < 2 ^ uN u ∧ (r 4 ≠ -2 → C ≠ 0)
def Q2 (σ : St) (k : Nat) (r : Nat → Int32) (t d : Nat) : Prop := (σ.1 5 k 0 = r 6 ∧ σ.1 5 k 1 = r 7 ∧ σ.1 5 k 2 = r 8 ∧ σ.1 5 k 3 = r 9 ∧ σ.1 5 k 4 = r 10) ∧ r 7 = nI d ∧ d ≤ t
/-- so many asks are due by then -/
def AOk (u : BU) (t a : Nat) : Prop := a ≤ uA u ∧ ∀ i, i < uA u → (i < a ↔ uT u i ≤ t)
def Q3 (r : Nat → Int32) (a : Nat) : Prop := r 11 = nI a
def Q4 (σ : St) (k : Nat) (r : Nat → Int32) : Prop := ∀ l, l < 6 → ∃ v, σ.1 33 k l = nI v ∧ r (12 + l) = nI v ∧ v ≤ 2
def Q5 (u : BU) (σ : St) (k : Nat) (r : Nat → Int32) (t : Nat) : Prop := ∀ b, b < uN u → (∃ v, σ.1 34 k b = nI v ∧ r (18 + 12 * b) = nI v ∧ v ≤ 99) ∧ ∃ v, σ.1 35 k b = nI v ∧ r (18 + 12 * b + 1) = nI v ∧ v ≤ t
def Q6 (u : BU) (σ : St) (k : Nat) (r : Nat → Int32) : Prop := ∃ fr, σ.1 4 k 8 = nI fr ∧ fr < 2 ^ uN u ∧ ∀ b, b < uN u → r (18 + 12 * b + 2) = nI (tuN fr b)
def Q7 (u : BU) (σ : St) (k : Nat) (r : Nat → Int32) : Prop := ∃ w μ, Acy w (uN u) μ ∧ (∀ b, b < uN u → μ b < uN u) ∧ ∀ b, b < uN u → σ.1 36 k b = wv (w b) ∧ r (18 + 12 * b + 3) = wv (w b)
def Q8 (u : BU) (σ : St) (k : Nat) (r : Nat → Int32) : Prop := r 4 ≠ -2 → ∀ b, b < uN u → ∃ v, v < 64 ∧ σ.1 32 k b = nI v ∧ r (18 + 12 * b + 4) = nI v ∧ r (18 + 12 * b + 5) = nI (wd2 (uC u) b)
def Q9 (u : BU) (σ : St) (k : Nat) (r : Nat → Int32) (t : Nat) : Prop := ∀ b, b < uN u → (∀ j, j < 6 → σ.1 38 (6 * k + b) j = r (18 + 12 * b + 6 + j)) ∧ ∃ c, r (18 + 12 * b + 6) = nI c ∧ uL u b ≤ c ∧ c ≤ t
def Q10 (σ : St) (k : Nat) (r : Nat → Int32) (d : Nat) : Prop := r 90 = nI (min d 16) ∧ ∀ i, i < 16 → i < d → ∀ j, j < 6 → σ.1 40 (16 * k + (d - 1 - i) % 16) j = r (91 + 6 * i + j)
def Q11 (σ : St) (k : Nat) (r : Nat → Int32) (t : Nat) : Prop := ∀ j, 1 ≤ j → j ≤ t → σ.1 41 k (j % 64) = r (187 + j % 64)
def RR (u : BU) (σ : St) (k : Nat) (r : Nat → Int32) (t p s a : Nat) : Prop := ∃ d, Q0 u σ k ∧ Q1 u σ k r t ∧ Q2 σ k r s d ∧ Q3 r a ∧ Q4 σ k r ∧ Q5 u σ k r t ∧ Q6 u σ k r ∧ Q7 u σ k r ∧ Q8 u σ k r ∧ Q9 u σ k r s ∧ Q10 σ k r d ∧ Q11 σ k r p
section RRS
variable {u : BU} {σ σ' : St} {k : Nat} {r r' : Nat → Int32} {t t' p s d a : Nat}
theorem Q0.fr (h : Q0 u σ k) (hc : ∀ a b, (a = 2 ∨ 24 ≤ a ∧ a ≤ 30) → σ'.1 a b = σ.1 a b) (hR : σ'.2.2 4 k 1 = σ.2.2 4 k 1) : Q0 u σ' k := by
  obtain ⟨P, h1, h2, hPu⟩ := h
  exact ⟨P, hR.trans h1, h2.fr hc, hPu⟩
theorem Q1.fr (h : Q1 u σ k r t) (hc : ∀ j, j < 8 → σ'.1 4 k j = σ.1 4 k j) (hr : ∀ j, j < 6 → r' j = r j) : Q1 u σ' k r' t := by
  unfold Q1
  rw [hr 0 (by omega), hr 1 (by omega), hr 2 (by omega), hr 3 (by omega), hr 4 (by omega), hr 5 (by omega), hc 2 (by omega), hc 3 (by omega), hc 4 (by omega), hc 5 (by omega), hc 6 (by omega), hc 7 (by omega)]
  exact h
theorem Q2.fr (h : Q2 σ k r t d) (hc : σ'.1 5 k = σ.1 5 k) (hr : ∀ j, 6 ≤ j → j < 11 → r' j = r j) (ht : t ≤ t') : Q2 σ' k r' t' d := by
  unfold Q2
  rw [hr 6 (by omega) (by omega), hr 7 (by omega) (by omega), hr 8 (by omega) (by omega), hr 9 (by omega) (by omega), hr 10 (by omega) (by omega), hc]
  exact ⟨h.1, h.2.1, Nat.le_trans h.2.2 ht⟩
theorem Q3.fr (h : Q3 r a) (hr : r' 11 = r 11) : Q3 r' a := by
  unfold Q3
  rw [hr]
  exact h
theorem Q4.fr (h : Q4 σ k r) (hc : σ'.1 33 k = σ.1 33 k) (hr : ∀ j, 12 ≤ j → j < 18 → r' j = r j) : Q4 σ' k r' := fun l hl => by
  rw [hc, hr (12 + l) (by omega) (by omega)]
  exact h l hl
theorem Q5.fr (h : Q5 u σ k r t) (hc : ∀ a, a = 34 ∨ a = 35 → σ'.1 a k = σ.1 a k) (hr : ∀ b, b < uN u → ∀ j, j < 2 → r' (18 + 12 * b + j) = r (18 + 12 * b + j)) (ht : t ≤ t') : Q5 u σ' k r' t' := fun b hb => by
  have e0 := hr b hb 0 (by omega)
  rw [Nat.add_zero] at e0
  rw [hc 34 (by omega), hc 35 (by omega), e0, hr b hb 1 (by omega)]
  obtain ⟨h1, v, h2, h3, h4⟩ := h b hb
  exact ⟨h1, v, h2, h3, Nat.le_trans h4 ht⟩
theorem Q6.fr (h : Q6 u σ k r) (hc : σ'.1 4 k 8 = σ.1 4 k 8) (hr : ∀ b, b < uN u → r' (18 + 12 * b + 2) = r (18 + 12 * b + 2)) : Q6 u σ' k r' := by
  obtain ⟨f, h1, h2, h3⟩ := h
  exact ⟨f, hc.trans h1, h2, fun b hb => (hr b hb).trans (h3 b hb)⟩
theorem Q7.fr (h : Q7 u σ k r) (hc : σ'.1 36 k = σ.1 36 k) (hr : ∀ b, b < uN u → r' (18 + 12 * b + 3) = r (18 + 12 * b + 3)) : Q7 u σ' k r' := by
  obtain ⟨w, μ, h1, h2, h3⟩ := h
  exact ⟨w, μ, h1, h2, fun b hb => by rw [hc, hr b hb]; exact h3 b hb⟩
theorem Q8.fr (h : Q8 u σ k r) (hc : σ'.1 32 k = σ.1 32 k) (hr4 : r' 4 = r 4) (hr : ∀ b, b < uN u → ∀ j, 4 ≤ j → j < 6 → r' (18 + 12 * b + j) = r (18 + 12 * b + j)) : Q8 u σ' k r' := fun h4 b hb => by
  rw [hc, hr b hb 4 (by omega) (by omega), hr b hb 5 (by omega) (by omega)]
  exact h (by rw [← hr4]; exact h4) b hb
theorem Q9.fr (h : Q9 u σ k r t) (hc : ∀ b, b < uN u → σ'.1 38 (6 * k + b) = σ.1 38 (6 * k + b)) (hr : ∀ b, b < uN u → ∀ j, j < 6 → r' (18 + 12 * b + 6 + j) = r (18 + 12 * b + 6 + j)) (ht : t ≤ t') : Q9 u σ' k r' t' := fun b hb => by
  obtain ⟨h1, c, h2, h3⟩ := h b hb
  refine ⟨fun j hj => by rw [hc b hb, hr b hb j hj]; exact h1 j hj, c, ?_, h3.1, Nat.le_trans h3.2 ht⟩
  have e0 := hr b hb 0 (by omega)
  rw [Nat.add_zero] at e0
  rw [e0]; exact h2
theorem Q10.fr (h : Q10 σ k r d) (hc : ∀ x, x < 16 → σ'.1 40 (16 * k + x) = σ.1 40 (16 * k + x)) (hr : ∀ j, 90 ≤ j → j < 187 → r' j = r j) : Q10 σ' k r' d := by
  refine ⟨by rw [hr 90 (by omega) (by omega)]; exact h.1, fun i hi hd j hj => ?_⟩
  rw [hc _ (Nat.mod_lt _ (by omega)), hr _ (by omega) (by omega)]
  exact h.2 i hi hd j hj
theorem Q11.fr (h : Q11 σ k r t) (hc : σ'.1 41 k = σ.1 41 k) (hr : ∀ j, 187 ≤ j → r' j = r j) : Q11 σ' k r' t := fun j h1 h2 => by
  rw [hc, hr _ (by omega)]
  exact h j h1 h2
/-- what a run rests on, of the class's cells -/
theorem RR.fr (h : RR u σ k r t p s a) (hc : ∀ a b, (a = 2 ∨ a = 4 ∨ a = 5 ∨ 24 ≤ a ∧ a ≤ 30 ∨ 32 ≤ a ∧ a ≤ 41) → σ'.1 a b = σ.1 a b) (hR : σ'.2.2 4 k 1 = σ.2.2 4 k 1) : RR u σ' k r t p s a := by
  obtain ⟨d, h0, h1, h2, h3, h4, h5, h6, h7, h8, h9, h10, h11⟩ := h
  exact ⟨d, h0.fr (fun a b g => hc a b (by omega)) hR, h1.fr (fun j _ => by rw [hc 4 k (by omega)]) (fun j g => rfl), h2.fr (hc 5 k (by omega)) (fun j g1 g2 => rfl) (Nat.le_refl _), h3, h4.fr (hc 33 k (by omega)) (fun j g1 g2 => rfl), h5.fr (fun a g => hc a k (by omega)) (fun b _ j _ => rfl) (Nat.le_refl _), h6.fr (by rw [hc 4 k (by omega)]) (fun b _ => rfl), h7.fr (hc 36 k (by omega)) (fun b _ => rfl), h8.fr (hc 32 k (by omega)) rfl (fun b _ j _ _ => rfl), h9.fr (fun b _ => hc 38 _ (by omega)) (fun b _ j _ => rfl) (Nat.le_refl _), h10.fr (fun x _ => hc 40 _ (by omega)) (fun j g1 g2 => rfl), h11.fr (hc 41 k (by omega)) (fun j g => rfl)⟩
/-- one number of a ledger is written on both sides -/
theorem wIc {ci kk j x y : Nat} {v : Int32} (h : ¬ x = ci) : (wI σ ci kk j v).1 x y = σ.1 x y := by
  funext c
  rw [rI, if_neg (fun z => h z.1)]
theorem wIk {ci kk j x y : Nat} {v : Int32} (h : ¬ (x = ci ∧ y = kk)) : (wI σ ci kk j v).1 x y = σ.1 x y := by
  funext c
  rw [rI, if_neg (fun z => h ⟨z.1, z.2.1⟩)]
theorem wIj {ci kk j x y z : Nat} {v : Int32} (h : ¬ (x = ci ∧ y = kk ∧ z = j)) : (wI σ ci kk j v).1 x y z = σ.1 x y z := by
  rw [rI, if_neg h]
theorem wIe {ci kk j x y z : Nat} {v : Int32} (h : x = ci ∧ y = kk ∧ z = j) : (wI σ ci kk j v).1 x y z = v := by
  rw [rI, if_pos h]
theorem RR.led {σm : St} (hu : UOk u) (h : RR u σ k (σm.1 47 0) t p s a) {b j : Nat} (hb : b < uN u) (hj : j < 6) {x : Int32} (hx : j = 0 → ∃ c, x = nI c ∧ uL u b ≤ c ∧ c ≤ s) : RR u (wI σ 38 (6 * k + b) j x) k ((wI σm 47 0 (18 + 12 * b + 6 + j) x).1 47 0) t p s a := by
  have hn := hu.n6
  obtain ⟨d, h0, h1, h2, h3, h4, h5, h6, h7, h8, h9, h10, h11⟩ := h
  refine ⟨d, h0.fr (fun a b g => wIc (by omega)) rfl, h1.fr (fun j _ => wIj (by omega)) (fun j g => wIj (by omega)), h2.fr (wIc (by omega)) (fun j g1 g2 => wIj (by omega)) (Nat.le_refl _), h3.fr (wIj (by omega)), h4.fr (wIc (by omega)) (fun j g1 g2 => wIj (by omega)), h5.fr (fun a g => wIc (by omega)) (fun b' g j' g2 => wIj (by omega)) (Nat.le_refl _), h6.fr (wIj (by omega)) (fun b' g => wIj (by omega)), h7.fr (wIc (by omega)) (fun b' g => wIj (by omega)), h8.fr (wIc (by omega)) (wIj (by omega)) (fun b' g j' g1 g2 => wIj (by omega)), ?_, h10.fr (fun x _ => wIc (by omega)) (fun j g1 g2 => wIj (by omega)), h11.fr (wIc (by omega)) (fun j g => wIj (by omega))⟩
  intro b' hb'
  obtain ⟨g1, c, g2, g3⟩ := h9 b' hb'
  refine ⟨fun j' hj' => ?_, ?_⟩
  · rw [rI, rI]
    by_cases q : b' = b ∧ j' = j
    · rw [if_pos (by omega), if_pos (by omega)]
    · rw [if_neg (by omega), if_neg (by omega)]; exact g1 j' hj'
  · by_cases q : b' = b ∧ j = 0
    · obtain ⟨c', e1, e2⟩ := hx q.2
      exact ⟨c', by rw [wIe (by omega)]; exact e1, by rw [q.1]; exact e2⟩
    · exact ⟨c, by rw [wIj (by omega)]; exact g2, g3⟩
theorem RR.up (h : RR u σ k r t p s a) {s' : Nat} (hs : s ≤ s') : RR u σ k r t p s' a := by
  obtain ⟨d, h0, h1, h2, h3, h4, h5, h6, h7, h8, h9, h10, h11⟩ := h
  exact ⟨d, h0, h1, h2.fr rfl (fun j g1 g2 => rfl) hs, h3, h4, h5, h6, h7, h8, h9.fr (fun b _ => rfl) (fun b _ j _ => rfl) hs, h10, h11⟩
end RRS
