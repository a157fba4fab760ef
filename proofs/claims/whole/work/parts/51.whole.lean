/-! ===== both objects between two calls ===== -/
theorem RR.frk {u : BU} {σ σ' : St} {k t p s a : Nat} {r : Nat → Int32} (hu : UOk u) (h : RR u σ k r t p s a) (hB : ∀ a b, (a = 2 ∨ 24 ≤ a ∧ a ≤ 30) → σ'.1 a b = σ.1 a b) (hc : ∀ a, (a = 4 ∨ a = 5 ∨ 32 ≤ a ∧ a ≤ 36 ∨ a = 41) → σ'.1 a k = σ.1 a k) (h38 : ∀ b, b < 6 → σ'.1 38 (6 * k + b) = σ.1 38 (6 * k + b)) (h40 : ∀ x, x < 16 → σ'.1 40 (16 * k + x) = σ.1 40 (16 * k + x)) (hR : σ'.2.2 4 k 1 = σ.2.2 4 k 1) : RR u σ' k r t p s a := by
  have hn := hu.n6
  obtain ⟨d, h0, h1, h2, h3, h4, h5, h6, h7, h8, h9, h10, h11⟩ := h
  exact ⟨d, h0.fr hB hR, h1.fr (fun j _ => by rw [hc 4 (by omega)]) (fun j g => rfl), h2.fr (hc 5 (by omega)) (fun j g1 g2 => rfl) (Nat.le_refl _), h3, h4.fr (hc 33 (by omega)) (fun j g1 g2 => rfl), h5.fr (fun a g => hc a (by omega)) (fun b _ j _ => rfl) (Nat.le_refl _), h6.fr (by rw [hc 4 (by omega)]) (fun b _ => rfl), h7.fr (hc 36 (by omega)) (fun b _ => rfl), h8.fr (hc 32 (by omega)) rfl (fun b _ j _ _ => rfl), h9.fr (fun b hb => h38 b (by omega)) (fun b _ j _ => rfl) (Nat.le_refl _), h10.fr (fun x hx => h40 x hx) (fun j g1 g2 => rfl), h11.fr (hc 41 (by omega)) (fun j g => rfl)⟩
def Told (u : BU) (σ : St) (t s a : Nat) : Prop := UOk u ∧ σ.2.2 4 0 1 = σ.2.2 7 0 6 ∧ BM σ u ∧ RR u σ 0 (σ.1 47 0) t t s a ∧ AOk u t a
def Kept (u : BU) (σ : St) (t s a : Nat) : Prop := σ.2.2 4 2 1 = σ.2.2 7 0 6 ∧ RR u σ 2 (σ.1 49 0) t t s a ∧ AOk u t a
def Tape (σ : St) : Prop := ∃ c, c ≤ 700 ∧ σ.1 6 0 1 = nI c ∧ σ.1 8 0 5 = nI c ∧ ∀ i, i < c → ∃ v, v < 256 ∧ σ.1 43 0 i = nI v ∧ σ.1 42 0 i &&& nI 255 = nI v
/-- nothing told -/
def NoB (σ : St) : Prop := σ.1 7 0 8 = 0 ∧ σ.1 8 0 9 = 0 ∧ σ.1 7 0 9 = 0 ∧ σ.1 8 0 21 = 0 ∧ ∀ l, l < 6 → σ.1 47 0 (12 + l) = 0
/-- something may be kept -/
def KpT (u : BU) (σ : St) (N : Nat) : Prop := (σ.1 7 0 9 = 0 ∧ σ.1 8 0 21 = 0) ∨ (σ.1 7 0 9 = nI 1 ∧ σ.1 8 0 21 = nI 1 ∧ ∃ t s a, t ≤ 1000 * N ∧ s ≤ 2000 * N ∧ Kept u σ t s a)
def YesB (σ : St) (N : Nat) : Prop := σ.1 7 0 8 = nI 1 ∧ σ.1 8 0 9 = nI 1 ∧ ∃ u t s a, t ≤ 1000 * N ∧ s ≤ 2000 * N ∧ Told u σ t s a ∧ KpT u σ N
/-- the last refusal, the last fault -/
def Tr (σ : St) : Prop := σ.1 7 0 10 = σ.1 8 0 1 ∧ σ.1 7 0 11 = σ.1 8 0 2 ∧ (σ.1 8 0 1 = nI 4 → σ.1 7 0 12 = σ.1 8 0 3)
def Pls (σ : St) : Prop := σ.2.2 7 0 6 < 6 ∧ σ.2.2 7 0 7 < 6 ∧ σ.2.2 7 0 6 ≠ σ.2.2 7 0 7
def Rel (σ : St) (N : Nat) : Prop := Tr σ ∧ Tape σ ∧ D13 σ ∧ Pls σ ∧ (NoB σ ∨ YesB σ N)
/-- what a question leaves as it was -/
def Qt (σ σ' : St) : Prop := (∀ a b, (a = 2 ∨ 24 ≤ a ∧ a ≤ 30 ∨ a = 6 ∨ a = 42 ∨ a = 43 ∨ a = 44 ∨ a = 47 ∨ a = 49) → σ'.1 a b = σ.1 a b) ∧ (∀ a b, (a = 4 ∨ a = 5 ∨ 32 ≤ a ∧ a ≤ 36 ∨ a = 41) → b ≠ 1 → σ'.1 a b = σ.1 a b) ∧ (∀ b, ¬ (6 ≤ b ∧ b < 12) → σ'.1 38 b = σ.1 38 b) ∧ (∀ b, ¬ (16 ≤ b ∧ b < 32) → σ'.1 40 b = σ.1 40 b) ∧ (∀ j, σ'.2.2 7 0 j = σ.2.2 7 0 j) ∧ (σ'.2.2 4 0 1 = σ.2.2 4 0 1 ∧ σ'.2.2 4 2 1 = σ.2.2 4 2 1) ∧ (∀ j, j ≠ 10 → σ'.1 7 0 j = σ.1 7 0 j) ∧ (∀ j, (j = 2 ∨ j = 5 ∨ j = 9 ∨ j = 21) → σ'.1 8 0 j = σ.1 8 0 j)
theorem Rel.qt {σ σ' : St} {N : Nat} (h : Rel σ N) (q : Qt σ σ') (hT : σ'.1 7 0 10 = σ'.1 8 0 1) (h4 : σ'.1 8 0 1 = nI 4 → σ'.1 7 0 12 = σ'.1 8 0 3) (hD : D13 σ') : Rel σ' (N + 1) := by
  obtain ⟨⟨a1, a2, a3⟩, ⟨c, c1, c2, c3, c4⟩, -, ⟨p1, p2, p3⟩, hB⟩ := h
  obtain ⟨q1, q2, q3, q4, q5, ⟨q6, q6'⟩, q7, q8⟩ := q
  refine ⟨⟨hT, by rw [q7 11 (by omega), q8 2 (by omega)]; exact a2, h4⟩, ⟨c, c1, by rw [q1 6 0 (by omega)]; exact c2, by rw [q8 5 (by omega)]; exact c3, fun i hi => by rw [q1 43 0 (by omega), q1 42 0 (by omega)]; exact c4 i hi⟩, hD, ?_, ?_⟩
  · unfold Pls
    rw [q5 6, q5 7]
    exact ⟨p1, p2, p3⟩
  · rcases hB with ⟨b1, b2, b3, b4, b5⟩ | ⟨b1, b2, u, t, s, a, t1, t2, t3, t4⟩
    · refine Or.inl ⟨?_, ?_, ?_, ?_, fun l hl => ?_⟩
      · rw [q7 8 (by omega)]; exact b1
      · rw [q8 9 (by omega)]; exact b2
      · rw [q7 9 (by omega)]; exact b3
      · rw [q8 21 (by omega)]; exact b4
      · rw [q1 47 0 (by omega)]; exact b5 l hl
    · obtain ⟨k1, k2, k3, k4, k5⟩ := t3
      have frk : ∀ (k : Nat) (r : Nat → Int32) (t' s' a' : Nat), k ≠ 1 → k < 3 → σ'.2.2 4 k 1 = σ.2.2 4 k 1 → RR u σ k r t' t' s' a' → RR u σ' k r t' t' s' a' := fun k r t' s' a' hk hk3 hR hRR =>
        hRR.frk k1 (fun x y z => q1 x y (by omega)) (fun x z => q2 x k z hk) (fun b hb => q3 _ (by omega)) (fun x hx => q4 _ (by omega)) hR
      refine Or.inr ⟨by rw [q7 8 (by omega)]; exact b1, by rw [q8 9 (by omega)]; exact b2, u, t, s, a, by omega, by omega, ⟨k1, by rw [q6, q5]; exact k2, k3.fr (q1 44 0 (by omega)), ?_, k5⟩, ?_⟩
      · rw [q1 47 0 (by omega)]
        exact frk 0 _ _ _ _ (by omega) (by omega) q6 k4
      · unfold KpT
        rw [q7 9 (by omega), q8 21 (by omega)]
        rcases t4 with z | ⟨z1, z2, t', s', a', z3, z4, z5, z6, z7⟩
        · exact Or.inl z
        · refine Or.inr ⟨z1, z2, t', s', a', by omega, by omega, by rw [q6', q5]; exact z5, ?_, z7⟩
          rw [q1 49 0 (by omega)]
          exact frk 2 _ _ _ _ (by omega) (by omega) q6' z6
/-- refusals are written -/
def cR (σ : St) (w : Int32) : St := wI σ 7 0 10 w
def mR (σ : St) (w : Int32) : St := wI (wI (wI σ 8 0 0 0) 8 0 3 (-1)) 8 0 1 w
theorem cR_o {σ : St} {w : Int32} {a b : Nat} (h : a ≠ 7) : (cR σ w).1 a b = σ.1 a b := wIc h
theorem cR_j {σ : St} {w : Int32} {j : Nat} (h : j ≠ 10) : (cR σ w).1 7 0 j = σ.1 7 0 j := wIj (by omega)
theorem cR_10 {σ : St} {w : Int32} : (cR σ w).1 7 0 10 = w := wIe ⟨rfl, rfl, rfl⟩
theorem mR_o {σ : St} {w : Int32} {a b : Nat} (h : a ≠ 8) : (mR σ w).1 a b = σ.1 a b := by unfold mR; rw [wIc h, wIc h, wIc h]
theorem mR_j {σ : St} {w : Int32} {j : Nat} (h : j ≠ 0 ∧ j ≠ 1 ∧ j ≠ 3) : (mR σ w).1 8 0 j = σ.1 8 0 j := by unfold mR; rw [wIj (by omega), wIj (by omega), wIj (by omega)]
theorem mR_1 {σ : St} {w : Int32} : (mR σ w).1 8 0 1 = w := wIe ⟨rfl, rfl, rfl⟩
theorem mR_2 {σ : St} {w : Int32} : (mR σ w).2 = σ.2 := rfl
theorem cR_2 {σ : St} {w : Int32} : (cR σ w).2 = σ.2 := rfl
theorem c_refused (w : Int32) (σ : St) : fX7_refused w σ = some (-1, cR σ w) := rfl
theorem c_accepted (x : Int32) (σ : St) : fX7_accepted x σ = some (x, cR σ 0) := rfl
theorem m_refused {w : Int32} (σ : St) : fX8_isRefused w σ = some (if w = 0 then 0 else nI 1, mR σ w) := by
  unfold fX8_isRefused
  rw [ltD, ltD, ltD, rz_ifn]
  rfl
theorem Qt.rf {σ : St} : Qt σ σ := ⟨fun _ _ _ => rfl, fun _ _ _ _ => rfl, fun _ _ => rfl, fun _ _ => rfl, fun _ => rfl, ⟨rfl, rfl⟩, fun _ _ => rfl, fun _ _ => rfl⟩
theorem Qt.tr {σ σ' σ'' : St} (h : Qt σ σ') (g : Qt σ' σ'') : Qt σ σ'' :=
  ⟨fun a b z => (g.1 a b z).trans (h.1 a b z), fun a b z y => (g.2.1 a b z y).trans (h.2.1 a b z y), fun b z => (g.2.2.1 b z).trans (h.2.2.1 b z), fun b z => (g.2.2.2.1 b z).trans (h.2.2.2.1 b z), fun j => (g.2.2.2.2.1 j).trans (h.2.2.2.2.1 j), ⟨g.2.2.2.2.2.1.1.trans h.2.2.2.2.2.1.1, g.2.2.2.2.2.1.2.trans h.2.2.2.2.2.1.2⟩, fun j z => (g.2.2.2.2.2.2.1 j z).trans (h.2.2.2.2.2.2.1 j z), fun j z => (g.2.2.2.2.2.2.2 j z).trans (h.2.2.2.2.2.2.2 j z)⟩
theorem Qt.cR {σ : St} {w : Int32} : Qt σ (cR σ w) := ⟨fun a b z => cR_o (by omega), fun a b z y => cR_o (by omega), fun b z => cR_o (by omega), fun b z => cR_o (by omega), fun _ => rfl, ⟨rfl, rfl⟩, fun j z => cR_j z, fun j z => by rw [cR_o (by omega)]⟩
theorem Qt.mR {σ : St} {w : Int32} : Qt σ (mR σ w) := ⟨fun a b z => mR_o (by omega), fun a b z y => mR_o (by omega), fun b z => mR_o (by omega), fun b z => mR_o (by omega), fun _ => rfl, ⟨rfl, rfl⟩, fun j z => by rw [mR_o (by omega)], fun j z => mR_j (by omega)⟩
theorem w12_4 {w : Int32} (h : w = 0 ∨ w = nI 1 ∨ w = nI 2 ∨ w = nI 5) : ¬ w = nI 4 := by
  rcases h with rfl | rfl | rfl | rfl <;> decide
/-- a call that is refused on both sides -/
theorem Rel.ref {σ : St} {N : Nat} {w : Int32} (h : Rel σ N) (hw : w = 0 ∨ w = nI 1 ∨ w = nI 2 ∨ w = nI 5) : Rel (mR (cR σ w) w) (N + 1) := by
  refine h.qt (Qt.cR.tr Qt.mR) ?_ (fun z => ?_) ?_
  · rw [mR_o (by omega), cR_10, mR_1]
  · rw [mR_1] at z; exact absurd z (w12_4 hw)
  · exact h.2.2.1.fr (by rw [mR_o (by omega), cR_o (by omega)]) (fun o => by rw [mR_o (by omega), cR_o (by omega)])
/-- both sides answer alike, call by call -/
def Act (F G : St → Option (Int32 × St)) : Prop := ∀ (σ : St) (N : Nat), Rel σ N → N ≤ 600 → ∃ r σ1 σ2, F σ = some (r, σ1) ∧ G σ1 = some (r, σ2) ∧ Rel σ2 (N + 1)
theorem nat_of {p : Int32} (h : ¬ p < 0) : ∃ b, b < 2147483648 ∧ p = nI b := by
  refine ⟨p.toInt.toNat, ?_, ?_⟩
  · have h1 := Int32.toInt_lt p
    have h2 : (0 : Int) ≤ p.toInt := by
      have := Int32.le_iff_toInt_le.mp (Int32.not_lt.mp h)
      exact this
    omega
  · have h2 : (0 : Int) ≤ p.toInt := Int32.le_iff_toInt_le.mp (Int32.not_lt.mp h)
    apply Int32.toInt_inj.mp
    have h1 := Int32.toInt_lt p
    rw [nI_toInt (by omega)]
    omega
