/-! ===== the boards that never were master, by their slots ===== -/
def cN (f : Nat → Bool) : Nat → Nat
  | 0 => 0
  | n + 1 => cN f n + if f n = true then 1 else 0
theorem cN_le {f g : Nat → Bool} : ∀ {n : Nat}, (∀ c, c < n → f c = true → g c = true) → cN f n ≤ cN g n := by
  intro n
  induction n with
  | zero => intro _; exact Nat.le_refl _
  | succ n ih =>
    intro h
    have h1 := ih (fun c hc => h c (by omega))
    have h2 := h n (by omega)
    rw [cN, cN]
    by_cases q : f n = true
    · rw [if_pos q, if_pos (h2 q)]; omega
    · rw [if_neg q]; omega
theorem cN_eq {f g : Nat → Bool} {n : Nat} (h : ∀ c, c < n → (f c = true ↔ g c = true)) : cN f n = cN g n :=
  Nat.le_antisymm (cN_le (fun c hc => (h c hc).mp)) (cN_le (fun c hc => (h c hc).mpr))
/-- one more -/
theorem cN_one {f g : Nat → Bool} {b : Nat} : ∀ {n : Nat}, b < n → f b = false → g b = true → (∀ c, c < n → c ≠ b → (f c = true ↔ g c = true)) → cN g n = cN f n + 1 := by
  intro n
  induction n with
  | zero => intro h; omega
  | succ n ih =>
    intro h h1 h2 h3
    rw [cN, cN]
    by_cases q : b = n
    · subst q
      rw [h1, h2, if_pos rfl, if_neg (by decide), cN_eq (f := g) (g := f) (fun c hc => (h3 c (by omega) (by omega)).symm)]
    · have e := h3 n (by omega) (by omega)
      rw [ih (by omega) h1 h2 (fun c hc => h3 c (by omega))]
      by_cases z : f n = true
      · rw [if_pos z, if_pos (e.mp z)]
      · rw [if_neg z, if_neg (fun y => z (e.mpr y))]
theorem cN_n (f : Nat → Bool) : ∀ n, cN f n ≤ n := by
  intro n
  induction n with
  | zero => exact Nat.le_refl _
  | succ n ih => rw [cN]; split <;> omega
/-- how many such lie below a slot -/
def bl (n : Nat) (S : Nat → Nat) (f : Nat → Bool) (s : Nat) : Nat := cN (fun c => f c && decide (S c < s)) n
section NV
variable {n : Nat} {S : Nat → Nat} {f : Nat → Bool}
theorem bl_mono {s t : Nat} (h : s ≤ t) : bl n S f s ≤ bl n S f t := cN_le (fun c _ z => by
  simp only [Bool.and_eq_true, decide_eq_true_eq] at z ⊢
  exact ⟨z.1, by omega⟩)
theorem bl_no {s : Nat} (h : ∀ c, c < n → f c = true → S c ≠ s) : bl n S f (s + 1) = bl n S f s := cN_eq (fun c hc => by
  simp only [Bool.and_eq_true, decide_eq_true_eq]
  exact ⟨fun z => ⟨z.1, by have := h c hc z.1; omega⟩, fun z => ⟨z.1, by omega⟩⟩)
theorem bl_yes (hS : ∀ a b, a < n → b < n → S a = S b → a = b) {b : Nat} (hb : b < n) (hf : f b = true) : bl n S f (S b + 1) = bl n S f (S b) + 1 :=
  cN_one hb (by simp) (by simp [hf]) (fun c hc hne => by
    simp only [Bool.and_eq_true, decide_eq_true_eq]
    have : S c ≠ S b := fun z => hne (hS c b hc hb z)
    exact ⟨fun z => ⟨z.1, by omega⟩, fun z => ⟨z.1, by omega⟩⟩)
theorem bl_lt (hS : ∀ a b, a < n → b < n → S a = S b → a = b) {b t : Nat} (hb : b < n) (hf : f b = true) (h : S b < t) : bl n S f (S b) < bl n S f t := by
  have h1 := bl_yes hS hb hf
  have h2 := bl_mono (n := n) (S := S) (f := f) (show S b + 1 ≤ t from h)
  omega
/-- each rank has its board -/
theorem rk_ex (hS : ∀ a b, a < n → b < n → S a = S b → a = b) (h10 : ∀ b, b < n → S b < 10) {r : Nat} (hr : r < n) : ∃ b, b < n ∧ bl n S (fun _ => true) (S b) = r := by
  have h0 : bl n S (fun _ => true) 0 = 0 := by
    have : ∀ m, cN (fun c => (fun _ => true) c && decide (S c < 0)) m = 0 := by
      intro m
      induction m with
      | zero => rfl
      | succ m ih => rw [cN, ih, if_neg (by simp)]
    exact this n
  have hT : bl n S (fun _ => true) 10 = n := by
    have : ∀ m, m ≤ n → cN (fun c => (fun _ => true) c && decide (S c < 10)) m = m := by
      intro m
      induction m with
      | zero => intro _; rfl
      | succ m ih => intro h; rw [cN, ih (by omega), if_pos (by simp [h10 m (by omega)])]
    exact this n (Nat.le_refl n)
  have key : ∀ s, bl n S (fun _ => true) s ≤ r ∨ ∃ b, b < n ∧ bl n S (fun _ => true) (S b) = r := by
    intro s
    induction s with
    | zero => left; omega
    | succ s ih =>
      rcases ih with h | h
      · by_cases q : ∃ b, b < n ∧ S b = s
        · obtain ⟨b, hb, hs⟩ := q
          have h1 := bl_yes (f := fun _ => true) hS hb rfl
          rw [hs] at h1
          by_cases z : bl n S (fun _ => true) s = r
          · right; exact ⟨b, hb, by rw [hs]; exact z⟩
          · left; omega
        · left
          rw [bl_no (fun c hc _ y => q ⟨c, hc, y⟩)]; exact h
      · exact Or.inr h
  rcases key 10 with h | h
  · omega
  · exact h
/-- the i-th of them, or none -/
def NvS (n : Nat) (S : Nat → Nat) (f : Nat → Bool) (i : Nat) (o : Option Nat) : Prop := (o = none ∧ cN f n ≤ i) ∨ ∃ b, o = some b ∧ b < n ∧ f b = true ∧ bl n S f (S b) = i
theorem nvS_eq (hS : ∀ a b, a < n → b < n → S a = S b → a = b) {i : Nat} {o o' : Option Nat} (h : NvS n S f i o) (h' : NvS n S f i o') : o = o' := by
  have tot : ∀ b, b < n → f b = true → bl n S f (S b) < cN f n := fun b hb hf => by
    have h1 := bl_lt hS hb hf (show S b < S b + 1 by omega)
    have h2 : bl n S f (S b + 1) ≤ cN f n := cN_le (fun c _ z => by simp only [Bool.and_eq_true] at z; exact z.1)
    omega
  rcases h with ⟨rfl, h⟩ | ⟨b, rfl, h1, h2, h3⟩
  · rcases h' with ⟨rfl, -⟩ | ⟨b, rfl, g1, g2, g3⟩
    · rfl
    · have := tot b g1 g2; omega
  · rcases h' with ⟨rfl, h⟩ | ⟨b', rfl, g1, g2, g3⟩
    · have := tot b h1 h2; omega
    · by_cases q : S b < S b'
      · have := bl_lt hS h1 h2 q; omega
      · by_cases q' : S b' < S b
        · have := bl_lt hS g1 g2 q'; omega
        · rw [hS b b' h1 g1 (by omega)]
end NV
