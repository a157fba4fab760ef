/-! ===== where both objects begin ===== -/
theorem rel_start {σ : St} (h7 : ∀ j, 8 ≤ j → j ≤ 11 → σ.1 7 0 j = 0) (h8 : ∀ j, (j = 1 ∨ j = 2 ∨ j = 5 ∨ j = 9 ∨ j = 21) → σ.1 8 0 j = 0) (h6 : σ.1 6 0 1 = 0) (h1 : σ.1 1 0 13 = 0) (h22 : ∀ o, o < 6 → ∀ u, u < 401 → σ.1 22 o u = 0) (h47 : ∀ l, l < 6 → σ.1 47 0 (12 + l) = 0) (hp : σ.2.2 7 0 6 < 6) (hq : σ.2.2 7 0 7 < 6) (hne : σ.2.2 7 0 6 ≠ σ.2.2 7 0 7) : Rel σ 0 := by
  refine ⟨⟨?_, ?_, fun z => ?_⟩, ⟨0, by omega, ?_, ?_, fun i hi => absurd hi (Nat.not_lt_zero i)⟩, ⟨0, by omega, ?_, fun o ho u _ hu => h22 o ho u hu⟩, ⟨hp, hq, hne⟩, Or.inl ⟨?_, ?_, ?_, ?_, h47⟩⟩
  · rw [h7 10 (by omega) (by omega), h8 1 (by omega)]
  · rw [h7 11 (by omega) (by omega), h8 2 (by omega)]
  · rw [h8 1 (by omega)] at z
    exact absurd z (by decide)
  · rw [h6, nI_0]
  · rw [h8 5 (by omega), nI_0]
  · rw [h1, nI_0]
  · exact h7 8 (by omega) (by omega)
  · exact h8 9 (by omega)
  · exact h7 9 (by omega) (by omega)
  · exact h8 21 (by omega)
