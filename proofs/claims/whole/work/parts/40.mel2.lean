/-! ===== the model's election, whole ===== -/
theorem m_elects {a2 : Int32} {σ : St} {q : PP} {w2 : Nat → Nat} {win : Nat} (hq : POk q) (hw2 : ∀ b, b < pN q → w2 b < 64) (hwin : win ≤ 400) (hC : pC q ≠ 0) (hB : MB σ q win) (hx1 : WX a2 σ (pN q) 1 (pW q)) (hx2 : WX a2 σ (pN q) 2 w2) :
    ∃ σ', fX8_elects (nI (pC q)) a2 σ = some (wv (onN (aS q w2 win)), σ') ∧ Kp SE σ σ' ∧ (∀ j, j ≠ 23 → j ≠ 29 → j ≠ 30 → j ≠ 31 → j ≠ 32 → σ'.1 8 0 j = σ.1 8 0 j) ∧ σ'.1 8 0 30 = nI (aE q w2 win) ∧ σ'.1 8 0 31 = nI (aW q win) ∧ σ'.1 8 0 32 = nI (aS q w2 win) := by
  have hn := hq.1
  unfold fX8_elects
  simp only [ltD]
  have k3 : Kp SE σ (wI (wI (wI σ 8 0 30 0) 8 0 31 0) 8 0 32 0) := ((kp_rf.wI (fr_m 0 rfl (Nat.le_refl _) (by omega))).wI (fr_m 0 rfl (Nat.le_refl _) (by omega))).wI (fr_m 0 rfl (Nat.le_refl _) (by omega))
  have j3 : ∀ j, j ≠ 30 → j ≠ 31 → j ≠ 32 → (wI (wI (wI σ 8 0 30 0) 8 0 31 0) 8 0 32 0).1 8 0 j = σ.1 8 0 j := fun j h1 h2 h3 => by
    rw [rI, if_neg (fun z => by omega), rI, if_neg (fun z => by omega), rI, if_neg (fun z => by omega)]
  have h30 : (wI (wI (wI σ 8 0 30 0) 8 0 31 0) 8 0 32 0).1 8 0 30 = nI 0 := by
    rw [rI, if_neg (fun z => by omega), rI, if_neg (fun z => by omega), rI, if_pos ⟨rfl, rfl, rfl⟩]; rfl
  generalize wI (wI (wI σ 8 0 30 0) 8 0 31 0) 8 0 32 0 = τ at k3 j3 h30
  obtain ⟨m, hm⟩ : ∃ m, FU = m + 1 + 1 + 1 := ⟨FU - 3, by have := FU_gt; omega⟩
  have hA64 : aW q win < 64 := Nat.lt_of_lt_of_le (aW_le hq win) (Nat.pow_le_pow_right (n := 2) (by omega) hn)
  obtain ⟨s1, ⟨a1, a3, a4, a5, a6⟩, e1⟩ := m_epass (a2 := a2) (i := 1) hq hwin (Or.inl rfl) hC hB hx1 k3 h30 (fun (x30 : Int32) (σ31 : St) => (LX8_elects_178 x30 (fun (x32 : Int32) (σ33 : St) => bd (fX8_bitsOf x30 σ33) fun (r35 : Int32) (σ34 : St) => some (if r35 = (nI 1) then x32 else (-2), σ34)) FU 0 σ31)) (m + 1 + 1)
  rw [← hm] at e1
  rw [e1]
  rw [Nat.zero_add] at a4
  rw [if_pos rfl] at a5
  rw [if_neg (by omega)] at a6
  by_cases z : aW q win = 0
  · have hs0 : aS q w2 win = 0 := by unfold aS; rw [if_pos z]
    have he0 : aE q w2 win = aF q win := by unfold aE; rw [if_pos z, Nat.add_zero]
    rw [LX8_elects_20, if_neg (show ¬ nI 3 ≤ nI (1 + 1) by decide), if_pos (show nI (aW q win) = 0 by rw [z, nI_0]), m_last hA64, hs0, he0]
    rw [show onN (aW q win) = onN 0 by rw [z]]
    exact ⟨s1, rfl, a1, fun j g1 g2 g3 g4 g5 => (a3 j g1 g2 g3 g4 g5).trans (j3 j g3 g4 g5), a4, a5, by rw [a6, nI_0]⟩
  · have hq2 := pw2_ok hq hw2 (aW_le hq win)
    have hS64 : aW (pw2 q w2 (aW q win)) win < 64 := Nat.lt_of_lt_of_le (aW_le hq2 win) (Nat.pow_le_pow_right (n := 2) (by omega) hn)
    obtain ⟨s2, ⟨b1, b3, b4, b5, b6⟩, e2⟩ := m_epass (a2 := a2) (q := pw2 q w2 (aW q win)) (win := win) (i := 2) (σ := σ) (s := s1) hq2 hwin (Or.inr rfl) z hB hx2 a1 a4 (fun (x30 : Int32) (σ31 : St) => (LX8_elects_178 x30 (fun (x32 : Int32) (σ33 : St) => bd (fX8_bitsOf x30 σ33) fun (r35 : Int32) (σ34 : St) => some (if r35 = (nI 1) then x32 else (-2), σ34)) FU 0 σ31)) (m + 1)
    have e2' : LX8_elects_20 a2 (fun (x30 : Int32) (σ31 : St) => (LX8_elects_178 x30 (fun (x32 : Int32) (σ33 : St) => bd (fX8_bitsOf x30 σ33) fun (r35 : Int32) (σ34 : St) => some (if r35 = (nI 1) then x32 else (-2), σ34)) FU 0 σ31)) (m + 1 + 1) (nI (aW q win)) (nI (1 + 1)) s1 = _ := e2
    have hs1 : aS q w2 win = aW (pw2 q w2 (aW q win)) win := by unfold aS; rw [if_neg z]
    have he1 : aE q w2 win = aF q win + aF (pw2 q w2 (aW q win)) win := by unfold aE; rw [if_neg z]
    rw [if_neg (by omega)] at b5
    rw [if_pos rfl] at b6
    rw [e2', LX8_elects_20, if_pos (show nI 3 ≤ nI (2 + 1) by decide), m_last hS64, hs1, he1]
    exact ⟨s2, rfl, b1, fun j g1 g2 g3 g4 g5 => ((b3 j g1 g2 g3 g4 g5).trans (a3 j g1 g2 g3 g4 g5)).trans (j3 j g3 g4 g5), b4, b5.trans a5, b6⟩
