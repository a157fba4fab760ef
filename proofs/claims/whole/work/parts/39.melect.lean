/-! ===== the model elects ===== -/
/-- the model's numbers of a bus and its lines -/
def MB (σ : St) (q : PP) (win : Nat) : Prop := σ.1 44 0 3 = nI (pN q) ∧ σ.1 44 0 0 = nI (pG q) ∧ σ.1 44 0 1 = nI (pF q) ∧ σ.1 44 0 2 = nI win ∧ (∀ b, b < pN q → σ.1 44 0 (5 + b) = nI (pS q b)) ∧ ∀ l, l < 6 → σ.1 47 0 (12 + l) = nI (pL q l)
abbrev SE : List (Nat × Nat × Nat) := [(8, 0, 1), (51, 0, 1), (52, 0, 1), (53, 0, 1), (54, 0, 1), (55, 0, 1), (50, 0, 1)]
theorem MB.kp {σ σ' : St} {q : PP} {win : Nat} (h : MB σ q win) (hk : Kp SE σ σ') : MB σ' q win := by
  unfold MB
  rw [kpc hk 44 0 rfl, kpc hk 47 0 rfl]
  exact h
/-- how the words of pass i are found -/
def WX (a2 : Int32) (σ : St) (n i : Nat) (w : Nat → Nat) : Prop := ∀ (b : Nat) (s : St), b < n → Kp SE σ s → ∀ K : Int32 → St → Option (Int32 × St), (if a2 = 0 then bd (fX8_wordOf (nI b) (nI i) s) (fun (r8 : Int32) (σ7 : St) => K r8 σ7) else gi (fX8_at (nI b) (if nI i = nI 1 then (nI 4) else (nI 5))) 251 <| K (s.1 47 0 (fX8_at (nI b) (if nI i = nI 1 then (nI 4) else (nI 5))).toNatClampNeg) s) = K (nI (w b)) s
theorem m_ewords {a2 a3 : Int32} {σ s : St} {q : PP} {win i : Nat} (hq : POk q) (hB : MB σ q win) (hx : WX a2 σ (pN q) i (pW q)) (hk : Kp SE σ s) (ke : St → Option (Int32 × St)) :
    ∃ s', (Kp SE σ s' ∧ (∀ j, s'.1 8 0 j = s.1 8 0 j) ∧ ∀ b, b < pN q → s'.1 50 0 b = nI (pW q b)) ∧ LX8_elects_33 a2 a3 (nI i) ke FU 0 s = ke s' := by
  have hn := hq.1
  obtain ⟨s', hs', e⟩ := lp0 (fun m b (s : St) => LX8_elects_33 a2 a3 (nI i) ke m (nI b) s) (fun s => ke s) (pN q) (by omega)
    (fun v r => Kp SE σ r ∧ (∀ j, r.1 8 0 j = s.1 8 0 j) ∧ ∀ b, b < v → r.1 50 0 b = nI (pW q b)) s ⟨hk, fun _ => rfl, fun b hb => by omega⟩
    (fun m r hI => by
      have hM := hB.kp hI.1
      rw [LX8_elects_33]
      simp (disch := omega) only [gi_n, cl, hM.1, le_n, Nat.le_refl, if_true])
    (fun m v r hv hI => by
      obtain ⟨i1, i2, i3⟩ := hI
      have hM := hB.kp i1
      rw [LX8_elects_33, jnD, hx v r hv i1 (fun (x5 : Int32) (σ4 : St) => gi (nI v) 6 <| lt (wI σ4 50 0 (nI v).toNatClampNeg x5) fun (σ6 : St) => LX8_elects_33 a2 a3 (nI i) ke m (nI v + nI 1) σ6)]
      simp (disch := omega) only [gi_n, cl, hM.1, le_n, ltD, add_n]
      rw [if_neg (by omega)]
      refine ⟨_, ⟨i1.wI (fr_m 6 rfl (Nat.le_refl _) (by omega)), fun j => ?_, fun b hb => ?_⟩, rfl⟩
      · rw [rI, if_neg (fun z => by omega)]; exact i2 j
      · rw [rI]
        by_cases z : b = v
        · rw [if_pos ⟨rfl, rfl, z⟩, z]
        · rw [if_neg (fun y => z y.2.2)]; exact i3 b (by omega))
  exact ⟨s', hs', e⟩
theorem MA.w8 {σ : St} {p : PP} {x : PT} {t j : Nat} {v : Int32} (h : MA σ p x t) (hj : j ≠ 29) : MA (wI σ 8 0 j v) p x t := by
  have z : ∀ a b c, (a ≠ 8 ∨ c ≠ j) → (wI σ 8 0 j v).1 a b c = σ.1 a b c := fun a b c h => by rw [rI, if_neg (fun z => by omega)]
  refine ⟨fun b hb u hu => ?_, fun o ho u hu => ?_, ?_⟩
  · rw [z 51 _ _ (Or.inl (by omega)), z 52 _ _ (Or.inl (by omega)), z 53 _ _ (Or.inl (by omega)), z 54 _ _ (Or.inl (by omega))]; exact h.1 b hb u hu
  · rw [z 55 _ _ (Or.inl (by omega))]; exact h.2.1 o ho u hu
  · rw [z 8 _ _ (Or.inr (fun y => hj y.symm))]; exact h.2.2
/-- one pass of the model's election -/
theorem m_epass {a2 : Int32} {σ s : St} {q : PP} {win i K : Nat} (hq : POk q) (hwin : win ≤ 400) (hi : i = 1 ∨ i = 2) (hC : pC q ≠ 0) (hB : MB σ q win) (hx : WX a2 σ (pN q) i (pW q)) (hk : Kp SE σ s) (hK : s.1 8 0 30 = nI K) (ke : Int32 → St → Option (Int32 × St)) (m : Nat) :
    ∃ s', (Kp SE σ s' ∧ (∀ j, j ≠ 23 → j ≠ 29 → j ≠ 30 → j ≠ 31 → j ≠ 32 → s'.1 8 0 j = s.1 8 0 j) ∧ s'.1 8 0 30 = nI (K + aF q win) ∧ s'.1 8 0 31 = (if i = 1 then nI (aW q win) else s.1 8 0 31) ∧ s'.1 8 0 32 = (if i = 2 then nI (aW q win) else 0)) ∧ LX8_elects_20 a2 ke (m + 1) (nI (pC q)) (nI i) s = LX8_elects_20 a2 ke m (nI (aW q win)) (nI (i + 1)) s' := by
  have hn := hq.1
  have hC64 := pC_lt hq
  rw [LX8_elects_20, if_neg (show ¬ nI 3 ≤ nI i by rw [le_n (by omega) (by omega)]; omega), if_neg (show ¬ nI (pC q) = 0 by rw [eq_0 (by omega)]; exact hC)]
  obtain ⟨s12, ⟨a1, a2', a3⟩, e12⟩ := m_ewords (a3 := nI (pC q)) hq hB hx hk (fun (σ12 : St) => bd (fX8_laysPass (nI (pC q)) σ12) fun _ (σ13 : St) => gi (nI 2) 59 <| bd (fX8_isFaultyAt (σ13.1 44 0 (nI 2).toNatClampNeg) σ13) fun (r15 : Int32) (σ14 : St) => lt (wI σ14 8 0 30 ((σ13.1 8 0 30) + (if r15 = 0 then 0 else (nI 1)))) fun (σ19 : St) => gi (nI 2) 59 <| bd (fX8_winnersAt (σ19.1 44 0 (nI 2).toNatClampNeg) σ19) fun (r21 : Int32) (σ20 : St) => lt (wI σ20 8 0 31 (if nI i = (nI 1) then r21 else (σ20.1 8 0 31))) fun (σ25 : St) => lt (wI σ25 8 0 32 (if nI i = (nI 2) then r21 else 0)) fun (σ29 : St) => LX8_elects_20 a2 ke m r21 (nI i + nI 1) σ29)
  have hB12 := hB.kp a1
  have hM12 : MPr (wI s12 8 0 23 (nI (pC q))) q := by
    have z : ∀ a b c, (a ≠ 8) → (wI s12 8 0 23 (nI (pC q))).1 a b c = s12.1 a b c := fun a b c h => by rw [rI, if_neg (fun z => h z.1)]
    refine ⟨?_, ?_, ?_, ?_, fun b hb => ?_, fun b hb => ?_, fun l hl => ?_⟩
    · rw [z _ _ _ (by omega)]; exact hB12.1
    · rw [z _ _ _ (by omega)]; exact hB12.2.1
    · rw [z _ _ _ (by omega)]; exact hB12.2.2.1
    · rw [rI, if_pos ⟨rfl, rfl, rfl⟩]
    · rw [z _ _ _ (by omega)]; exact hB12.2.2.2.2.1 b hb
    · rw [z _ _ _ (by omega)]; exact a3 b hb
    · rw [z _ _ _ (by omega)]; exact hB12.2.2.2.2.2 l hl
  obtain ⟨s13, e13, b1, b2, b3, b4⟩ := m_lays hq hM12
  have k13 : Kp SE σ s13 := a1.tr b1 (kp_pick [0, 1, 2, 3, 4, 5] rfl)
  have hB13 := hB.kp k13
  have r30 : s13.1 8 0 30 = nI K := by rw [b2 30 (by omega) (by omega), a2']; exact hK
  have hF : (if (if faN q (tT (tb q 401)) win = true then nI 1 else 0) = 0 then 0 else nI 1) = nI (aF q win) := by
    unfold aF
    split
    · rw [if_neg (by decide)]
    · rw [if_pos rfl, nI_0]
  have hM19 : MPr (wI s13 8 0 30 (nI (K + aF q win))) q := b3.kp (S := SP) (kp_rf.wI (fr_m 0 rfl (Nat.le_refl _) (by omega))) rfl rfl rfl (by rw [rI, if_neg (fun z => by omega)])
  have hA19 : MA (wI s13 8 0 30 (nI (K + aF q win))) q (tb q 401) 401 := b4.w8 (by omega)
  have e21 : fX8_winnersAt (nI win) (wI s13 8 0 30 (nI (K + aF q win))) = some (nI (aW q win), wI s13 8 0 30 (nI (K + aF q win))) := m_winners hq hM19 (Nat.le_refl _) hA19 (by omega)
  have w44 : (wI s13 8 0 30 (nI (K + aF q win))).1 44 0 2 = nI win := by rw [rI, if_neg (fun z => by omega)]; exact hB13.2.2.2.1
  rw [e12, e13, bdS, gi_n (by omega) (by omega), cl (by omega), hB13.2.2.2.1, m_faulty hq b3 (Nat.le_refl _) b4 (by omega), bdS, ltD, hF, r30, add_n, gi_n (by omega) (by omega), w44, e21, bdS, ltD, ltD, add_n]
  refine ⟨_, ⟨((k13.wI (fr_m 0 rfl (Nat.le_refl _) (by omega))).wI (fr_m 0 rfl (Nat.le_refl _) (by omega))).wI (fr_m 0 rfl (Nat.le_refl _) (by omega)), fun j h1 h2 h3 h4 h5 => ?_, ?_, ?_, ?_⟩, rfl⟩
  · rw [rI, if_neg (fun z => by omega), rI, if_neg (fun z => by omega), rI, if_neg (fun z => by omega), b2 j h2 h1, a2']
  · rw [rI, if_neg (fun z => by omega), rI, if_neg (fun z => by omega), rI, if_pos ⟨rfl, rfl, rfl⟩]
  · rw [rI, if_neg (fun z => by omega), rI, if_pos ⟨rfl, rfl, rfl⟩]
    by_cases z : i = 1
    · rw [if_pos (by rw [z]), if_pos z]
    · rw [if_neg (by rw [eq_n (by omega) (by omega)]; exact z), if_neg z, rI, if_neg (fun z => by omega), b2 31 (by omega) (by omega), a2']
  · rw [rI, if_pos ⟨rfl, rfl, rfl⟩]
    by_cases z : i = 2
    · rw [if_pos (by rw [z]), if_pos z]
    · rw [if_neg (by rw [eq_n (by omega) (by omega)]; exact z), if_neg z]
theorem m_last {x : Nat} (hx : x < 64) (σ : St) : LX8_elects_178 (nI x) (fun (x32 : Int32) (σ33 : St) => bd (fX8_bitsOf (nI x) σ33) fun (r35 : Int32) (σ34 : St) => some (if r35 = (nI 1) then x32 else (-2), σ34)) FU 0 σ = some (wv (onN x), σ) := by
  have hb := m_bits σ hx
  have st : ∀ (m i : Nat), i < 6 → x ≠ 0 → LX8_elects_178 (nI x) (fun (x32 : Int32) (σ33 : St) => bd (fX8_bitsOf (nI x) σ33) fun (r35 : Int32) (σ34 : St) => some (if r35 = (nI 1) then x32 else (-2), σ34)) (m + 1) (nI i) σ = if x.testBit i = true then some (if pop6 x = 1 then nI i else -2, σ) else LX8_elects_178 (nI x) (fun (x32 : Int32) (σ33 : St) => bd (fX8_bitsOf (nI x) σ33) fun (r35 : Int32) (σ34 : St) => some (if r35 = (nI 1) then x32 else (-2), σ34)) m (nI (i + 1)) σ := fun m i hi h0 => by
    have hp := pop6_le x hx
    rw [LX8_elects_178, if_neg (by rw [eq_0 (by omega)]; exact h0), has8 (by omega) (by omega), add_n, hb, bdS]
    by_cases q : x.testBit i = true
    · rw [if_pos q, if_pos q, if_neg (by decide)]
      by_cases q2 : pop6 x = 1
      · rw [if_pos q2, if_pos (by rw [q2])]
      · rw [if_neg q2, if_neg (by rw [eq_n (by omega) (by omega)]; exact q2)]
    · rw [if_neg q, if_neg q, if_pos rfl]
  obtain ⟨m, hm⟩ : ∃ m, FU = m + 1 + 1 + 1 + 1 + 1 + 1 + 1 := ⟨FU - 7, by have := FU_gt; omega⟩
  by_cases h0 : x = 0
  · rw [hm, LX8_elects_178, if_pos (by rw [h0, nI_0]), hb, bdS]
    subst h0
    rfl
  · rw [hm]
    show LX8_elects_178 (nI x) _ (m + 1 + 1 + 1 + 1 + 1 + 1 + 1) (nI 0) σ = _
    rw [st _ 0 (by omega) h0, st _ 1 (by omega) h0, st _ 2 (by omega) h0, st _ 3 (by omega) h0, st _ 4 (by omega) h0, st _ 5 (by omega) h0]
    have fact : ∀ x, x < 64 → x ≠ 0 → (if x.testBit 0 = true then some (if pop6 x = 1 then some 0 else none) else if x.testBit 1 = true then some (if pop6 x = 1 then some 1 else none) else if x.testBit 2 = true then some (if pop6 x = 1 then some 2 else none) else if x.testBit 3 = true then some (if pop6 x = 1 then some 3 else none) else if x.testBit 4 = true then some (if pop6 x = 1 then some 4 else none) else if x.testBit 5 = true then some (if pop6 x = 1 then some 5 else none) else none) = some (onN x) := by decide +kernel
    have f := fact x hx h0
    have wif : ∀ i : Nat, (if pop6 x = 1 then nI i else -2) = wv (if pop6 x = 1 then some i else none) := fun i => by
      by_cases q : pop6 x = 1
      · rw [if_pos q, if_pos q, wv_some]
      · rw [if_neg q, if_neg q, wv_none]
    rw [wif, wif, wif, wif, wif, wif]
    by_cases q0 : x.testBit 0 = true
    · rw [if_pos q0] at f ⊢; rw [Option.some.inj f]
    rw [if_neg q0] at f ⊢
    by_cases q1 : x.testBit 1 = true
    · rw [if_pos q1] at f ⊢; rw [Option.some.inj f]
    rw [if_neg q1] at f ⊢
    by_cases q2 : x.testBit 2 = true
    · rw [if_pos q2] at f ⊢; rw [Option.some.inj f]
    rw [if_neg q2] at f ⊢
    by_cases q3 : x.testBit 3 = true
    · rw [if_pos q3] at f ⊢; rw [Option.some.inj f]
    rw [if_neg q3] at f ⊢
    by_cases q4 : x.testBit 4 = true
    · rw [if_pos q4] at f ⊢; rw [Option.some.inj f]
    rw [if_neg q4] at f ⊢
    by_cases q5 : x.testBit 5 = true
    · rw [if_pos q5] at f ⊢; rw [Option.some.inj f]
    rw [if_neg q5] at f
    cases f
