/-! ===== what is read so far, on both sides ===== -/
def FlS (P : Nat) (σ σm σ' σm' : St) : Prop := ∃ k q : Nat, (1 ≤ k ∧ k ≤ 6) ∧ q ≤ 700 ∧ σ'.1 3 0 1 = nI k ∧ σ'.1 3 0 0 = nI q ∧ σm'.1 8 0 15 = nI k ∧ σm'.1 8 0 16 = nI q ∧ FC P σ σ' ∧ FM σm σm'
theorem Fl.s {P : Nat} {σ σm : St} {rc rm : Option (Int32 × St)} (h : Fl P σ σm rc rm) : ∃ σ' σm', rc = some (0, σ') ∧ rm = some (0, σm') ∧ FlS P σ σm σ' σm' := by
  obtain ⟨σ', σm', k, q, h1, h2, h3⟩ := h
  exact ⟨σ', σm', h1, h2, k, q, h3⟩
/-- one number is laid, tokens go on -/
def G45 (σ σ' : St) (at_ v : Nat) : Prop := (∀ x y, ¬ (x = 8 ∧ y = 0) → ¬ (x = 45 ∧ y = 0) → σ'.1 x y = σ.1 x y) ∧ (∀ j, ¬ (11 ≤ j ∧ j ≤ 14) → σ'.1 8 0 j = σ.1 8 0 j) ∧ σ'.2 = σ.2 ∧ (∀ j, j ≠ at_ → σ'.1 45 0 j = σ.1 45 0 j) ∧ σ'.1 45 0 at_ = nI v
theorem G45.fm {σ σ' : St} {at_ v : Nat} (h : G45 σ σ' at_ v) : FM σ σ' := ⟨h.1, fun j z => h.2.1 j (by omega), by rw [h.2.2.1], fun x y _ => by rw [h.2.2.1]⟩
theorem g45_of {σ σ1 σ' : St} {at_ v : Nat} (f : F8 σ σ1) (g : F8 (wI σ1 45 0 at_ (nI v)) σ') : G45 σ σ' at_ v := by
  refine ⟨fun x y z w => ?_, fun j z => ?_, ?_, fun j z => ?_, ?_⟩
  · rw [g.1 x y z, wIk w, f.1 x y z]
  · rw [g.2.2 j z, wIj (by omega), f.2.2 j z]
  · rw [g.2.1]; exact f.2.1
  · rw [g.1 45 0 (by omega), wIj (by omega), f.1 45 0 (by omega)]
  · rw [g.1 45 0 (by omega), wIe (by omega)]
theorem tk_adv {T : Nat → Nat} {n q : Nat} (h : tkK T n q ≠ 0) : q < tkE T n q := by
  unfold tkK at h
  by_cases g : n ≤ q
  · rw [if_pos g] at h; exact absurd rfl h
  · unfold tkE
    rw [if_neg g]
    have one : ∀ f : Nat → Bool, f q = true → q < runN f (n - q) q := fun f hf => by
      obtain ⟨d, hd⟩ : ∃ d, n - q = d + 1 := ⟨n - q - 1, by omega⟩
      rw [hd, runN, if_pos hf]
      have := runN_ge f d (q + 1)
      omega
    by_cases hl : isL T q = true
    · rw [if_pos hl]; exact one _ hl
    · rw [if_neg hl]
      by_cases hg : isG T q = true
      · rw [if_pos hg]; exact one _ hg
      · rw [if_neg hg]; omega
theorem tkQ_ge (T : Nat → Nat) (n p : Nat) : p ≤ tkQ T n p := runN_ge _ _ _
theorem wdB_1 {T : Nat → Nat} {n q s : Nat} (h : wdB T n q s = true) : tkK T n q = 1 := (of_decide_eq_true h).1
/-- a keyword and its number -/
theorem k_after {P : Nat} {σ0 σm0 σ σm : St} {T : Nat → Nat} {n p s lo hi at_ : Nat} {lo' a' : Int32} (hs : s < 9) (hlo : lo' = nI lo) (ha' : a' = nI at_) (h1 : lo < 2147483648) (h2 : hi < 2147483648) (ha : at_ < 59) (h : SY σ σm T n p) (hc : FC P σ0 σ) (hm : FM σm0 σm) :
    (∃ σf σmf, FlS P σ0 σm0 σf σmf ∧ fX8_after s a' lo' (nI hi) σm = some (0, σmf) ∧ (fX3_keyword s σ = some (0, σf) ∨ ∃ σ1, fX3_keyword s σ = some (nI 1, σ1) ∧ fX3_whole lo' (nI hi) σ1 = some (0, σf))) ∨
    ∃ σ1 σ' σm' v p', fX3_keyword s σ = some (nI 1, σ1) ∧ fX3_whole lo' (nI hi) σ1 = some (nI 1, σ') ∧ fX8_after s a' lo' (nI hi) σm = some (nI 1, σm') ∧ lo ≤ v ∧ v ≤ hi ∧ v < 1000 ∧ F3 σ σ' ∧ σ'.1 3 0 8 = nI v ∧ G45 σm σm' at_ v ∧ SY σ' σm' T n p' ∧ p ≤ p' := by
  unfold fX8_after
  rcases k_key hs h hc hm with ⟨g1, r, g2, g3⟩ | ⟨σ1, g1, g2, g3, g4⟩
  · left
    obtain ⟨σf, σmf, x1, x2, x3⟩ := g3.s
    cases x1
    refine ⟨r, σmf, x3, ?_, Or.inl g2⟩
    rw [g1, bdS, if_pos rfl, x2, bdS, rz_0]
  · obtain ⟨σm1, y1, y2, y3⟩ := sk_go g3
    have hp : p ≤ tkE T n (tkQ T n p) := by
      have a1 := tkQ_ge T n p
      have a2 : tkQ T n p ≤ tkE T n (tkQ T n p) := by
        unfold tkE
        split
        · omega
        · split
          · exact runN_ge _ _ _
          · split
            · exact runN_ge _ _ _
            · omega
      omega
    rw [g4, bdS, if_neg (by decide), y1, bdS]
    rcases k_whole hlo ha' h1 h2 ha y3 (hc.tr g2.fc) (hm.tr y2.fm) with z | ⟨σ', σm', v, z1, z2, z3, z4, z5, z6, z7, z8, z9⟩
    · left
      obtain ⟨σf, σmf, x1, x2, x3⟩ := z.s
      refine ⟨σf, σmf, x3, ?_, Or.inr ⟨σ1, g1, x1⟩⟩
      rw [x2, bdS, rz_0]
    · right
      refine ⟨σ1, σ', σm', v, _, g1, z1, by rw [z2, bdS, rz_1], z3, z4, z5, g2.tr z6, z7, g45_of y2 z8, z9, ?_⟩
      have a1 := tkQ_ge T n (tkE T n (tkQ T n p))
      have a2 : tkQ T n (tkE T n (tkQ T n p)) ≤ tkE T n (tkQ T n (tkE T n (tkQ T n p))) := by
        generalize tkQ T n (tkE T n (tkQ T n p)) = w
        unfold tkE
        split
        · omega
        · split
          · exact runN_ge _ _ _
          · split
            · exact runN_ge _ _ _
            · omega
      omega
/-- the bus as far as it is read -/
def UP (u : BU) : Prop := uN u ≤ 6 ∧ uA u ≤ 12 ∧ (∀ b, b < uN u → uS u b < 10) ∧ (∀ a b, a < uN u → b < uN u → uS u a = uS u b → a = b) ∧ (∀ b, b < uN u → 1 ≤ uC u b ∧ uC u b < 32) ∧ (∀ b, b < uN u → uR u b ≤ 7) ∧ (∀ i, i < uA u → 1 ≤ uT u i ∧ uT u i ≤ 999) ∧ (∀ i j, i ≤ j → j < uA u → uT u i ≤ uT u j) ∧ (∀ i, i < uA u → uB u i < uN u) ∧ ∀ i, i < uA u → uK u i ≤ 99
def HdOk (u : BU) (hd : Nat) : Prop := hd ≤ 1 ∧ (hd = 1 → (1 ≤ uG u ∧ uG u ≤ 3) ∧ uF u ≤ 20 ∧ 1 ≤ uW u ∧ uW u ≤ 200) ∧ (hd = 0 → uN u = 0 ∧ uA u = 0)
def PC (σ : St) (P : Nat) (u : BU) (hd : Nat) (Ws : Nat → List Nat) : Prop := (σ.1 2 P 3 = nI (uN u) ∧ σ.1 2 P 4 = nI (uA u) ∧ σ.1 2 P 5 = nI hd) ∧ (hd = 1 → σ.1 2 P 0 = nI (uG u) ∧ σ.1 2 P 1 = nI (uF u) ∧ σ.1 2 P 2 = nI (uW u)) ∧ (∀ b, b < uN u → (σ.1 24 P b = nI (uS u b) ∧ σ.1 25 P b = nI (uC u b) ∧ σ.1 26 P b = nI (uR u b) ∧ σ.1 27 P b = nI (wd2 (uC u) b)) ∧ σ.1 23 P b = nI (vB 27 (Ws b))) ∧ ∀ i, i < uA u → σ.1 28 P i = nI (uT u i) ∧ σ.1 29 P i = nI (uB u i) ∧ σ.1 30 P i = nI (uK u i)
def PM (σ : St) (u : BU) (hd : Nat) (Ws : Nat → List Nat) : Prop := (σ.1 45 0 3 = nI (uN u) ∧ σ.1 45 0 4 = nI (uA u) ∧ σ.1 8 0 17 = nI hd) ∧ (hd = 1 → σ.1 45 0 0 = nI (uG u) ∧ σ.1 45 0 1 = nI (uF u) ∧ σ.1 45 0 2 = nI (uW u)) ∧ (∀ b, b < uN u → (σ.1 45 0 (5 + b) = nI (uS u b) ∧ σ.1 45 0 (11 + b) = nI (uC u b) ∧ σ.1 45 0 (17 + b) = nI (uR u b)) ∧ σ.2.1 46 0 b = lN (vB 32 (Ws b))) ∧ ∀ i, i < uA u → σ.1 45 0 (23 + i) = nI (uT u i) ∧ σ.1 45 0 (35 + i) = nI (uB u i) ∧ σ.1 45 0 (47 + i) = nI (uK u i)
def WOk (Ws : Nat → List Nat) (n : Nat) : Prop := ∀ b, b < n → Lt (Ws b) ∧ (Ws b).length ≤ 6
/-- all that holds between two lines -/
def LN (P : Nat) (σ0 σm0 σ σm : St) (T : Nat → Nat) (n p : Nat) (u : BU) (hd : Nat) (Ws : Nat → List Nat) : Prop := SY σ σm T n p ∧ PC σ P u hd Ws ∧ PM σm u hd Ws ∧ UP u ∧ HdOk u hd ∧ WOk Ws (uN u) ∧ (σ.2.2 3 0 3 = P ∧ σ.1 3 0 1 = 0) ∧ P < 6 ∧ FC P σ0 σ ∧ FM σm0 σm
theorem PC.f3 {σ σ' : St} {P : Nat} {u : BU} {hd : Nat} {Ws : Nat → List Nat} (h : PC σ P u hd Ws) (f : F3 σ σ') : PC σ' P u hd Ws := by
  unfold PC
  rw [f.1 2 P (by omega), f.1 23 P (by omega), f.1 24 P (by omega), f.1 25 P (by omega), f.1 26 P (by omega), f.1 27 P (by omega), f.1 28 P (by omega), f.1 29 P (by omega), f.1 30 P (by omega)]
  exact h
theorem PM.f8 {σ σ' : St} {u : BU} {hd : Nat} {Ws : Nat → List Nat} (h : PM σ u hd Ws) (f : F8 σ σ') : PM σ' u hd Ws := by
  unfold PM
  rw [f.1 45 0 (by omega), f.2.2 17 (by omega), f.2.1]
  exact h
/-- a number is laid where nothing stood -/
theorem PM.g {σ σ' : St} {u : BU} {hd : Nat} {Ws : Nat → List Nat} {at_ v : Nat} (h : PM σ u hd Ws) (f : G45 σ σ' at_ v) (hu : UP u) (ha : (hd = 0 ∧ at_ < 3) ∨ (5 + uN u ≤ at_ ∧ at_ < 11) ∨ (11 + uN u ≤ at_ ∧ at_ < 17) ∨ (17 + uN u ≤ at_ ∧ at_ < 23) ∨ (23 + uA u ≤ at_ ∧ at_ < 35) ∨ (35 + uA u ≤ at_ ∧ at_ < 47) ∨ (47 + uA u ≤ at_ ∧ at_ < 59)) : PM σ' u hd Ws := by
  obtain ⟨⟨h1, h2, h3⟩, h4, h5, h6⟩ := h
  have n6 := hu.1
  have n12 := hu.2.1
  refine ⟨⟨?_, ?_, ?_⟩, fun z => ⟨?_, ?_, ?_⟩, fun b hb => ⟨⟨?_, ?_, ?_⟩, ?_⟩, fun i hi => ⟨?_, ?_, ?_⟩⟩
  · rw [f.2.2.2.1 3 (by omega)]; exact h1
  · rw [f.2.2.2.1 4 (by omega)]; exact h2
  · rw [f.2.1 17 (by omega)]; exact h3
  · rw [f.2.2.2.1 0 (by omega)]; exact (h4 z).1
  · rw [f.2.2.2.1 1 (by omega)]; exact (h4 z).2.1
  · rw [f.2.2.2.1 2 (by omega)]; exact (h4 z).2.2
  · rw [f.2.2.2.1 _ (by omega)]; exact (h5 b hb).1.1
  · rw [f.2.2.2.1 _ (by omega)]; exact (h5 b hb).1.2.1
  · rw [f.2.2.2.1 _ (by omega)]; exact (h5 b hb).1.2.2
  · rw [f.2.2.1]; exact (h5 b hb).2
  · rw [f.2.2.2.1 _ (by omega)]; exact (h6 i hi).1
  · rw [f.2.2.2.1 _ (by omega)]; exact (h6 i hi).2.1
  · rw [f.2.2.2.1 _ (by omega)]; exact (h6 i hi).2.2
/-- the head of a bus: its three numbers -/
def uHead (u : BU) (g f w : Nat) : BU := ((uN u, g, f, w, uA u), u.2)
theorem c_w2 {σ : St} {P j : Nat} {v : Int32} {T : Nat → Nat} {n : Nat} (h : CX σ T n) : CX (wI σ 2 P j v) T n := by
  unfold CX
  rw [wIc (by omega), wIc (by omega)]
  exact h
theorem SY.w2 {σ σm : St} {P j : Nat} {v : Int32} {T : Nat → Nat} {n p : Nat} (h : SY σ σm T n p) : SY (wI σ 2 P j v) σm T n p := ⟨c_w2 h.1, h.2.1, h.2.2.1, (wIj (by omega)).trans h.2.2.2.1, (wIj (by omega)).trans h.2.2.2.2.1, h.2.2.2.2.2⟩
theorem l_head {P : Nat} {σ0 σm0 σ σm : St} {T : Nat → Nat} {n p : Nat} {u : BU} {Ws : Nat → List Nat} (h : LN P σ0 σm0 σ σm T n p u 0 Ws) (hw : wdB T n (tkQ T n p) 0 = true) (σ1 : St) (f1 : F3 σ σ1) (s1 : SK σ1 σm T n (tkQ T n p)) :
    Fl P σ0 σm0 (fX3_readHead σ1) (fX8_readBus σm) ∨ ∃ σ' σm' p' g f w, fX3_readHead σ1 = some (nI 1, σ') ∧ fX8_readBus σm = some (nI 1, σm') ∧ LN P σ0 σm0 σ' σm' T n p' (uHead u g f w) 1 Ws ∧ p < p' := by
  obtain ⟨hSY, hPC, hPM, hUP, hHd, hWO, hT, hP6, hFC, hFM⟩ := h
  obtain ⟨n0, a0⟩ := hHd.2.2 rfl
  have hT1 : σ1.2.2 3 0 3 = P := by rw [f1.2.1]; exact hT.1
  obtain ⟨σm1, y1, y2, y3⟩ := sk_go s1
  have hadv : p < tkE T n (tkQ T n p) := by
    have b1 := tkQ_ge T n p
    have b2 := tk_adv (T := T) (n := n) (q := tkQ T n p) (by rw [wdB_1 hw]; omega)
    omega
  have hPM1 := hPM.f8 y2
  have h17 : σm.1 8 0 17 = 0 := by rw [hPM.1.2.2, nI_0]
  unfold fX3_readHead fX8_readBus
  rw [hT1, gd_t hP6, gd_t (show nI 1 = 0 ∨ nI 1 = 1 by decide), ltD, h17, if_pos rfl, y1, bdS]
  have c0 : FC P σ0 (wI σ1 2 P 5 (nI 1)) := (hFC.tr f1.fc).w (by omega)
  simp only [jnD]
  -- failing in the model: the mark stays 0
  have mf : ∀ σf σmf : St, FlS P σ0 σm0 σf σmf → Fl P σ0 σm0 (some (0, σf)) (gd ((0 : Int32) = 0 ∨ (0 : Int32) = 1) <| lt (wI σmf 8 0 17 0) fun (σ6 : St) => rz (σ6.1 8 0 17) σ6) := fun σf σmf hf => by
    obtain ⟨k, q, g1, g2, g3, g4, g5, g6, g7, g8⟩ := hf
    rw [gd_t (by decide), ltD, wIe (by omega), rz_0]
    exact ⟨σf, _, k, q, rfl, rfl, g1, g2, g3, g4, (wIj (by omega)).trans g5, (wIj (by omega)).trans g6, g7, g8.w8 (by omega)⟩
  rcases k_after (s := 1) (lo := 1) (hi := 3) (at_ := 0) (a' := 0) (by omega) rfl nI_0.symm (by omega) (by omega) (by omega) (y3.w2 (P := P) (j := 5) (v := nI 1)) c0 (hFM.tr y2.fm) with ⟨σf, σmf, x1, x2, x3⟩ | ⟨τ1, τ2, μ2, v, p2, x1, x2, x3, v1, v2, v3, x4, x5, x6, x7, x8⟩
  · left
    rw [x2, bdS, if_pos rfl]
    rcases x3 with x3 | ⟨τ1, x3, x4⟩
    · rw [x3, bdS, if_pos rfl]; exact mf _ _ x1
    · rw [x3, bdS, if_neg (by decide), x4, bdS, if_pos rfl]; exact mf _ _ x1
  rw [x1, bdS, if_neg (show ¬ nI 1 = 0 by decide), x2, bdS, if_neg (show ¬ nI 1 = 0 by decide), x3, bdS, if_neg (show ¬ nI 1 = 0 by decide)]
  have t2 : τ2.2.2 3 0 3 = P := by rw [x4.2.1]; exact hT1
  rw [t2, gd_t hP6, ltD, x5]
  have c2 : FC P σ0 (wI τ2 2 P 0 (nI v)) := (c0.tr x4.fc).w (by omega)
  have m2 : FM σm0 μ2 := (hFM.tr y2.fm).tr x6.fm
  rcases k_after (s := 2) (lo := 0) (hi := 20) (at_ := 1) (a' := nI 1) (by omega) nI_0.symm rfl (by omega) (by omega) (by omega) (x7.w2 (P := P) (j := 0) (v := nI v)) c2 m2 with ⟨σf, σmf, z1, z2, z3⟩ | ⟨τ3, τ4, μ4, v', p4, z1, z2, z3, w1, w2, w3, z4, z5, z6, z7, z8⟩
  · left
    rw [z2, bdS, if_pos rfl]
    rcases z3 with z3 | ⟨τ1', z3, z4⟩
    · rw [z3, bdS, if_pos rfl]; exact mf _ _ z1
    · rw [z3, bdS, if_neg (by decide), z4, bdS, if_pos rfl]; exact mf _ _ z1
  rw [z1, bdS, if_neg (show ¬ nI 1 = 0 by decide), z2, bdS, if_neg (show ¬ nI 1 = 0 by decide), z3, bdS, if_neg (show ¬ nI 1 = 0 by decide)]
  have t4 : τ4.2.2 3 0 3 = P := by rw [z4.2.1]; exact t2
  rw [t4, gd_t hP6, ltD, z5]
  have c4 : FC P σ0 (wI τ4 2 P 1 (nI v')) := (c2.tr z4.fc).w (by omega)
  have m4 : FM σm0 μ4 := m2.tr z6.fm
  rcases k_after (s := 3) (lo := 1) (hi := 200) (at_ := 2) (a' := nI 2) (by omega) rfl rfl (by omega) (by omega) (by omega) (z7.w2 (P := P) (j := 1) (v := nI v')) c4 m4 with ⟨σf, σmf, q1, q2, q3⟩ | ⟨τ5, τ6, μ6, v'', p6, q1, q2, q3, d1, d2, d3, q4, q5, q6, q7, q8⟩
  · left
    rw [q2, bdS, if_pos rfl]
    rcases q3 with q3 | ⟨τ1', q3, q4⟩
    · rw [q3, bdS, if_pos rfl]; exact mf _ _ q1
    · rw [q3, bdS, if_neg (by decide), q4, bdS, if_pos rfl]; exact mf _ _ q1
  right
  rw [q1, bdS, if_neg (show ¬ nI 1 = 0 by decide), q2, bdS, if_neg (show ¬ nI 1 = 0 by decide), q3, bdS, if_neg (show ¬ nI 1 = 0 by decide)]
  have t6 : τ6.2.2 3 0 3 = P := by rw [q4.2.1]; exact t4
  rw [t6, gd_t hP6, ltD, q5, gd_t (show nI 1 = 0 ∨ nI 1 = 1 by decide), ltD, wIe (by omega), rz_1]
  refine ⟨_, _, p6, v, v', v'', rfl, rfl, ⟨?_, ?_, ?_, ?_, ?_, ?_, ?_, hP6, ?_, ?_⟩, by omega⟩
  · have := q7.w2 (P := P) (j := 2) (v := nI v'')
    obtain ⟨r1, r2, r3, r4, r5, r6⟩ := this
    refine ⟨r1, ?_, r3, r4, r5, ?_⟩
    · unfold MX
      rw [wIj (by omega), wIc (by omega)]
      exact r2
    · unfold MK
      rw [wIj (by omega), wIj (by omega), wIj (by omega), wIj (by omega)]
      exact r6
  · have e2 : ∀ j, 3 ≤ j → j ≠ 5 → (wI τ6 2 P 2 (nI v'')).1 2 P j = σ.1 2 P j := fun j g1 g2 => by
      rw [wIj (by omega), q4.1 2 P (by omega), wIj (by omega), z4.1 2 P (by omega), wIj (by omega), x4.1 2 P (by omega), wIj (by omega), f1.1 2 P (by omega)]
    refine ⟨⟨?_, ?_, ?_⟩, fun _ => ⟨?_, ?_, wIe (by omega)⟩, fun b hb => ?_, fun i hi => ?_⟩
    · rw [e2 3 (by omega) (by omega)]; exact hPC.1.1
    · rw [e2 4 (by omega) (by omega)]; exact hPC.1.2.1
    · rw [wIj (by omega), q4.1 2 P (by omega), wIj (by omega), z4.1 2 P (by omega), wIj (by omega), x4.1 2 P (by omega), wIe (by omega)]
    · rw [wIj (by omega), q4.1 2 P (by omega), wIj (by omega), z4.1 2 P (by omega), wIe (by omega)]; rfl
    · rw [wIj (by omega), q4.1 2 P (by omega), wIe (by omega)]; rfl
    · have hb' : b < uN u := hb
      omega
    · have hi' : i < uA u := hi
      omega
  · have M0 : PM μ2 u 0 Ws := hPM1.g x6 hUP (by omega)
    have M1 : PM μ4 u 0 Ws := M0.g z6 hUP (by omega)
    have M2 : PM μ6 u 0 Ws := M1.g q6 hUP (by omega)
    refine ⟨⟨?_, ?_, wIe (by omega)⟩, fun _ => ⟨?_, ?_, ?_⟩, fun b hb => ?_, fun i hi => ?_⟩
    · rw [wIj (by omega)]; exact M2.1.1
    · rw [wIj (by omega)]; exact M2.1.2.1
    · rw [wIj (by omega), q6.2.2.2.1 0 (by omega), z6.2.2.2.1 0 (by omega)]; exact x6.2.2.2.2
    · rw [wIj (by omega), q6.2.2.2.1 1 (by omega)]; exact z6.2.2.2.2
    · rw [wIj (by omega)]; exact q6.2.2.2.2
    · have hb' : b < uN u := hb
      omega
    · have hi' : i < uA u := hi
      omega
  · exact hUP
  · exact ⟨by omega, fun _ => ⟨⟨v1, v2⟩, w2, d1, d2⟩, fun z => by omega⟩
  · exact hWO
  · exact ⟨t6, by rw [wIj (by omega), q4.2.2 1 (by omega), wIj (by omega), z4.2.2 1 (by omega), wIj (by omega), x4.2.2 1 (by omega), wIj (by omega), f1.2.2 1 (by omega)]; exact hT.2⟩
  · exact (c4.tr q4.fc).w (by omega)
  · exact (m4.tr q6.fm).w8 (by omega)
