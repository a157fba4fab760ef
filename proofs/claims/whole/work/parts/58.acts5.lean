/-! ===== acts: what is told of the bus and the run ===== -/
theorem act_val {F G : St → Option (Int32 × St)} {σ : St} {N : Nat} {v w : Int32} (h : Rel σ N) (hw : w = 0 ∨ w = nI 1 ∨ w = nI 2 ∨ w = nI 5) (hF : F σ = some (v, cR σ w)) (hG : G (cR σ w) = some (v, mR (cR σ w) w)) : ∃ r σ1 σ2, F σ = some (r, σ1) ∧ G σ1 = some (r, σ2) ∧ Rel σ2 (N + 1) := ⟨v, _, _, hF, hG, h.ref hw⟩
theorem Rel.w0 {σ : St} {N : Nat} (h : Rel σ N) (v : Int32) : Rel (wI σ 8 0 0 v) (N + 1) := by
  refine h.qt ⟨fun a b z => wIc (by omega), fun a b z y => wIc (by omega), fun b z => wIc (by omega), fun b z => wIc (by omega), fun _ => rfl, ⟨rfl, rfl⟩, fun j z => wIj (by omega), fun j z => wIj (by omega)⟩ ?_ ?_ (h.2.2.1.fr (wIj (by omega)) (fun o => wIc (by omega)))
  · rw [wIj (by omega), wIj (by omega)]; exact h.1.1
  · rw [wIj (by omega), wIj (by omega), wIj (by omega)]; exact h.1.2.2
theorem act_fault : Act fX7_fault fX8_fault := fun σ N h _ => ⟨_, σ, wI σ 8 0 0 0, rfl, by
  unfold fX8_fault
  rw [ltD, wIj (by omega), h.1.2.1], h.w0 0⟩
theorem act_where : Act fX7_where fX8_where := fun σ N h _ => ⟨_, σ, wI σ 8 0 0 0, rfl, by
  unfold fX8_where
  rw [ltD, wIj (by omega), wIj (by omega), h.1.1]
  by_cases q : σ.1 8 0 1 = nI 4
  · rw [if_pos q, if_pos q, h.1.2.2 q]
  · rw [if_neg q, if_neg q], h.w0 0⟩
theorem act_trouble : Act fX7_trouble fX8_trouble := fun σ N h _ => ⟨_, σ, wI σ 8 0 0 0, rfl, by
  unfold fX8_trouble
  rw [ltD, wIj (by omega), h.1.1], h.w0 0⟩
theorem below_in {p : Int32} {m : Nat} (hm : m < 2147483648) : fX7_isBelow p (nI m) = fX8_in p 0 (nI m - nI 1) := by
  unfold fX7_isBelow fX8_in
  by_cases q : p < 0
  · rw [if_pos q, if_pos q]
  · obtain ⟨b, b1, rfl⟩ := nat_of q
    rw [if_neg q, if_neg q]
    by_cases m0 : m = 0
    · subst m0
      rw [if_pos (by rw [le_n (by omega) (by omega)]; omega), if_pos]
      rw [show nI 0 - nI 1 = -1 by decide]
      apply Int32.lt_iff_toInt_lt.mpr
      rw [nI_toInt b1, show (-1 : Int32).toInt = -1 by decide]
      omega
    · rw [sub_n (by omega)]
      by_cases q2 : m ≤ b
      · rw [if_pos (by rw [le_n (by omega) (by omega)]; exact q2), if_pos (by rw [lt_n (by omega) (by omega)]; omega)]
      · rw [if_neg (by rw [le_n (by omega) (by omega)]; exact q2), if_neg (by rw [lt_n (by omega) (by omega)]; omega)]
theorem below_of {p : Int32} {m : Nat} (hm : m < 2147483648) (h : ¬ fX7_isBelow p (nI m) = 0) : ∃ b, b < m ∧ p = nI b ∧ fX7_isBelow p (nI m) = nI 1 := by
  unfold fX7_isBelow at h ⊢
  by_cases q : p < 0
  · rw [if_pos q] at h; exact absurd rfl h
  · obtain ⟨b, b1, rfl⟩ := nat_of q
    rw [if_neg q] at h ⊢
    by_cases q2 : m ≤ b
    · rw [if_pos (by rw [le_n (by omega) (by omega)]; exact q2)] at h; exact absurd rfl h
    · rw [if_neg (by rw [le_n (by omega) (by omega)]; exact q2)]
      exact ⟨b, by omega, rfl, rfl⟩
theorem in_5 (p : Int32) : fX8_in p 0 (nI 5) = fX7_isBelow p (nI 6) := (below_in (m := 6) (by omega)).symm
theorem in_6 (p : Int32) : fX8_in p 0 (nI 6) = fX7_isBelow p (nI 7) := (below_in (m := 7) (by omega)).symm
theorem in_10 (p : Int32) : fX8_in p 0 (nI 10) = fX7_isBelow p (nI 11) := (below_in (m := 11) (by omega)).symm
theorem in_63 (p : Int32) : fX8_in p 0 (nI 63) = fX7_isBelow p (nI 64) := (below_in (m := 64) (by omega)).symm
/-- the model's answer at a refusal by w -/
theorem m_no {w : Int32} {σ : St} {K : St → Option (Int32 × St)} (hw : w ≠ 0) : (bd (fX8_isRefused w σ) fun (r : Int32) (σ1 : St) => if r = 0 then K σ1 else some ((-1), σ1)) = some (-1, mR σ w) := m_gate.trans (if_neg hw)
theorem m_yes {σ : St} {K : St → Option (Int32 × St)} : (bd (fX8_isRefused 0 σ) fun (r : Int32) (σ1 : St) => if r = 0 then K σ1 else some ((-1), σ1)) = K (mR σ 0) := m_gate.trans (if_pos rfl)
theorem un_0 : fX8_unless 0 = nI 1 := rfl
theorem un_1 : fX8_unless (nI 1) = 0 := rfl
theorem e44 {σ : St} {w w' : Int32} : (mR (cR σ w) w').1 44 0 = σ.1 44 0 := by rw [mR_o (by omega), cR_o (by omega)]
theorem e47 {σ : St} {w w' : Int32} : (mR (cR σ w) w').1 47 0 = σ.1 47 0 := by rw [mR_o (by omega), cR_o (by omega)]
theorem e89 {σ : St} {w : Int32} {j : Nat} : (cR σ w).1 8 0 j = σ.1 8 0 j := by rw [cR_o (by omega)]
theorem lt6 {j : Nat} (h : j < 6) : j = 0 ∨ j = 1 ∨ j = 2 ∨ j = 3 ∨ j = 4 ∨ j = 5 := by omega
theorem act_about (p1 : Int32) : Act (fX7_about p1) (fX8_about p1) := by
  intro σ N h hN
  have no : ∀ hc : σ.1 7 0 8 = 0 ∨ fX7_isBelow p1 (nI 6) = 0, σ.1 8 0 9 = σ.1 7 0 8 → ∃ r σ1 σ2, fX7_about p1 σ = some (r, σ1) ∧ fX8_about p1 σ1 = some (r, σ2) ∧ Rel σ2 (N + 1) := fun hc h9 => by
    refine act_val (w := nI 1) (v := -1) h (Or.inr (Or.inl rfl)) ?_ ?_
    · unfold fX7_about
      rw [jnD]
      by_cases q : σ.1 7 0 8 = 0
      · rw [if_pos q]; rfl
      · rw [if_neg q, if_pos (hc.resolve_left q)]; rfl
    · unfold fX8_about
      rw [in_5, e89, h9]
      by_cases q : σ.1 7 0 8 = 0
      · rw [if_pos q, un_0]; exact m_no (by decide)
      · rw [if_neg q, if_pos (hc.resolve_left q), un_0]; exact m_no (by decide)
  rcases h.2.2.2.2 with hN | ⟨b1, b2, u, t, s, a, t1, t2, hT, -⟩
  · exact no (Or.inl hN.1) (by rw [hN.1, hN.2.1])
  · by_cases q : fX7_isBelow p1 (nI 6) = 0
    · exact no (Or.inr q) (by rw [b1, b2])
    · obtain ⟨j, j1, rfl, j3⟩ := below_of (by omega) q
      obtain ⟨hu, hP, hM, ⟨d, ⟨P, hP', hB, hPu⟩, h1, -⟩, -⟩ := hT
      have key : ∀ v, (jn (fun (x5 : Int32) (σ4 : St) => bd (fX7_accepted x5 σ4) fun (r7 : Int32) (σ6 : St) => some (r7, σ6)) fun j46 => if nI j = (nI 5) then j46 (σ.1 4 0 2) σ else gd (σ.2.2 7 0 6 < 6) <| bd (fX2_fact (σ.2.2 7 0 6) (nI j) σ) fun (r10 : Int32) (σ9 : St) => j46 r10 σ9) = some (v, cR σ 0) → (if nI j = (nI 5) then gi 0 251 <| some ((mR (cR σ 0) 0).1 47 0 (0 : Int32).toNatClampNeg, mR (cR σ 0) 0) else gi (nI j) 59 <| some ((mR (cR σ 0) 0).1 44 0 (nI j).toNatClampNeg, mR (cR σ 0) 0)) = some (v, mR (cR σ 0) 0) → ∃ r σ1 σ2, fX7_about (nI j) σ = some (r, σ1) ∧ fX8_about (nI j) σ1 = some (r, σ2) ∧ Rel σ2 (N + 1) := fun v k1 k2 => by
        refine act_val (w := 0) (v := v) h (Or.inl rfl) ?_ ?_
        · unfold fX7_about
          rw [jnD, if_neg (by rw [b1]; decide), if_neg q]
          exact k1
        · unfold fX8_about
          rw [in_5, e89, b2, if_neg (show ¬ nI 1 = 0 by decide), if_neg q, un_1]
          exact m_yes.trans k2
      have hp : σ.2.2 7 0 6 = P := hP.symm.trans hP'
      rcases lt6 j1 with rfl | rfl | rfl | rfl | rfl | rfl
      · refine key (nI (uG u)) ?_ ?_
        · rw [jnD, if_neg (by decide), hp, gd_t hB.1]; unfold fX2_fact; rw [if_pos nI_0, bdS, hB.2.1]; rfl
        · rw [if_neg (by decide), gi_n (by omega) (by omega), cl (by omega), e44, hM.1]
      · refine key (nI (uF u)) ?_ ?_
        · rw [jnD, if_neg (by decide), hp, gd_t hB.1]; unfold fX2_fact; rw [if_neg (by decide), if_pos rfl, bdS, hB.2.2.1]; rfl
        · rw [if_neg (by decide), gi_n (by omega) (by omega), cl (by omega), e44, hM.2.1]
      · refine key (nI (uW u)) ?_ ?_
        · rw [jnD, if_neg (by decide), hp, gd_t hB.1]; unfold fX2_fact; rw [if_neg (by decide), if_neg (by decide), if_pos rfl, bdS, hB.2.2.2.1]; rfl
        · rw [if_neg (by decide), gi_n (by omega) (by omega), cl (by omega), e44, hM.2.2.1]
      · refine key (nI (uN u)) ?_ ?_
        · rw [jnD, if_neg (by decide), hp, gd_t hB.1]; unfold fX2_fact; rw [if_neg (by decide), if_neg (by decide), if_neg (by decide), if_pos rfl, bdS, hB.2.2.2.2.1]; rfl
        · rw [if_neg (by decide), gi_n (by omega) (by omega), cl (by omega), e44, hM.2.2.2.1]
      · refine key (nI (uA u)) ?_ ?_
        · rw [jnD, if_neg (by decide), hp, gd_t hB.1]; unfold fX2_fact; rw [if_neg (by decide), if_neg (by decide), if_neg (by decide), if_neg (by decide), bdS, hB.2.2.2.2.2.1]; rfl
        · rw [if_neg (by decide), gi_n (by omega) (by omega), cl (by omega), e44, hM.2.2.2.2.1]
      · refine key (nI t) ?_ ?_
        · rw [jnD, if_pos rfl, h1.1.1]; rfl
        · rw [if_pos rfl, gi_0 (by omega), sb_cl0, e47, h1.1.2]
/-- the first that fits -/
def fsN (f : Nat → Bool) : Nat → Option Nat
  | 0 => none
  | n + 1 => match fsN f n with
    | some b => some b
    | none => if f n = true then some n else none
theorem fsN_keep {f : Nat → Bool} {i b : Nat} (h : fsN f i = some b) : ∀ k, fsN f (i + k) = some b := by
  intro k
  induction k with
  | zero => exact h
  | succ k ih => rw [← Nat.add_assoc, fsN, ih]
theorem lpF {α : Type} (F : Nat → Nat → α) (kx : α) (r : Nat → α) (f : Nat → Bool) (B : Nat) (hB : B ≤ 90000) (hx : ∀ n, F (n + 1) B = kx) (hs : ∀ n i, i < B → F (n + 1) i = if f i = true then r i else F n (i + 1)) : F FU 0 = (match fsN f B with | none => kx | some b => r b) := by
  refine lpE0 (fun n i (_ : Unit) => F n i) B hB (fun i _ => fsN f i = none) (fun x => x = (match fsN f B with | none => kx | some b => r b)) () rfl ?_ ?_
  · intro n _ h
    rw [h]
    exact hx n
  · intro n i _ hi h
    by_cases q : f i = true
    · right
      have e : fsN f (i + 1) = some i := by rw [fsN, h]; exact if_pos q
      have e2 := fsN_keep e (B - (i + 1))
      rw [show i + 1 + (B - (i + 1)) = B by omega] at e2
      rw [e2, hs n i hi, if_pos q]
    · left
      refine ⟨(), ?_, by rw [hs n i hi, if_neg q]⟩
      rw [fsN, h]
      exact if_neg q
/-- a board, or that there is none such -/
def ov (o : Option Nat) : Int32 := match o with
  | none => -1
  | some b => nI b
theorem c_find {σ : St} {P c1 k1 n : Nat} {p : Int32} {f : Nat → Bool} (h3 : σ.1 2 P 3 = nI n) (hn : n ≤ 6) (ha : aln c1 = 6) (hf : ∀ b, b < n → (σ.1 c1 k1 b = p ↔ f b = true)) : fX2_find P c1 k1 p σ = some (ov (fsN f n), σ) := by
  unfold fX2_find
  have := lpF (fun m i => LX2_find_2 P c1 k1 p (fun (σ1 : St) => some ((-1), σ1)) m (nI i) σ) (some (-1, σ)) (fun i => some (nI i, σ)) f n (by omega)
    (fun m => by
      rw [LX2_find_2, h3, if_pos (by rw [le_n (by omega) (by omega)]; exact Nat.le_refl _)])
    (fun m i hi => by
      rw [LX2_find_2, h3, if_neg (by rw [le_n (by omega) (by omega)]; omega), ha, if_neg (by rw [le_n (by omega) (by omega)]; omega), gi_n (by omega) (by omega), cl (by omega), add_n]
      by_cases q : f i = true
      · rw [if_pos ((hf i hi).mpr q), if_pos q]
      · rw [if_neg (fun z => q ((hf i hi).mp z)), if_neg q])
  rw [nI_0] at this
  rw [this]
  cases fsN f n <;> rfl
theorem wI_same {σ : St} {a b c : Nat} {v v' : Int32} : wI (wI σ a b c v) a b c v' = wI σ a b c v' := by
  refine Prod.ext (funext fun x => funext fun y => funext fun z => ?_) rfl
  rw [rI, rI, rI]
  by_cases q : x = a ∧ y = b ∧ z = c
  · rw [if_pos q, if_pos q]
  · rw [if_neg q, if_neg q, if_neg q]
theorem act_named (p1 : Int32) : Act (fX7_named p1) (fX8_named p1) := by
  intro σ N h hN
  rcases h.2.2.2.2 with hN | ⟨b1, b2, u, t, s, a, t1, t2, hT, -⟩
  · refine act_val (w := nI 1) (v := -1) h (Or.inr (Or.inl rfl)) ?_ ?_
    · unfold fX7_named
      rw [jnD, if_pos hN.1]
      exact if_pos rfl
    · unfold fX8_named
      rw [e89, hN.2.1, un_0]
      exact m_no (by decide)
  · obtain ⟨hu, hP, hM, ⟨d, ⟨P, hP', hB, hPu⟩, h1, -⟩, -⟩ := hT
    have hn := hu.n6
    have hp : σ.2.2 7 0 6 = P := hP.symm.trans hP'
    have hfc := c_find (σ := σ) (P := P) (c1 := 25) (k1 := P) (n := uN u) (p := p1) (f := fun b => decide (nI (uC u b) = p1)) hB.2.2.2.2.1 hn rfl (fun b hb => by rw [(hB.2.2.2.2.2.2.1 b hb).2.1]; exact ⟨fun z => decide_eq_true z, fun z => of_decide_eq_true z⟩)
    have hcode : fX2_boardOfCode P p1 σ = some (ov (fsN (fun b => decide (nI (uC u b) = p1)) (uN u)), σ) := by
      unfold fX2_boardOfCode
      rw [hfc, bdS]
    have hfs : ∀ σ', σ'.1 44 0 = σ.1 44 0 → LX8_named_18 p1 (fun (σ3 : St) => bd (fX8_no (nI 1) σ3) fun (r5 : Int32) (σ4 : St) => some (r5, σ4)) FU 0 σ' = (match fsN (fun b => decide (nI (uC u b) = p1)) (uN u) with | none => some (-1, wI σ' 8 0 1 (nI 1)) | some b => some (nI b, σ')) := fun σ' e => by
      have := lpF (fun m i => LX8_named_18 p1 (fun (σ3 : St) => bd (fX8_no (nI 1) σ3) fun (r5 : Int32) (σ4 : St) => some (r5, σ4)) m (nI i) σ') (some (-1, wI σ' 8 0 1 (nI 1))) (fun i => some (nI i, σ')) (fun b => decide (nI (uC u b) = p1)) (uN u) (by omega)
        (fun m => by
          rw [LX8_named_18, gi_n (by omega) (by omega), cl (by omega), e, hM.2.2.2.1, if_pos (by rw [le_n (by omega) (by omega)]; exact Nat.le_refl _)]
          rfl)
        (fun m i hi => by
          rw [LX8_named_18, gi_n (by omega) (by omega), cl (by omega), e, hM.2.2.2.1, if_neg (by rw [le_n (by omega) (by omega)]; omega), add_n, gi_n (by omega) (by omega), cl (by omega), (hM.2.2.2.2.2.1 i hi).2.1, add_n]
          by_cases q : nI (uC u i) = p1
          · rw [if_pos q, if_pos (decide_eq_true q)]
          · rw [if_neg q, if_neg (fun z => q (of_decide_eq_true z))])
      rw [nI_0] at this
      exact this
    have eF : fX7_named p1 σ = (if ov (fsN (fun b => decide (nI (uC u b) = p1)) (uN u)) = (-1) then some (-1, cR σ (nI 1)) else some (ov (fsN (fun b => decide (nI (uC u b) = p1)) (uN u)), cR σ 0)) := by
      unfold fX7_named
      rw [jnD, if_neg (by rw [b1]; decide), hp, gd_t hB.1, hcode, bdS]
      rfl
    have eG : ∀ w, fX8_named p1 (cR σ w) = (match fsN (fun b => decide (nI (uC u b) = p1)) (uN u) with | none => some (-1, mR (cR σ w) (nI 1)) | some b => some (nI b, mR (cR σ w) 0)) := fun w => by
      unfold fX8_named
      rw [e89, b2, un_1]
      refine m_yes.trans ?_
      rw [hfs _ e44]
      cases fsN (fun b => decide (nI (uC u b) = p1)) (uN u) with
      | none =>
        show some (-1, wI (mR (cR σ w) 0) 8 0 1 (nI 1)) = some (-1, mR (cR σ w) (nI 1))
        have : wI (mR (cR σ w) 0) 8 0 1 (nI 1) = mR (cR σ w) (nI 1) := wI_same
        rw [this]
      | some b => rfl
    have hfb : ∀ b, fsN (fun b => decide (nI (uC u b) = p1)) (uN u) = some b → b < 7 := by
      have key : ∀ n, n ≤ 6 → ∀ b, fsN (fun b => decide (nI (uC u b) = p1)) n = some b → b < n := by
        intro n
        induction n with
        | zero => intro _ b z; cases z
        | succ n ih =>
          intro hn b z
          rw [fsN] at z
          cases hh : fsN (fun b => decide (nI (uC u b) = p1)) n with
          | none =>
            rw [hh] at z
            simp only at z
            split at z
            · cases z; omega
            · cases z
          | some c =>
            rw [hh] at z
            cases z
            have := ih (by omega) _ hh
            omega
      intro b z
      have := key (uN u) hn b z
      omega
    cases hh : fsN (fun b => decide (nI (uC u b) = p1)) (uN u) with
    | none =>
      refine act_val (w := nI 1) (v := -1) h (Or.inr (Or.inl rfl)) ?_ ?_
      · rw [eF, hh]; exact if_pos rfl
      · rw [eG, hh]
    | some b =>
      have := hfb b hh
      refine act_val (w := 0) (v := nI b) h (Or.inl rfl) ?_ ?_
      · rw [eF, hh]; exact if_neg (by show ¬ nI b = -1; rw [nm1 (by omega)]; exact id)
      · rw [eG, hh]
