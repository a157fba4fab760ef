/-! ===== keywords, wholes, names on both sides ===== -/
theorem k_key {P : Nat} {σ0 σm0 σ σm : St} {T : Nat → Nat} {n p s : Nat} (hs : s < 9) (h : SY σ σm T n p) (hc : FC P σ0 σ) (hm : FM σm0 σm) :
    (fX8_isWord s σm = some (0, σm) ∧ ∃ r, fX3_keyword s σ = some (0, r) ∧ Fl P σ0 σm0 (some (0, r)) (fX8_errs (nI 1) σm)) ∨ ∃ σ', fX3_keyword s σ = some (nI 1, σ') ∧ F3 σ σ' ∧ SK σ' σm T n (tkQ T n p) ∧ fX8_isWord s σm = some (nI 1, σm) := by
  obtain ⟨σ1, e1, e2, e3⟩ := sy_step h
  have w1 := c_isWord hs e3.2.2.2.2.1
  have w2 := m_isWord hs e3.2.1 e3.2.2.2.2.2
  unfold fX3_keyword
  rw [e1, bdS, w1, bdS, w2, jnD]
  by_cases q : wdB T n (tkQ T n p) s = true
  · right
    rw [if_pos q, if_neg (show ¬ nI 1 = 0 by decide)]
    exact ⟨σ1, rfl, e2, e3, rfl⟩
  · left
    rw [if_neg q, if_pos rfl, c_fail, bdS, if_pos rfl, m_fail]
    exact ⟨rfl, _, rfl, sk_fail e3 (hc.tr e2.fc) hm (by omega)⟩
theorem tk_whole {T : Nat → Nat} {n q : Nat} (h : tkK T n q = 2) : q < n ∧ q ≤ tkE T n q ∧ tkE T n q - q ≤ 3 ∧ ∀ i, i < tkE T n q - q → isG T (q + i) = true := by
  unfold tkK at h
  by_cases g : n ≤ q
  · rw [if_pos g] at h; omega
  · rw [if_neg g] at h
    by_cases hl : isL T q = true
    · rw [if_pos hl] at h; split at h <;> omega
    · rw [if_neg hl] at h
      by_cases hg : isG T q = true
      · rw [if_pos hg] at h
        have hE : tkE T n q = runN (isG T) (n - q) q := by unfold tkE; rw [if_neg g, if_neg hl, if_pos hg]
        refine ⟨by omega, by rw [hE]; exact runN_ge _ _ _, ?_, fun i hi => runN_all _ (n - q) q (q + i) (by omega) (by rw [← hE]; omega)⟩
        by_cases z : tkE T n q - q ≤ 3
        · exact z
        · rw [if_neg z] at h; omega
      · rw [if_neg hg] at h; split at h <;> omega
theorem vD_lt {T : Nat → Nat} {q : Nat} : ∀ j, (∀ i, i < j → isG T (q + i) = true) → vD T q j < 10 ^ j := by
  intro j
  induction j with
  | zero => intro _; simp [vD]
  | succ j ih =>
    intro h
    have h1 := ih (fun i hi => h i (by omega))
    have h2 := of_decide_eq_true (h j (by omega))
    rw [vD, Nat.pow_succ]
    omega
theorem vD_1000 {T : Nat → Nat} {n q : Nat} (h : tkK T n q = 2) : vD T q (tkE T n q - q) < 1000 := by
  obtain ⟨-, -, h3, h4⟩ := tk_whole h
  have h1 := vD_lt _ h4
  have h2 : 10 ^ (tkE T n q - q) ≤ 10 ^ 3 := Nat.pow_le_pow_right (by omega) h3
  omega
/-- a whole is read on both sides: what the class says of it, what the model says -/
theorem c_whole {σ σm : St} {T : Nat → Nat} {n p lo hi : Nat} {lo' : Int32} (hlo : lo' = nI lo) (h1 : lo < 2147483648) (h2 : hi < 2147483648) (h : SY σ σm T n p) : ∃ σ1, F3 σ σ1 ∧ SK σ1 σm T n (tkQ T n p) ∧ ((tkK T n (tkQ T n p) ≠ 2 ∧ fX3_whole lo' (nI hi) σ = some (0, wI (wI σ1 3 0 1 (nI 1)) 3 0 0 (σ1.1 3 0 7))) ∨ (∃ v, tkK T n (tkQ T n p) = 2 ∧ v < 1000 ∧ σ1.1 3 0 8 = nI v ∧ σm.1 8 0 14 = nI v ∧ ((lo ≤ v ∧ v ≤ hi ∧ fX3_whole lo' (nI hi) σ = some (nI 1, σ1)) ∨ (¬ (lo ≤ v ∧ v ≤ hi) ∧ fX3_whole lo' (nI hi) σ = some (0, wI (wI σ1 3 0 1 (nI 4)) 3 0 0 (σ1.1 3 0 7)))))) := by
  subst hlo
  obtain ⟨σ1, e1, e2, e3⟩ := sy_step h
  refine ⟨σ1, e2, e3, ?_⟩
  have hk := tkK_le T n (tkQ T n p)
  obtain ⟨k5, k7, k6, k81, k82⟩ := e3.2.2.2.2.1
  obtain ⟨m12, m11, m13, m14⟩ := e3.2.2.2.2.2
  unfold fX3_whole
  rw [e1, bdS, k6]
  by_cases q : tkK T n (tkQ T n p) = 2
  · right
    have hv := vD_1000 q
    refine ⟨_, q, hv, k82 q, m14 q, ?_⟩
    rw [if_pos (by rw [q]), k82 q]
    simp only [jnD, c_fail, bdS, if_true]
    generalize vD T (tkQ T n p) (tkE T n (tkQ T n p) - tkQ T n p) = v at hv
    by_cases g1 : v < lo
    · right
      rw [if_pos (by rw [lt_n (by omega) (by omega)]; exact g1)]
      exact ⟨by omega, rfl⟩
    · rw [if_neg (by rw [lt_n (by omega) (by omega)]; exact g1)]
      by_cases g2 : v ≤ hi
      · left
        rw [if_pos (by rw [le_n (by omega) (by omega)]; exact g2)]
        exact ⟨by omega, g2, rfl⟩
      · right
        rw [if_neg (by rw [le_n (by omega) (by omega)]; exact g2)]
        exact ⟨by omega, rfl⟩
  · left
    rw [if_neg (by rw [eq_n (by omega) (by omega)]; exact q), c_fail, bdS, rz_0]
    exact ⟨q, rfl⟩
/-- the model lays a whole -/
theorem m_lays2 {σ σm : St} {T : Nat → Nat} {n q lo hi at_ : Nat} {lo' a' : Int32} (hlo : lo' = nI lo) (ha' : a' = nI at_) (h1 : lo < 2147483648) (h2 : hi < 2147483648) (ha : at_ < 59) (h : SK σ σm T n q) : (tkK T n q ≠ 2 ∧ fX8_lays a' lo' (nI hi) σm = some (0, wI (wI σm 8 0 15 (nI 1)) 8 0 16 (σm.1 8 0 11))) ∨ (∀ v, tkK T n q = 2 → v < 1000 → σm.1 8 0 14 = nI v → ((lo ≤ v ∧ v ≤ hi ∧ ∃ σm', fX8_lays a' lo' (nI hi) σm = some (nI 1, σm') ∧ F8 (wI σm 45 0 at_ (nI v)) σm' ∧ SY σ σm' T n (tkE T n q)) ∨ (¬ (lo ≤ v ∧ v ≤ hi) ∧ fX8_lays a' lo' (nI hi) σm = some (0, wI (wI σm 8 0 15 (nI 4)) 8 0 16 (σm.1 8 0 11))))) := by
  subst hlo ha'
  obtain ⟨k1, k2, k3, k4, k5, k6⟩ := h
  obtain ⟨m12, m11, m13, m14⟩ := k6
  have hk := kM_eq _ (tkK_le T n q)
  unfold fX8_lays
  rw [m13]
  by_cases q2 : tkK T n q = 2
  · right
    intro v _ hv h14
    rw [if_pos (hk.2.1.mpr q2), h14]
    unfold fX8_in
    by_cases g1 : v < lo
    · right
      rw [if_pos (show nI v < nI lo by rw [lt_n (by omega) (by omega)]; exact g1), if_pos rfl, m_fail, bdS, rz_0]
      exact ⟨by omega, rfl⟩
    · rw [if_neg (show ¬ nI v < nI lo by rw [lt_n (by omega) (by omega)]; exact g1)]
      by_cases g2 : hi < v
      · right
        rw [if_pos (show nI hi < nI v by rw [lt_n (by omega) (by omega)]; exact g2), if_pos rfl, m_fail, bdS, rz_0]
        exact ⟨by omega, rfl⟩
      · left
        rw [if_neg (show ¬ nI hi < nI v by rw [lt_n (by omega) (by omega)]; exact g2), if_neg (by decide), gi_n ha (by omega), cl (by omega), ltD]
        have h' : SK σ (wI σm 45 0 at_ (nI v)) T n q := by
          refine ⟨k1, ?_, k3, k4, k5, ?_⟩
          · unfold MX
            rw [wIj (by omega), wIc (by omega)]
            exact k2
          · unfold MK
            rw [wIj (by omega), wIj (by omega), wIj (by omega), wIj (by omega)]
            exact ⟨m12, m11, m13, m14⟩
        obtain ⟨σm', e1, e2, e3⟩ := sk_go h'
        rw [e1, bdS]
        exact ⟨by omega, by omega, σm', rfl, e2, e3⟩
  · left
    rw [if_neg (fun z => q2 (hk.2.1.mp z)), m_fail, bdS, rz_0]
    exact ⟨q2, rfl⟩
theorem FM.of8 {σ0 σ σ' : St} {at_ : Nat} {v : Int32} (h : FM σ0 σ) (f : F8 (wI σ 45 0 at_ v) σ') : FM σ0 σ' := (h.w45).tr f.fm
/-- a whole goes into the plan and into what is read -/
theorem k_whole {P : Nat} {σ0 σm0 σ σm : St} {T : Nat → Nat} {n p lo hi at_ : Nat} {lo' a' : Int32} (hlo : lo' = nI lo) (ha' : a' = nI at_) (h1 : lo < 2147483648) (h2 : hi < 2147483648) (ha : at_ < 59) (h : SY σ σm T n p) (hc : FC P σ0 σ) (hm : FM σm0 σm) :
    Fl P σ0 σm0 (fX3_whole lo' (nI hi) σ) (fX8_lays a' lo' (nI hi) σm) ∨ ∃ σ' σm' v, fX3_whole lo' (nI hi) σ = some (nI 1, σ') ∧ fX8_lays a' lo' (nI hi) σm = some (nI 1, σm') ∧ lo ≤ v ∧ v ≤ hi ∧ v < 1000 ∧ F3 σ σ' ∧ σ'.1 3 0 8 = nI v ∧ F8 (wI σm 45 0 at_ (nI v)) σm' ∧ SY σ' σm' T n (tkE T n (tkQ T n p)) := by
  obtain ⟨σ1, f1, s1, r1⟩ := c_whole (hi := hi) hlo h1 h2 h
  have r2 := m_lays2 (hi := hi) hlo ha' h1 h2 ha s1
  rcases r1 with ⟨g1, g2⟩ | ⟨v, g1, g2, g3, g4, g5⟩
  · rcases r2 with ⟨y1, y2⟩ | y
    · left
      rw [g2, y2]
      exact sk_fail s1 (hc.tr f1.fc) hm (by omega)
    · left
      have hk := kM_eq _ (tkK_le T n (tkQ T n p))
      have : fX8_lays a' lo' (nI hi) σm = some (0, wI (wI σm 8 0 15 (nI 1)) 8 0 16 (σm.1 8 0 11)) := by
        unfold fX8_lays
        rw [s1.2.2.2.2.2.2.2.1, if_neg (fun z => g1 (hk.2.1.mp z)), m_fail, bdS, rz_0]
      rw [g2, this]
      exact sk_fail s1 (hc.tr f1.fc) hm (by omega)
  · rcases r2 with ⟨y1, y2⟩ | y
    · exact absurd g1 y1
    · rcases g5 with ⟨x1, x2, x3⟩ | ⟨x1, x3⟩
      · rcases y v g1 g2 g4 with ⟨z1, z2, σm', z3, z4, z5⟩ | ⟨z1, z2⟩
        · right
          exact ⟨σ1, σm', v, x3, z3, x1, x2, g2, f1, g3, z4, z5⟩
        · exact absurd ⟨x1, x2⟩ z1
      · rcases y v g1 g2 g4 with ⟨z1, z2, -⟩ | ⟨z1, z2⟩
        · exact absurd ⟨z1, z2⟩ x1
        · left
          rw [x3, z2]
          exact sk_fail s1 (hc.tr f1.fc) hm (by omega)
/-- a name: a word that is none of the three -/
theorem k_name {P : Nat} {σ0 σm0 σ σm : St} {T : Nat → Nat} {n p : Nat} (h : SY σ σm T n p) (hc : FC P σ0 σ) (hm : FM σm0 σm) :
    (fX8_isName σm = some (0, σm) ∧ ∃ r, fX3_name σ = some (0, r) ∧ Fl P σ0 σm0 (some (0, r)) (fX8_errs (nI 1) σm)) ∨ ∃ σ', fX3_name σ = some (nI 1, σ') ∧ F3 σ σ' ∧ SK σ' σm T n (tkQ T n p) ∧ tkK T n (tkQ T n p) = 1 ∧ fX8_isName σm = some (nI 1, σm) := by
  obtain ⟨σ1, e1, e2, e3⟩ := sy_step h
  have ck := e3.2.2.2.2.1
  have mk := e3.2.2.2.2.2
  have hk := kM_eq _ (tkK_le T n (tkQ T n p))
  have hk5 := tkK_le T n (tkQ T n p)
  have a0 := c_isWord (s := 0) (by omega) ck
  have a4 := c_isWord (s := 4) (by omega) ck
  have a5 := c_isWord (s := 5) (by omega) ck
  have b0 := m_isWord (s := 0) (by omega) e3.2.1 mk
  have b4 := m_isWord (s := 4) (by omega) e3.2.1 mk
  have b5 := m_isWord (s := 5) (by omega) e3.2.1 mk
  have fl := sk_fail (k := 1) e3 (hc.tr e2.fc) hm (by omega)
  have h10 : (nI 1 = 0) = False := eq_false (by decide)
  have hcn : fX3_name σ = if tkK T n (tkQ T n p) = 1 ∧ (wdB T n (tkQ T n p) 0 || wdB T n (tkQ T n p) 4 || wdB T n (tkQ T n p) 5) = false then some (nI 1, σ1) else some (0, wI (wI σ1 3 0 1 (nI 1)) 3 0 0 (σ1.1 3 0 7)) := by
    unfold fX3_name
    rw [e1, bdS, a0, bdS]
    simp only [jnD, a4, a5, bdS, ck.2.2.1, c_fail]
    by_cases z : tkK T n (tkQ T n p) = 1
    · have z' : (nI (tkK T n (tkQ T n p)) = nI 1) = True := eq_true (by rw [z])
      simp only [z', z]
      cases wdB T n (tkQ T n p) 0 <;> cases wdB T n (tkQ T n p) 4 <;> cases wdB T n (tkQ T n p) 5 <;> simp [h10]
    · have z' : (nI (tkK T n (tkQ T n p)) = nI 1) = False := eq_false (by rw [eq_n (by omega) (by omega)]; exact z)
      simp only [z', z]
      cases wdB T n (tkQ T n p) 0 <;> cases wdB T n (tkQ T n p) 4 <;> cases wdB T n (tkQ T n p) 5 <;> simp [h10]
  have hmn : fX8_isName σm = some (if tkK T n (tkQ T n p) = 1 ∧ (wdB T n (tkQ T n p) 0 || wdB T n (tkQ T n p) 4 || wdB T n (tkQ T n p) 5) = false then nI 1 else 0, σm) := by
    unfold fX8_isName
    rw [mk.2.2.1]
    simp only [b0, b4, b5, bdS]
    by_cases z : tkK T n (tkQ T n p) = 1
    · rw [if_pos (hk.1.mpr z)]
      cases wdB T n (tkQ T n p) 0 <;> cases wdB T n (tkQ T n p) 4 <;> cases wdB T n (tkQ T n p) 5 <;> simp [h10, z, rz_0, rz_1]
    · rw [if_neg (fun y => z (hk.1.mp y)), if_neg (fun y => z y.1)]
  rw [hcn, hmn]
  by_cases z : tkK T n (tkQ T n p) = 1 ∧ (wdB T n (tkQ T n p) 0 || wdB T n (tkQ T n p) 4 || wdB T n (tkQ T n p) 5) = false
  · right
    rw [if_pos z, if_pos z]
    exact ⟨σ1, rfl, e2, e3, z.1, rfl⟩
  · left
    rw [if_neg z, if_neg z, m_fail]
    exact ⟨rfl, _, rfl, fl⟩
