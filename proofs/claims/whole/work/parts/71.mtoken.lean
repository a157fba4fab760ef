/-! ===== the model's tokens; words on both sides ===== -/
theorem MX.n7 {σ : St} {T : Nat → Nat} {n : Nat} (h : MX σ T n) : n ≤ 700 := h.2.1
theorem MX.t {σ : St} {T : Nat → Nat} {n i : Nat} (h : MX σ T n) (hi : i < n) : T i < 256 := (h.2.2 i hi).2
theorem m_skip {T : Nat → Nat} {n : Nat} (ke : St → Option (Unit × St)) : ∀ (d p m : Nat) (σ : St), p + d = n → d < m → MX σ T n → σ.1 8 0 12 = nI p → ∃ σ', LX8_goesOn_0 ke m σ = ke σ' ∧ F8 σ σ' ∧ σ'.1 8 0 12 = nI (runN (isB T) d p) := by
  intro d
  induction d with
  | zero =>
    intro p m σ hp hm hX h5
    have := hX.n7
    obtain ⟨m, rfl⟩ : ∃ y, m = y + 1 := ⟨m - 1, by omega⟩
    rw [LX8_goesOn_0, h5, m_see hX (by omega), if_neg (by omega), bdS, if_neg (by decide)]
    exact ⟨σ, rfl, F8.rf, h5⟩
  | succ d ih =>
    intro p m σ hp hm hX h5
    have hn := hX.n7
    have ht := hX.t (show p < n by omega)
    obtain ⟨m, rfl⟩ : ∃ y, m = y + 1 := ⟨m - 1, by omega⟩
    rw [LX8_goesOn_0, h5, m_see hX (by omega), if_pos (show p < n by omega), bdS, runN]
    by_cases q : T p = 32
    · rw [if_pos (by rw [q]), ltD, h5, add_n, if_pos (show isB T p = true from decide_eq_true q)]
      obtain ⟨σ', e1, e2, e3⟩ := ih (p + 1) m (wI σ 8 0 12 (nI (p + 1))) (by omega) (by omega) (hX.f8 (F8.rf.w (by omega))) (wIe (by omega))
      exact ⟨σ', e1, (F8.rf.w (by omega)).tr e2, e3⟩
    · rw [if_neg (by rw [eq_n (by omega) (by omega)]; exact q), if_neg (show ¬ isB T p = true from fun z => q (of_decide_eq_true z))]
      exact ⟨σ, rfl, F8.rf, h5⟩
theorem m_wordL {T : Nat → Nat} {n : Nat} (ke : St → Option (Unit × St)) : ∀ (d p m : Nat) (σ : St), p + d = n → d < m → MX σ T n → σ.1 8 0 12 = nI p → ∃ σ', LX8_goesOn_65 ke m σ = ke σ' ∧ F8 σ σ' ∧ σ'.1 8 0 11 = σ.1 8 0 11 ∧ σ'.1 8 0 12 = nI (runN (isL T) d p) := by
  intro d
  induction d with
  | zero =>
    intro p m σ hp hm hX h5
    have := hX.n7
    obtain ⟨m, rfl⟩ : ∃ y, m = y + 1 := ⟨m - 1, by omega⟩
    rw [LX8_goesOn_65, h5, m_see hX (by omega), if_neg (by omega), bdS, let_n1, if_pos rfl]
    exact ⟨σ, rfl, F8.rf, rfl, h5⟩
  | succ d ih =>
    intro p m σ hp hm hX h5
    have hn := hX.n7
    have ht := hX.t (show p < n by omega)
    obtain ⟨m, rfl⟩ : ∃ y, m = y + 1 := ⟨m - 1, by omega⟩
    rw [LX8_goesOn_65, h5, m_see hX (by omega), if_pos (show p < n by omega), bdS, let_m, let_c ht, runN]
    by_cases q : 97 ≤ T p ∧ T p ≤ 122
    · rw [if_pos q, if_neg (by decide), ltD, h5, add_n, if_pos (show isL T p = true from decide_eq_true q)]
      obtain ⟨σ', e1, e2, e3, e4⟩ := ih (p + 1) m (wI σ 8 0 12 (nI (p + 1))) (by omega) (by omega) (hX.f8 (F8.rf.w (by omega))) (wIe (by omega))
      exact ⟨σ', e1, (F8.rf.w (by omega)).tr e2, e3.trans (wIj (by omega)), e4⟩
    · rw [if_neg q, if_pos rfl, if_neg (show ¬ isL T p = true from fun z => q (of_decide_eq_true z))]
      exact ⟨σ, rfl, F8.rf, rfl, h5⟩
theorem vD_3 {T : Nat → Nat} {q : Nat} (h : ∀ i, T (q + i) ≤ 57 ∨ True) : True := trivial
theorem m_wholeL {T : Nat → Nat} {n q0 : Nat} (ke : St → Option (Unit × St)) : ∀ (d p m : Nat) (σ : St), p + d = n → d < m → q0 ≤ p → MX σ T n → σ.1 8 0 11 = nI q0 → σ.1 8 0 12 = nI p → (p - q0 ≤ 3 → σ.1 8 0 14 = nI (vD T q0 (p - q0))) → ∃ σ', LX8_goesOn_136 ke m σ = ke σ' ∧ F8 σ σ' ∧ σ'.1 8 0 11 = nI q0 ∧ σ'.1 8 0 12 = nI (runN (isG T) d p) ∧ (runN (isG T) d p - q0 ≤ 3 → σ'.1 8 0 14 = nI (vD T q0 (runN (isG T) d p - q0))) := by
  intro d
  induction d with
  | zero =>
    intro p m σ hp hm hq hX h11 h5 h8
    have := hX.n7
    obtain ⟨m, rfl⟩ : ∃ y, m = y + 1 := ⟨m - 1, by omega⟩
    rw [LX8_goesOn_136, h5, m_see hX (by omega), if_neg (by omega), bdS, dig_n1, if_pos rfl]
    exact ⟨σ, rfl, F8.rf, h11, h5, h8⟩
  | succ d ih =>
    intro p m σ hp hm hq hX h11 h5 h8
    have hn := hX.n7
    have ht := hX.t (show p < n by omega)
    obtain ⟨m, rfl⟩ : ∃ y, m = y + 1 := ⟨m - 1, by omega⟩
    rw [LX8_goesOn_136, h5, m_see hX (by omega), if_pos (show p < n by omega), bdS, dig_m, dig_c ht, runN]
    by_cases q : 48 ≤ T p ∧ T p ≤ 57
    · rw [if_pos q, if_neg (by decide), jnD, h5, h11, sub_n hq, m_see hX (by omega), if_pos (show p < n by omega), bdS, if_pos (show isG T p = true from decide_eq_true q)]
      have go : ∀ x : Int32, (p + 1 - q0 ≤ 3 → x = nI (vD T q0 (p + 1 - q0))) → ∃ σ', (lt (wI σ 8 0 14 x) fun (σ18 : St) => lt (wI σ18 8 0 12 ((σ18.1 8 0 12) + (nI 1))) fun (σ19 : St) => LX8_goesOn_136 ke m σ19) = ke σ' ∧ F8 σ σ' ∧ σ'.1 8 0 11 = nI q0 ∧ σ'.1 8 0 12 = nI (runN (isG T) d (p + 1)) ∧ (runN (isG T) d (p + 1) - q0 ≤ 3 → σ'.1 8 0 14 = nI (vD T q0 (runN (isG T) d (p + 1) - q0))) := fun x hx => by
        rw [ltD, ltD, wIj (by omega), h5, add_n]
        obtain ⟨σ', e1, e2, e3, e4, e6⟩ := ih (p + 1) m (wI (wI σ 8 0 14 x) 8 0 12 (nI (p + 1))) (by omega) (by omega) (by omega) (hX.f8 ((F8.rf.w (by omega)).w (by omega))) ((wIj (by omega)).trans ((wIj (by omega)).trans h11)) (wIe (by omega)) (fun z => ((wIj (by omega)).trans (wIe (by omega))).trans (hx z))
        exact ⟨σ', e1, ((F8.rf.w (by omega)).w (by omega)).tr e2, e3, e4, e6⟩
      by_cases q3 : 3 ≤ p - q0
      · rw [if_pos (by rw [le_n (by omega) (by omega)]; exact q3)]
        exact go _ (fun z => by omega)
      · rw [if_neg (by rw [le_n (by omega) (by omega)]; exact q3), h8 (by omega), mul_n, add_n, sub_n (by omega)]
        refine go _ (fun z => ?_)
        have hw : 10 * vD T q0 (p - q0) + T p - 48 = vD T q0 (p + 1 - q0) := by
          rw [show p + 1 - q0 = (p - q0) + 1 by omega, vD, show q0 + (p - q0) = p by omega]
          omega
        rw [hw]
    · rw [if_neg q, if_pos rfl, if_neg (show ¬ isG T p = true from fun z => q (of_decide_eq_true z))]
      exact ⟨σ, rfl, F8.rf, h11, h5, h8⟩
def kM (k : Nat) : Int32 := if k = 0 then 0 else if k = 1 then nI 2 else if k = 2 then nI 3 else if k = 3 then nI 59 else nI 1
/-- a token stands in the model's -/
def MK (σ : St) (T : Nat → Nat) (n q : Nat) : Prop := σ.1 8 0 12 = nI (tkE T n q) ∧ σ.1 8 0 11 = nI q ∧ σ.1 8 0 13 = kM (tkK T n q) ∧ (tkK T n q = 2 → σ.1 8 0 14 = nI (vD T q (tkE T n q - q)))
theorem m_step {σ : St} {T : Nat → Nat} {n p : Nat} (hX : MX σ T n) (hp : p ≤ n) (h5 : σ.1 8 0 12 = nI p) : ∃ σ', fX8_goesOn σ = some ((), σ') ∧ F8 σ σ' ∧ MK σ' T n (tkQ T n p) := by
  have hn := hX.n7
  have hFU := FU_gt
  unfold fX8_goesOn
  obtain ⟨σ1, e1, e2, e3⟩ := m_skip (T := T) (n := n) (fun (σ4 : St) => lt (wI σ4 8 0 11 (σ4.1 8 0 12)) fun (σ5 : St) => bd (fX8_see (σ5.1 8 0 12) σ5) fun (r7 : Int32) (σ6 : St) => (if r7 = (-1) then lt (wI σ6 8 0 13 0) fun (σ35 : St) => some ((), σ35) else (if (fX8_in r7 (nI 97) (nI 122)) = 0 then (if (fX8_in r7 (nI 48) (nI 57)) = 0 then lt (wI σ6 8 0 12 ((σ6.1 8 0 12) + (nI 1))) fun (σ8 : St) => lt (wI σ8 8 0 13 (if r7 = (nI 59) then r7 else (nI 1))) fun (σ12 : St) => some ((), σ12) else lt (wI σ6 8 0 14 0) fun (σ13 : St) => (LX8_goesOn_136 (fun (σ22 : St) => lt (wI σ22 8 0 13 (if ((σ22.1 8 0 12) - (σ22.1 8 0 11)) ≤ (nI 3) then (nI 3) else (nI 1))) fun (σ26 : St) => some ((), σ26)) FU σ13)) else (LX8_goesOn_65 (fun (σ30 : St) => lt (wI σ30 8 0 13 (if ((σ30.1 8 0 12) - (σ30.1 8 0 11)) ≤ (nI 6) then (nI 2) else (nI 1))) fun (σ34 : St) => some ((), σ34)) FU σ6)))) (n - p) p FU σ (by omega) (by omega) hX h5
  have hq1 : p ≤ tkQ T n p := runN_ge _ _ _
  have hq2 : tkQ T n p ≤ n := by have := runN_le (isB T) (n - p) p; unfold tkQ; omega
  have e3' : σ1.1 8 0 12 = nI (tkQ T n p) := e3
  rw [e1, ltD, e3']
  generalize tkQ T n p = q at hq1 hq2 e3' ⊢
  clear e3
  have f0 : F8 σ (wI σ1 8 0 11 (nI q)) := e2.w (by omega)
  have x5 : (wI σ1 8 0 11 (nI q)).1 8 0 12 = nI q := (wIj (by omega)).trans e3'
  have x7 : (wI σ1 8 0 11 (nI q)).1 8 0 11 = nI q := wIe (by omega)
  generalize wI σ1 8 0 11 (nI q) = τ at f0 x5 x7
  have hXτ := hX.f8 f0
  rw [x5, m_see hXτ hq2, bdS]
  by_cases g : n ≤ q
  · rw [if_neg (show ¬ q < n by omega), if_pos rfl, ltD]
    have hE : tkE T n q = q := by unfold tkE; rw [if_pos g]
    have hK : tkK T n q = 0 := by unfold tkK; rw [if_pos g]
    refine ⟨_, rfl, f0.w (by omega), ?_⟩
    unfold MK
    rw [hE, hK]
    exact ⟨(wIj (by omega)).trans x5, (wIj (by omega)).trans x7, by rw [wIe (by omega)]; rfl, fun z => by omega⟩
  · have ht := hXτ.t (show q < n by omega)
    rw [if_pos (show q < n by omega), if_neg (by rw [nm1 (by omega)]; exact id), let_m, let_c ht, dig_m, dig_c ht]
    by_cases gl : 97 ≤ T q ∧ T q ≤ 122
    · have hl : isL T q = true := decide_eq_true gl
      rw [if_pos gl, if_neg (by decide)]
      obtain ⟨σ2, s1, s2, s3, s4⟩ := m_wordL (T := T) (n := n) (fun (σ30 : St) => lt (wI σ30 8 0 13 (if ((σ30.1 8 0 12) - (σ30.1 8 0 11)) ≤ (nI 6) then (nI 2) else (nI 1))) fun (σ34 : St) => some ((), σ34)) (n - q) q FU τ (by omega) (by omega) hXτ x5
      have hE : tkE T n q = runN (isL T) (n - q) q := by unfold tkE; rw [if_neg g, if_pos hl]
      rw [← hE] at s4
      have hE1 : q ≤ tkE T n q := by rw [hE]; exact runN_ge _ _ _
      have hE2 : tkE T n q ≤ n := by rw [hE]; have := runN_le (isL T) (n - q) q; omega
      rw [s1, ltD, s4, s3, x7, sub_n hE1]
      have hK : tkK T n q = if tkE T n q - q ≤ 6 then 1 else 4 := by unfold tkK; rw [if_neg g, if_pos hl]
      refine ⟨_, rfl, (f0.tr s2).w (by omega), (wIj (by omega)).trans s4, (wIj (by omega)).trans (s3.trans x7), ?_, fun z => ?_⟩
      · rw [wIe (by omega), hK]
        by_cases w6 : tkE T n q - q ≤ 6
        · rw [if_pos (by rw [le_n (by omega) (by omega)]; omega), if_pos w6]; rfl
        · rw [if_neg (by rw [le_n (by omega) (by omega)]; omega), if_neg w6]; rfl
      · rw [hK] at z; split at z <;> omega
    · have hl : ¬ isL T q = true := fun z => gl (of_decide_eq_true z)
      rw [if_neg gl, if_pos rfl]
      by_cases gd' : 48 ≤ T q ∧ T q ≤ 57
      · have hg : isG T q = true := decide_eq_true gd'
        rw [if_pos gd', if_neg (by decide), ltD]
        obtain ⟨σ2, s1, s2, s3, s4, s5⟩ := m_wholeL (T := T) (n := n) (q0 := q) (fun (σ22 : St) => lt (wI σ22 8 0 13 (if ((σ22.1 8 0 12) - (σ22.1 8 0 11)) ≤ (nI 3) then (nI 3) else (nI 1))) fun (σ26 : St) => some ((), σ26)) (n - q) q FU (wI τ 8 0 14 0) (by omega) (by omega) (Nat.le_refl _) (hXτ.f8 (F8.rf.w (by omega))) ((wIj (by omega)).trans x7) ((wIj (by omega)).trans x5) (fun _ => by rw [wIe (by omega), Nat.sub_self]; exact nI_0.symm)
        have hE : tkE T n q = runN (isG T) (n - q) q := by unfold tkE; rw [if_neg g, if_neg hl, if_pos hg]
        rw [← hE] at s4 s5
        have hE1 : q ≤ tkE T n q := by rw [hE]; exact runN_ge _ _ _
        have hE2 : tkE T n q ≤ n := by rw [hE]; have := runN_le (isG T) (n - q) q; omega
        rw [s1, ltD, s4, s3, sub_n hE1]
        have hK : tkK T n q = if tkE T n q - q ≤ 3 then 2 else 4 := by unfold tkK; rw [if_neg g, if_neg hl, if_pos hg]
        refine ⟨_, rfl, ((f0.w (by omega)).tr s2).w (by omega), (wIj (by omega)).trans s4, (wIj (by omega)).trans s3, ?_, fun z => ?_⟩
        · rw [wIe (by omega), hK]
          by_cases w6 : tkE T n q - q ≤ 3
          · rw [if_pos (by rw [le_n (by omega) (by omega)]; omega), if_pos w6]; rfl
          · rw [if_neg (by rw [le_n (by omega) (by omega)]; omega), if_neg w6]; rfl
        · refine (wIj (by omega)).trans (s5 ?_)
          rw [hK] at z
          by_cases w6 : tkE T n q - q ≤ 3
          · exact w6
          · rw [if_neg w6] at z; omega
      · have hg : ¬ isG T q = true := fun z => gd' (of_decide_eq_true z)
        rw [if_neg gd', if_pos rfl, ltD, ltD, x5, add_n]
        have hE : tkE T n q = q + 1 := by unfold tkE; rw [if_neg g, if_neg hl, if_neg hg]
        have hK : tkK T n q = if T q = 59 then 3 else 4 := by unfold tkK; rw [if_neg g, if_neg hl, if_neg hg]
        refine ⟨_, rfl, (f0.w (by omega)).w (by omega), by rw [hE]; exact (wIj (by omega)).trans (wIe (by omega)), (wIj (by omega)).trans ((wIj (by omega)).trans x7), ?_, fun z => ?_⟩
        · rw [wIe (by omega), hK]
          by_cases w : T q = 59
          · rw [if_pos w, if_pos (by rw [w]), w]; rfl
          · rw [if_neg w, if_neg (by rw [eq_n (by omega) (by omega)]; exact w)]; rfl
        · rw [hK] at z; split at z <;> omega
/-- letters are 1 .. 26 -/
def Lt (l : List Nat) : Prop := ∀ d ∈ l, 1 ≤ d ∧ d ≤ 26
theorem vB_inj {B : Nat} (hB : 27 ≤ B) : ∀ {l l' : List Nat}, Lt l → Lt l' → vB B l = vB B l' → l = l' := by
  intro l
  induction l with
  | nil =>
    intro l' _ h' e
    cases l' with
    | nil => rfl
    | cons d r =>
      have := (h' d (List.mem_cons_self)).1
      simp only [vB] at e
      omega
  | cons d r ih =>
    intro l' h h' e
    cases l' with
    | nil =>
      have := (h d (List.mem_cons_self)).1
      simp only [vB] at e
      omega
    | cons d' r' =>
      obtain ⟨a1, a2⟩ := h d List.mem_cons_self
      obtain ⟨b1, b2⟩ := h' d' List.mem_cons_self
      simp only [vB] at e
      have hd : d = d' := by
        have e1 : (vB B r * B + d) % B = d := by rw [Nat.mul_comm, Nat.mul_add_mod, Nat.mod_eq_of_lt (by omega)]
        have e2 : (vB B r' * B + d') % B = d' := by rw [Nat.mul_comm, Nat.mul_add_mod, Nat.mod_eq_of_lt (by omega)]
        rw [← e1, ← e2, e]
      subst hd
      have hr : vB B r = vB B r' := Nat.eq_of_mul_eq_mul_right (show 0 < B by omega) (by omega)
      rw [ih (fun x hx => h x (List.mem_cons_of_mem _ hx)) (fun x hx => h' x (List.mem_cons_of_mem _ hx)) hr]
theorem vB_lt {B : Nat} (hB : 27 ≤ B) : ∀ {l : List Nat}, Lt l → vB B l < B ^ l.length := by
  intro l
  induction l with
  | nil => intro _; simp [vB]
  | cons d r ih =>
    intro h
    have h1 := ih (fun x hx => h x (List.mem_cons_of_mem _ hx))
    obtain ⟨a1, a2⟩ := h d List.mem_cons_self
    simp only [vB, List.length_cons, Nat.pow_succ]
    have : (vB B r + 1) * B ≤ B ^ r.length * B := Nat.mul_le_mul_right B h1
    rw [Nat.add_mul] at this
    omega
theorem wr_len (T : Nat → Nat) (q : Nat) : ∀ j, (wr T q j).length = j := by
  intro j
  induction j with
  | zero => rfl
  | succ j ih => rw [wr, List.length_cons, ih]
theorem wr_lt {T : Nat → Nat} {q : Nat} : ∀ j, (∀ i, i < j → isL T (q + i) = true) → Lt (wr T q j) := by
  intro j
  induction j with
  | zero => intro _ d hd; cases hd
  | succ j ih =>
    intro h d hd
    rw [wr] at hd
    rcases List.mem_cons.mp hd with rfl | hd'
    · have := of_decide_eq_true (h j (by omega)); omega
    · exact ih (fun i hi => h i (by omega)) d hd'
theorem wr_eq {T T' : Nat → Nat} {q q' : Nat} : ∀ j, (wr T q j = wr T' q' j ↔ ∀ i, i < j → T (q + i) - 96 = T' (q' + i) - 96) := by
  intro j
  induction j with
  | zero => exact ⟨fun _ i hi => by omega, fun _ => rfl⟩
  | succ j ih =>
    rw [wr, wr, List.cons.injEq, ih]
    constructor
    · rintro ⟨a, b⟩ i hi
      by_cases e : i = j
      · rw [e]; exact a
      · exact b i (by omega)
    · intro h
      exact ⟨h j (by omega), fun i hi => h i (by omega)⟩
theorem tk_word {T : Nat → Nat} {n q : Nat} (h : tkK T n q = 1) : q < n ∧ q ≤ tkE T n q ∧ tkE T n q ≤ n ∧ tkE T n q - q ≤ 6 ∧ ∀ i, i < tkE T n q - q → isL T (q + i) = true := by
  unfold tkK at h
  by_cases g : n ≤ q
  · rw [if_pos g] at h; omega
  · rw [if_neg g] at h
    by_cases hl : isL T q = true
    · rw [if_pos hl] at h
      have hE : tkE T n q = runN (isL T) (n - q) q := by unfold tkE; rw [if_neg g, if_pos hl]
      have h1 : q ≤ tkE T n q := by rw [hE]; exact runN_ge _ _ _
      have h2 : tkE T n q ≤ n := by rw [hE]; have := runN_le (isL T) (n - q) q; omega
      refine ⟨by omega, h1, h2, ?_, fun i hi => ?_⟩
      · by_cases z : tkE T n q - q ≤ 6
        · exact z
        · rw [if_neg z] at h; omega
      · exact runN_all _ (n - q) q (q + i) (by omega) (by rw [← hE]; omega)
    · rw [if_neg hl] at h
      by_cases hg : isG T q = true
      · rw [if_pos hg] at h; split at h <;> omega
      · rw [if_neg hg] at h; split at h <;> omega
