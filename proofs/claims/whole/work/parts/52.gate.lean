/-! ===== gates: what is refused, on both sides; a pass that is asked about ===== -/
theorem c_accepts (e i : Int32) (σ : St) : fX7_accepts e i σ = some (if (if e = 0 then nI 1 else if i = 0 then nI 2 else 0) = 0 then nI 1 else 0, cR σ (if e = 0 then nI 1 else if i = 0 then nI 2 else 0)) := by
  unfold fX7_accepts
  rw [ltD, rz_if, wIe ⟨rfl, rfl, rfl⟩]
  rfl
theorem c_gate {w e i : Int32} {σ : St} {K : St → Option (Int32 × St)} (h : (if e = 0 then nI 1 else if i = 0 then nI 2 else 0) = w) : (bd (fX7_accepts e i σ) fun (r : Int32) (σ1 : St) => if r = 0 then some ((-1), σ1) else K σ1) = if w = 0 then K (cR σ 0) else some (-1, cR σ w) := by
  rw [c_accepts, bdS, h]
  by_cases q : w = 0
  · rw [if_pos q, if_neg (by decide), if_pos q, q]
  · rw [if_neg q, if_pos rfl, if_neg q]
theorem m_gate {w : Int32} {σ : St} {K : St → Option (Int32 × St)} : (bd (fX8_isRefused w σ) fun (r : Int32) (σ1 : St) => if r = 0 then K σ1 else some ((-1), σ1)) = if w = 0 then K (mR σ 0) else some (-1, mR σ w) := by
  rw [m_refused, bdS]
  by_cases q : w = 0
  · rw [if_pos q, if_pos rfl, if_pos q, q]
  · rw [if_neg q, if_neg (by decide), if_neg q]
/-- the model's cells stay -/
def Sm8 (σ σ1 : St) : Prop := ∀ a b, (a = 8 ∨ 43 ≤ a) → σ1.1 a b = σ.1 a b
theorem act_gate {F G Kc Km : St → Option (Int32 × St)} {σ : St} {N : Nat} {w : Int32} (h : Rel σ N) (hw : w = 0 ∨ w = nI 1 ∨ w = nI 2 ∨ w = nI 5) (hF : F σ = if w = 0 then Kc (cR σ 0) else some (-1, cR σ w)) (hG : ∀ σ1, Sm8 σ σ1 → G σ1 = if w = 0 then Km (mR σ1 0) else some (-1, mR σ1 w))
    (core : w = 0 → ∃ r σ1 σ2, Kc (cR σ 0) = some (r, σ1) ∧ Sm8 σ σ1 ∧ Km (mR σ1 0) = some (r, σ2) ∧ Rel σ2 (N + 1)) : ∃ r σ1 σ2, F σ = some (r, σ1) ∧ G σ1 = some (r, σ2) ∧ Rel σ2 (N + 1) := by
  by_cases q : w = 0
  · obtain ⟨r, σ1, σ2, c1, c2, c3, c4⟩ := core q
    rw [hF, if_pos q]
    exact ⟨r, σ1, σ2, c1, by rw [hG σ1 c2, if_pos q]; exact c3, c4⟩
  · rw [hF, if_neg q]
    refine ⟨-1, cR σ w, mR (cR σ w) w, rfl, ?_, h.ref hw⟩
    rw [hG _ (fun a b z => cR_o (by omega)), if_neg q]
/-- cells that a question may write -/
def okP (e : Nat × Nat × Nat) : Prop := (e.1 = 0 ∨ e.1 = 1 ∨ e.1 = 3 ∨ e.1 = 8 ∨ 10 ≤ e.1 ∧ e.1 ≤ 23 ∨ e.1 = 31 ∨ e.1 = 45 ∨ e.1 = 46 ∨ e.1 = 48 ∨ 50 ≤ e.1) ∨ ((e.1 = 4 ∨ e.1 = 5 ∨ 32 ≤ e.1 ∧ e.1 ≤ 36 ∨ e.1 = 41) ∧ e.2.1 = 1 ∧ e.2.2 = 2) ∨ (e.1 = 38 ∧ e.2.1 = 6 ∧ e.2.2 = 12) ∨ (e.1 = 40 ∧ e.2.1 = 16 ∧ e.2.2 = 32)
theorem Qt.kp {S : List (Nat × Nat × Nat)} {σ σ' : St} (h : Kp S σ σ') (hS : ∀ e ∈ S, okP e) (h8 : ∀ j, (j = 2 ∨ j = 5 ∨ j = 9 ∨ j = 21) → σ'.1 8 0 j = σ.1 8 0 j) : Qt σ σ' := by
  have go : ∀ a b, (∀ e, okP e → ¬ (e.1 = a ∧ e.2.1 ≤ b ∧ b < e.2.2)) → σ'.1 a b = σ.1 a b ∧ σ'.2.2 a b = σ.2.2 a b := fun a b hh => ⟨(h a b (fun e he => hh e (hS e he))).1, (h a b (fun e he => hh e (hS e he))).2.2⟩
  refine ⟨fun a b z => (go a b (fun e he y => ?_)).1, fun a b z z2 => (go a b (fun e he y => ?_)).1, fun b z => (go 38 b (fun e he y => ?_)).1, fun b z => (go 40 b (fun e he y => ?_)).1, fun j => congrFun (go 7 0 (fun e he y => ?_)).2 j, ⟨congrFun (go 4 0 (fun e he y => ?_)).2 1, congrFun (go 4 2 (fun e he y => ?_)).2 1⟩, fun j z => congrFun (go 7 0 (fun e he y => ?_)).1 j, h8⟩
  all_goals (unfold okP at he; omega)
theorem Sm8.kp {S : List (Nat × Nat × Nat)} {σ σ' : St} (h : Kp S σ σ') (hS : ∀ e ∈ S, e.1 ≠ 8 ∧ e.1 < 43) : Sm8 σ σ' := fun a b z => (h a b (fun e he y => by have := hS e he; omega)).1
theorem Sm8.tr {σ σ' σ'' : St} (h : Sm8 σ σ') (g : Sm8 σ' σ'') : Sm8 σ σ'' := fun a b z => (g a b z).trans (h a b z)
theorem Sm8.cR {σ : St} {w : Int32} : Sm8 σ (cR σ w) := fun a b z => cR_o (by omega)
/-- boards that are asked about -/
theorem k_boardN {σ : St} (h : NoB σ) (p : Int32) : fX7_hasBoard p σ = some (0, σ) ∧ ∀ σ1, Sm8 σ σ1 → fX8_isBoard p σ1 = some (0, σ1) := by
  refine ⟨by unfold fX7_hasBoard; rw [if_pos h.1], fun σ1 h1 => ?_⟩
  unfold fX8_isBoard
  rw [if_pos (by rw [h1 8 0 (by omega)]; exact h.2.1)]
theorem k_board {u : BU} {σ : St} {t s a : Nat} (hb : σ.1 7 0 8 = nI 1) (hb' : σ.1 8 0 9 = nI 1) (hT : Told u σ t s a) (p : Int32) :
    (∃ b, b < uN u ∧ p = nI b ∧ fX7_hasBoard p σ = some (nI 1, σ) ∧ ∀ σ1, Sm8 σ σ1 → fX8_isBoard p σ1 = some (nI 1, σ1)) ∨ (fX7_hasBoard p σ = some (0, σ) ∧ ∀ σ1, Sm8 σ σ1 → fX8_isBoard p σ1 = some (0, σ1)) := by
  obtain ⟨hu, hP, hM, ⟨d, ⟨P, hP', hB, hPu⟩, -⟩, -⟩ := hT
  have hn := hu.n6
  have hn1 := hu.n1
  rw [hP] at hP'
  have e3 := hB.2.2.2.2.1
  have m3 : ∀ σ1, Sm8 σ σ1 → σ1.1 44 0 3 = nI (uN u) := fun σ1 h1 => by rw [h1 44 0 (by omega)]; exact hM.2.2.2.1
  have m9 : ∀ σ1, Sm8 σ σ1 → ¬ σ1.1 8 0 9 = 0 := fun σ1 h1 => by rw [h1 8 0 (by omega), hb']; decide
  unfold fX7_hasBoard fX8_isBoard
  rw [if_neg (by rw [hb]; decide), hP', gd_t hB.1]
  by_cases q : p < 0
  · right
    refine ⟨?_, fun σ1 h1 => ?_⟩
    · unfold fX2_holds
      rw [if_pos q, rz_0, bdS, if_pos rfl, rz_0]
    · rw [if_neg (m9 σ1 h1), gi_n (by omega) (by omega)]
      unfold fX8_in
      rw [if_pos q, if_pos rfl, rz_0]
  · obtain ⟨b, b1, rfl⟩ := nat_of q
    by_cases q2 : b < uN u
    · left
      refine ⟨b, q2, rfl, ?_, fun σ1 h1 => ?_⟩
      · rw [c_holds e3 q2 hn, bdS, if_neg (by decide), rz_1]
      · rw [if_neg (m9 σ1 h1), gi_n (by omega) (by omega), cl (by omega), m3 σ1 h1, sub_n hn1]
        unfold fX8_in
        rw [if_neg q, if_neg (show ¬ nI (uN u - 1) < nI b by rw [lt_n (by omega) (by omega)]; omega), if_neg (by decide), rz_1]
    · right
      refine ⟨?_, fun σ1 h1 => ?_⟩
      · unfold fX2_holds
        rw [if_neg q, e3, if_pos (by rw [le_n (by omega) (by omega)]; omega), rz_0, bdS, if_pos rfl, rz_0]
      · rw [if_neg (m9 σ1 h1), gi_n (by omega) (by omega), cl (by omega), m3 σ1 h1, sub_n hn1]
        unfold fX8_in
        rw [if_neg q, if_pos (show nI (uN u - 1) < nI b by rw [lt_n (by omega) (by omega)]; omega), if_pos rfl, rz_0]
/-- sets of contenders -/
theorem k_set {u : BU} {σ : St} {t s a : Nat} (hb' : σ.1 8 0 9 = nI 1) (hT : Told u σ t s a) (p : Int32) :
    (∃ C, C ≠ 0 ∧ C < 2 ^ uN u ∧ p = nI C ∧ fX7_isSet p σ = some (nI 1, σ) ∧ ∀ σ1, Sm8 σ σ1 → fX8_isSet p σ1 = some (nI 1, σ1)) ∨ (fX7_isSet p σ = some (0, σ) ∧ ∀ σ1, Sm8 σ σ1 → fX8_isSet p σ1 = some (0, σ1)) := by
  obtain ⟨hu, hP, hM, ⟨d, ⟨P, hP', hB, hPu⟩, -⟩, -⟩ := hT
  have hn := hu.n6
  rw [hP] at hP'
  have e3 := hB.2.2.2.2.1
  have m3 : ∀ σ1, Sm8 σ σ1 → σ1.1 44 0 3 = nI (uN u) := fun σ1 h1 => by rw [h1 44 0 (by omega)]; exact hM.2.2.2.1
  have hp : 2 ^ uN u ≤ 64 := Nat.pow_le_pow_right (n := 2) (by omega) hn
  have hp1 : 1 ≤ 2 ^ uN u := Nat.one_le_two_pow
  unfold fX7_isSet fX8_isSet
  by_cases q : p < nI 1
  · right
    refine ⟨if_pos q, fun σ1 h1 => ?_⟩
    unfold fX8_in
    rw [gi_n (by omega) (by omega), if_pos q, rz_0]
  · have q0 : ¬ p < 0 := fun z => q (Int32.lt_trans z (by decide))
    obtain ⟨b, b1, rfl⟩ := nat_of q0
    have hb1 : 1 ≤ b := by rw [lt_n (by omega) (by omega)] at q; omega
    have eS : fX2_sets P σ = some (nI (2 ^ uN u), σ) := by unfold fX2_sets; rw [e3, shl_1 (by omega)]
    by_cases q2 : b < 2 ^ uN u
    · left
      refine ⟨b, by omega, q2, rfl, ?_, fun σ1 h1 => ?_⟩
      · rw [if_neg q, hP', gd_t hB.1, eS, bdS, if_neg (by rw [le_n (by omega) (by omega)]; omega), rz_1]
      · rw [gi_n (by omega) (by omega), cl (by omega), m3 σ1 h1, shl_1 (by omega), sub_n hp1]
        unfold fX8_in
        rw [if_neg q, if_neg (by rw [lt_n (by omega) (by omega)]; omega), rz_1]
    · right
      refine ⟨?_, fun σ1 h1 => ?_⟩
      · rw [if_neg q, hP', gd_t hB.1, eS, bdS, if_pos (by rw [le_n (by omega) (by omega)]; omega), rz_0]
      · rw [gi_n (by omega) (by omega), cl (by omega), m3 σ1 h1, shl_1 (by omega), sub_n hp1]
        unfold fX8_in
        rw [if_neg q, if_pos (by rw [lt_n (by omega) (by omega)]; omega), rz_0]
theorem k_pass (p : Int32) : ((p = nI 1 ∨ p = nI 2) ∧ fX7_isPass p = nI 1 ∧ fX8_in p (nI 1) (nI 2) = nI 1) ∨ (fX7_isPass p = 0 ∧ fX8_in p (nI 1) (nI 2) = 0) := by
  unfold fX7_isPass fX8_in
  by_cases q1 : p = nI 1
  · left; subst q1; exact ⟨Or.inl rfl, by decide, by decide⟩
  · by_cases q2 : p = nI 2
    · left; subst q2; exact ⟨Or.inr rfl, by decide, by decide⟩
    · right
      rw [if_neg q1, if_neg q2]
      refine ⟨rfl, ?_⟩
      by_cases q3 : p < nI 1
      · rw [if_pos q3]
      · rw [if_neg q3]
        have q0 : ¬ p < 0 := fun z => q3 (Int32.lt_trans z (by decide))
        obtain ⟨b, b1, rfl⟩ := nat_of q0
        rw [lt_n (by omega) (by omega)] at q3
        rw [eq_n (by omega) (by omega)] at q1 q2
        rw [if_pos (by rw [lt_n (by omega) (by omega)]; omega)]
theorem k_contest {u : BU} {σ : St} {t s a : Nat} (hb' : σ.1 8 0 9 = nI 1) (hT : Told u σ t s a) (p1 p2 : Int32) :
    (∃ C, C ≠ 0 ∧ C < 2 ^ uN u ∧ p2 = nI C ∧ (p1 = nI 1 ∨ p1 = nI 2) ∧ fX7_isContest p1 p2 σ = some (nI 1, σ) ∧ ∀ σ1, Sm8 σ σ1 → ∀ p4 e : Int32, e ≠ 0 → fX8_passWhy e p1 p2 p4 σ1 = some (if fX8_in p4 0 (nI 400) = 0 then nI 2 else 0, σ1)) ∨ (fX7_isContest p1 p2 σ = some (0, σ) ∧ ∀ σ1, Sm8 σ σ1 → ∀ p4 e : Int32, e ≠ 0 → fX8_passWhy e p1 p2 p4 σ1 = some (nI 2, σ1)) := by
  have m9 : ∀ σ1, Sm8 σ σ1 → ¬ σ1.1 8 0 9 = 0 := fun σ1 h1 => by rw [h1 8 0 (by omega), hb']; decide
  unfold fX7_isContest fX8_passWhy
  rcases k_pass p1 with ⟨z1, z2, z3⟩ | ⟨z2, z3⟩
  · rw [z2, z3, if_neg (by decide)]
    rcases k_set hb' hT p2 with ⟨C, c1, c2, c3, c4, c5⟩ | ⟨c4, c5⟩
    · left
      refine ⟨C, c1, c2, c3, z1, by rw [c4, bdS, if_neg (by decide), rz_1], fun σ1 h1 p4 e he => ?_⟩
      rw [jnD, if_neg (m9 σ1 h1), if_neg he, if_neg (by decide), c5 σ1 h1, bdS, if_neg (by decide)]
    · right
      refine ⟨by rw [c4, bdS, if_pos rfl, rz_0], fun σ1 h1 p4 e he => ?_⟩
      rw [jnD, if_neg (m9 σ1 h1), if_neg he, if_neg (by decide), c5 σ1 h1, bdS, if_pos rfl]
  · right
    rw [z2, z3, if_pos rfl]
    refine ⟨rfl, fun σ1 h1 p4 e he => ?_⟩
    rw [jnD, if_neg (m9 σ1 h1), if_neg he, if_pos rfl]
theorem m_why0 {σ1 : St} {p1 p2 p4 e : Int32} (h : σ1.1 8 0 9 = 0 ∨ e = 0) : fX8_passWhy e p1 p2 p4 σ1 = some (nI 1, σ1) := by
  unfold fX8_passWhy
  rw [jnD]
  by_cases q : σ1.1 8 0 9 = 0
  · rw [if_pos q]
  · rw [if_neg q]
    rcases h with h | h
    · exact absurd h q
    · rw [if_pos h]
theorem k_tick (p : Int32) : fX7_isTick p = fX8_in p 0 (nI 400) := rfl
theorem in_tick {p : Int32} (h : ¬ fX8_in p 0 (nI 400) = 0) : ∃ t, t ≤ 400 ∧ p = nI t := by
  unfold fX8_in at h
  by_cases q : p < 0
  · rw [if_pos q] at h; exact absurd rfl h
  · obtain ⟨b, b1, rfl⟩ := nat_of q
    rw [if_neg q] at h
    by_cases q2 : nI 400 < nI b
    · rw [if_pos q2] at h; exact absurd rfl h
    · rw [lt_n (by omega) (by omega)] at q2
      exact ⟨b, by omega, rfl⟩
theorem tick0 : ¬ fX8_in 0 0 (nI 400) = 0 := by decide
/-- without a bus the class still looks at the number of its sets -/
theorem c_contestN {σ : St} (hP : σ.2.2 7 0 6 < 6) (p1 p2 : Int32) : ∃ y, fX7_isContest p1 p2 σ = some (y, σ) := by
  unfold fX7_isContest
  by_cases q : fX7_isPass p1 = 0
  · rw [if_pos q]; exact ⟨_, rfl⟩
  · rw [if_neg q]
    unfold fX7_isSet
    by_cases q2 : p2 < nI 1
    · rw [if_pos q2, bdS, if_pos rfl]; exact ⟨_, rfl⟩
    · rw [if_neg q2, gd_t hP]
      unfold fX2_sets
      rw [bdS, rz_ifn, bdS, rz_ifn]
      exact ⟨_, rfl⟩
