/-! ===== acts: all sets of contenders, all filters, whom an arbitration would elect ===== -/
theorem c_great2 {σ : St} {p : PP} (hp : POk p) (h7 : σ.1 1 0 7 = nI (pN p)) (h10 : ∀ b, b < pN p → σ.1 10 0 b = nI (pW p b)) : fX1_greatestOf (nI (pC p)) σ = some (nI (riN p (pN p)).2, σ) := by
  have hn := hp.1
  have hC := pC_lt hp
  unfold fX1_greatestOf
  obtain ⟨s, hs, e⟩ := lp0 (fun m i (s : Int32 × Int32) => LX1_greatestOf_7 (nI (pC p)) (fun (x9 : Int32) (σ10 : St) => some (x9, σ10)) m s.1 s.2 (nI i) σ) (fun s => some (s.2, σ)) (pN p) (by omega) (fun i s => s = (nI (riN p i).1, nI (riN p i).2)) (0, 0) rfl
    (fun m s _ => by
      rw [LX1_greatestOf_7, h7, if_pos (by rw [le_n (by omega) (by omega)]; exact Nat.le_refl _)])
    (fun m i s hi hI => by
      refine ⟨_, rfl, ?_⟩
      have hw := hp.2.2.2.2.2.2.1 i hi
      have hr := (riN_lt hp i (by omega)).1
      subst hI
      show LX1_greatestOf_7 (nI (pC p)) (fun (x9 : Int32) (σ10 : St) => some (x9, σ10)) (m + 1) (nI (riN p i).1) (nI (riN p i).2) (nI i) σ = LX1_greatestOf_7 (nI (pC p)) (fun (x9 : Int32) (σ10 : St) => some (x9, σ10)) m (nI (riN p (i + 1)).1) (nI (riN p (i + 1)).2) (nI (i + 1)) σ
      rw [LX1_greatestOf_7, h7, if_neg (by rw [le_n (by omega) (by omega)]; omega), has7 (by omega) (by omega)]
      simp (disch := omega) only [jnD, ltD, gi_n, cl, add_n, shl_1, h10 i hi, lt_n, le_n, or_n]
      by_cases q : (pC p).testBit i = true
      · rw [if_pos q, if_neg (by decide)]
        by_cases q2 : (riN p i).1 ≤ pW p i
        · rw [if_neg (by omega), riN_p q q2]
          by_cases q3 : pW p i ≤ (riN p i).1
          · rw [if_pos q3, if_pos q3]
          · rw [if_neg q3, if_neg q3]
        · rw [if_pos (by omega), riN_n (fun z => q2 z.2)]
      · rw [if_neg q, if_pos rfl, riN_n (fun z => q z.1)])
  rw [hs] at e
  exact e
/-- a loop with a state that may end early; R is what is claimed of its answer -/
theorem lpE {S α : Type} (F : Nat → Nat → S → α) (B : Nat) (I : Nat → S → Prop) (R : α → Prop) (hx : ∀ n s, I B s → R (F (n + 1) B s)) (hs : ∀ n i s, i < B → I i s → (∃ s', I (i + 1) s' ∧ F (n + 1) i s = F n (i + 1) s') ∨ R (F (n + 1) i s)) : ∀ (d i : Nat) (s : S) (n : Nat), i + d = B → d < n → I i s → R (F n i s) := by
  intro d
  induction d with
  | zero =>
    intro i s n hi hn hI
    cases n with
    | zero => omega
    | succ n =>
      rw [Nat.add_zero] at hi
      subst hi
      exact hx n s hI
  | succ d ih =>
    intro i s n hi hn hI
    cases n with
    | zero => omega
    | succ n =>
      rcases hs n i s (by omega) hI with ⟨s', h1, h2⟩ | h
      · rw [h2]
        exact ih (i + 1) s' n (by omega) (by omega) h1
      · exact h
theorem lpE0 {S α : Type} (F : Nat → Nat → S → α) (B : Nat) (hB : B ≤ 90000) (I : Nat → S → Prop) (R : α → Prop) (s : S) (h0 : I 0 s) (hx : ∀ n s, I B s → R (F (n + 1) B s)) (hs : ∀ n i s, i < B → I i s → (∃ s', I (i + 1) s' ∧ F (n + 1) i s = F n (i + 1) s') ∨ R (F (n + 1) i s)) : R (F FU 0 s) :=
  lpE F B I R hx hs B 0 s FU (Nat.zero_add B) (Nat.lt_of_le_of_lt hB FU_gt) h0
/-- the class has laid its pass and plays it again and again -/
def LI (u : BU) (w L : Nat → Nat) (σ0 σx : St) : Prop := Kp SQ σ0 σx ∧ CW σx (uN u) (uG u) (uS u) L ∧ D13 σx ∧ ∀ b, b < uN u → σx.1 10 0 b = nI (w b) ∧ w b < 64
theorem LI.play {u : BU} {w L : Nat → Nat} {σ0 σx : St} (hu : UOk u) (h : LI u w L σ0 σx) (hL : ∀ l, l < 6 → L l ≤ 2) {f C : Nat} (hf : f ≤ 20) (hc : C < 2 ^ uN u) : ∃ σ', fX1_play (nI C) (nI f) (nI 400) σx = some ((), σ') ∧ LI u w L σ0 σ' ∧ PR σ' (uN u, uG u, f, C, uS u, w, L) 400 := by
  obtain ⟨h1, h2, h3, h4⟩ := h
  obtain ⟨hq, σ1, b1, b2, b3, b4, b5, b6⟩ := k_play hu h2 h3 h4 hL hf hc
  exact ⟨σ1, b1, ⟨h1.tr b2 (kp_pick [0, 4, 5, 6, 7, 8, 3] rfl), b3, b4, b5⟩, b6⟩
/-- what a filter, a pass and a bus give -/
theorem k_lay {u : BU} {σ : St} {t s a N : Nat} {p1 : Int32} (h : Rel σ N) (hT : Told u σ t s a) (hp : p1 = nI 1 ∨ p1 = nI 2) :
    ∃ (w L : Nat → Nat) (σa : St), fX7_laid p1 (cR σ 0) = some ((), σa) ∧ LI u w L (cR σ 0) σa ∧ (∀ l, l < 6 → L l ≤ 2) ∧ (∀ b, b < uN u → w b < 64) ∧ ∀ σm, BMf σm u → σm.1 47 0 = σ.1 47 0 → (∀ l, l < 6 → σm.1 47 0 (12 + l) = nI (L l)) ∧ ∀ (b : Nat) (s : St), b < uN u → Kp SE σm s → fX8_wordOf (nI b) p1 s = some (nI (w b), s) := by
  have hT0 : Told u (cR σ 0) t s a := by
    obtain ⟨k1, k2, k3, k4, k5⟩ := hT
    exact ⟨k1, k2, k3.fr (cR_o (by omega)), k4.fr (fun x y z => cR_o (by omega)) rfl, k5⟩
  have hD0 : D13 (cR σ 0) := h.2.2.1.fr (by rw [cR_o (by omega)]) (fun o => cR_o (by omega))
  obtain ⟨w, L, σa, a1, a2, a3, a4, a5, a6, a7⟩ := k_laid hT0 hD0 hp
  exact ⟨w, L, σa, a1, ⟨kp_rf.tr a2 (kp_pick [0, 1, 2, 3] rfl), a3, a4, a5⟩, a6, fun b hb => (a5 b hb).2, a7⟩
/-- after such a question all stands as before -/
theorem k_done {u : BU} {w L : Nat → Nat} {σ σ1 σ2 : St} {N : Nat} {S : List (Nat × Nat × Nat)} (h : Rel σ N) (hL : LI u w L (cR σ 0) σ1) (hK : Kp S (mR σ1 0) σ2) (hS : ∀ e ∈ S, okP e ∧ e.1 ≠ 7 ∧ e.1 ≠ 1 ∧ e.1 ≠ 22) (h8 : ∀ j, j ≠ 23 → j ≠ 29 → j ≠ 30 → j ≠ 31 → j ≠ 32 → σ2.1 8 0 j = (mR σ1 0).1 8 0 j) : Rel σ2 (N + 1) := by
  have c7 : ∀ b, σ2.1 7 b = (mR σ1 0).1 7 b := fun b => (hK 7 b (fun e he y => by have := (hS e he).2; omega)).1
  have c1 : ∀ b, σ2.1 1 b = (mR σ1 0).1 1 b := fun b => (hK 1 b (fun e he y => by have := (hS e he).2; omega)).1
  have c22 : ∀ b, σ2.1 22 b = (mR σ1 0).1 22 b := fun b => (hK 22 b (fun e he y => by have := (hS e he).2; omega)).1
  refine h.qt (((Qt.cR.tr (Qt.kp hL.1 (by unfold okP; decide) (fun j z => by rw [kpc hL.1 8 0 rfl]))).tr Qt.mR).tr (Qt.kp hK (fun e he => (hS e he).1) (fun j z => h8 j (by omega) (by omega) (by omega) (by omega) (by omega)))) ?_ ?_ ?_
  · rw [c7, mR_o (by omega), kpc hL.1 7 0 rfl, cR_10, h8 1 (by omega) (by omega) (by omega) (by omega) (by omega), mR_1]
  · intro z
    rw [h8 1 (by omega) (by omega) (by omega) (by omega) (by omega), mR_1] at z
    exact absurd z (by decide)
  · exact hL.2.2.1.fr (by rw [c1, mR_o (by omega)]) (fun o => by rw [c22, mR_o (by omega)])
theorem LI.sm {u : BU} {w L : Nat → Nat} {σ σ1 : St} (h : LI u w L (cR σ 0) σ1) : Sm8 σ σ1 := Sm8.cR.tr (Sm8.kp h.1 (by decide))
theorem act_right (p1 p2 : Int32) : Act (fX7_right p1 p2) (fX8_right p1 p2) := by
  intro σ N h hN
  obtain ⟨w, w1, w2, w3, w4⟩ := pre_t h p1 p2 0 (fun r => r) (Or.inr ⟨rfl, fun _ => rfl⟩)
  refine act_gate (Kc := (fun (σ3 : St) => bd (fX7_laid p1 σ3) fun _ (σ5 : St) => bd (fX1_greatestOf p2 σ5) fun (r7 : Int32) (σ6 : St) => some (r7, σ6))) (Km := (fun (σ3 : St) => bd (fX8_passes p1 p2 σ3) fun _ (σ5 : St) => bd (fX8_rightOnes σ5) fun (r7 : Int32) (σ6 : St) => some (r7, σ6))) h w1 (w2 _) (fun σ1 h1 => w3 σ1 h1 _) (fun z => ?_)
  obtain ⟨u, t, s, a, C, T, hT, hC0, hC, rfl, hp, hT4, hp4⟩ := w4 z
  have hu := hT.1
  obtain ⟨w, L, σa, a1, a2, a3, a4, a5⟩ := k_lay h hT hp
  have hq : POk (uN u, uG u, uF u, C, uS u, w, L) := ⟨hu.n6, hu.g.1, hu.g.2, hu.f, hC, hu.s, a4, a3, hu.sd⟩
  have hM1 : BM (mR σa 0) u := (hT.2.2.1.fr (a2.sm 44 0 (by omega))).fr (mR_o (by omega))
  obtain ⟨m1, m2⟩ := a5 (mR σa 0) hM1.f (by rw [mR_o (by omega), a2.sm 47 0 (by omega)])
  obtain ⟨σ2, c1, c2, c3, c4, c5⟩ := k_passes hq hM1.f hM1.2.1 m1 m2
  refine ⟨_, σa, σ2, by rw [a1, bdS, c_great2 hq a2.2.1.1 (fun b hb => (a2.2.2.2 b hb).1), bdS], a2.sm, ?_, k_done h a2 c2 (by unfold okP; decide) (fun j y1 y2 _ _ _ => c3 j y1 y2)⟩
  rw [c1, bdS, m_right hq c4, bdS]
/-- the gate of those that go over all sets -/
theorem pre_p {σ : St} {N : Nat} (h : Rel σ N) (p1 p4 iv : Int32) (hiv : iv = if fX7_isPass p1 = 0 then 0 else if fX8_in p4 0 (nI 400) = 0 then 0 else nI 1) : ∃ w : Int32, (w = 0 ∨ w = nI 1 ∨ w = nI 2 ∨ w = nI 5) ∧
    (∀ K : St → Option (Int32 × St), (bd (fX7_accepts (σ.1 7 0 8) iv σ) fun (r9 : Int32) (σ8 : St) => (if r9 = 0 then some ((-1), σ8) else K σ8)) = if w = 0 then K (cR σ 0) else some (-1, cR σ w)) ∧
    (∀ σ1, Sm8 σ σ1 → ∀ K : St → Option (Int32 × St), (bd (fX8_passWhy (nI 1) p1 (nI 1) p4 σ1) fun (r2 : Int32) (σ1 : St) => bd (fX8_isRefused r2 σ1) fun (r4 : Int32) (σ3 : St) => (if r4 = 0 then K σ3 else some ((-1), σ3))) = if w = 0 then K (mR σ1 0) else some (-1, mR σ1 w)) ∧
    (w = 0 → ∃ u t s a T, Told u σ t s a ∧ (p1 = nI 1 ∨ p1 = nI 2) ∧ T ≤ 400 ∧ p4 = nI T) := by
  rcases h.2.2.2.2 with hN | ⟨b1, b2, u, t, s, a, t1, t2, hT, -⟩
  · refine ⟨nI 1, Or.inr (Or.inl rfl), fun K => c_gate (by rw [if_pos hN.1]), fun σ1 h1 K => ?_, fun z => absurd z (by decide)⟩
    rw [m_why0 (Or.inl (by rw [h1 8 0 (by omega)]; exact hN.2.1)), bdS]
    exact m_gate
  · have m9 : ∀ σ1, Sm8 σ σ1 → ¬ σ1.1 8 0 9 = 0 := fun σ1 h1 => by rw [h1 8 0 (by omega), b2]; decide
    have h2n : 2 ≤ 2 ^ uN u := Nat.le_trans (by decide : 2 ≤ 2 ^ 1) (Nat.pow_le_pow_right (by omega) hT.1.n1)
    have hset : ∀ σ1, Sm8 σ σ1 → fX8_isSet (nI 1) σ1 = some (nI 1, σ1) := fun σ1 h1 => by
      have hp : 2 ^ uN u ≤ 64 := Nat.pow_le_pow_right (n := 2) (by omega) hT.1.n6
      have hn6 := hT.1.n6
      unfold fX8_isSet
      have m3 : σ1.1 44 0 3 = nI (uN u) := by rw [h1 44 0 (by omega)]; exact hT.2.2.1.2.2.2.1
      rw [gi_n (by omega) (by omega), cl (by omega), m3, shl_1 (by omega), sub_n (by omega)]
      unfold fX8_in
      rw [if_neg (by decide), if_neg (by rw [lt_n (by omega) (by omega)]; omega), rz_1]
    rcases k_pass p1 with ⟨z1, z2, z3⟩ | ⟨z2, z3⟩
    · rw [z2, if_neg (by decide)] at hiv
      by_cases q : fX8_in p4 0 (nI 400) = 0
      · rw [if_pos q] at hiv
        refine ⟨nI 2, Or.inr (Or.inr (Or.inl rfl)), fun K => c_gate (by rw [b1, if_neg (by decide), hiv, if_pos rfl]), fun σ1 h1 K => ?_, fun z => absurd z (by decide)⟩
        unfold fX8_passWhy
        rw [jnD, if_neg (m9 σ1 h1), if_neg (show ¬ nI 1 = 0 by decide), z3, if_neg (show ¬ nI 1 = 0 by decide), hset σ1 h1, bdS, if_neg (show ¬ nI 1 = 0 by decide), if_pos q, bdS]
        exact m_gate
      · rw [if_neg q] at hiv
        obtain ⟨T, T1, T2⟩ := in_tick q
        refine ⟨0, Or.inl rfl, fun K => c_gate (by rw [b1, if_neg (by decide), hiv, if_neg (by decide)]), fun σ1 h1 K => ?_, fun _ => ⟨u, t, s, a, T, hT, z1, T1, T2⟩⟩
        unfold fX8_passWhy
        rw [jnD, if_neg (m9 σ1 h1), if_neg (show ¬ nI 1 = 0 by decide), z3, if_neg (show ¬ nI 1 = 0 by decide), hset σ1 h1, bdS, if_neg (show ¬ nI 1 = 0 by decide), if_neg q, bdS]
        exact m_gate
    · rw [z2, if_pos rfl] at hiv
      refine ⟨nI 2, Or.inr (Or.inr (Or.inl rfl)), fun K => c_gate (by rw [b1, if_neg (by decide), hiv, if_pos rfl]), fun σ1 h1 K => ?_, fun z => absurd z (by decide)⟩
      unfold fX8_passWhy
      rw [jnD, if_neg (m9 σ1 h1), if_neg (show ¬ nI 1 = 0 by decide), z3, if_pos rfl, bdS]
      exact m_gate
