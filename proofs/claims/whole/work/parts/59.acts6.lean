/-! ===== acts: boards, words, the run, its ledgers and its log ===== -/
theorem k_rank {u : BU} {σ : St} {t s a b : Nat} (hT : Told u σ t s a) (hb : b < uN u) : ∃ v, fX4_rankOfDay 0 (nI b) σ = some (nI v, σ) ∧ ∀ σ', σ'.1 44 0 = σ.1 44 0 → σ'.1 47 0 = σ.1 47 0 → fX8_rankOf (nI b) σ' = some (nI v, σ') := by
  obtain ⟨hu, hP, hM, ⟨d, ⟨P, hP', hB, hPu⟩, h1, h2, h3, h4, h5, h6, ⟨w, μ, w1, w2, w3⟩, -⟩, -⟩ := hT
  have hn := hu.n6
  refine ⟨rkD w (uR u) (uN u) b, c_rank σ 0 (uN u) b w μ (uR u) hb ⟨by rw [hP']; exact hB.1, by rw [hP']; exact hB.2.2.2.2.1, hn⟩ w1 w2 (fun o ho => (w3 o ho).1) (fun o ho => by rw [hP']; exact (hB.2.2.2.2.2.2.1 o ho).2.2.1) hu.r, fun σ' e1 e2 => ?_⟩
  exact m_rank σ' w (uN u) μ (uR u) hn (by rw [e1]; exact hM.2.2.2.1) w1 (fun b hb => by have := w2 b hb; omega) (fun o ho => by rw [e2]; exact (w3 o ho).2) (fun o ho => by rw [e1]; exact (hM.2.2.2.2.2.1 o ho).2.2) hu.r hb
theorem k_word1 {u : BU} {σ : St} {t s a b : Nat} (hT : Told u σ t s a) (hb : b < uN u) : ∃ v σ1, fX4_rankWords 0 σ = some ((), σ1) ∧ Kp [(31, 0, 0 + 1)] σ σ1 ∧ σ1.1 31 0 b = nI v ∧ ∀ σ', σ'.1 44 0 = σ.1 44 0 → σ'.1 47 0 = σ.1 47 0 → fX8_wordOf (nI b) (nI 1) σ' = some (nI v, σ') := by
  obtain ⟨hu, hP, hM, ⟨d, ⟨P, hP', hB, hPu⟩, h1, h2, h3, h4, h5, ⟨fr, f1, f2, f3⟩, ⟨w, μ, w1, w2, w3⟩, -⟩, -⟩ := hT
  have hn := hu.n6
  have hp64 : 2 ^ uN u ≤ 64 := Nat.pow_le_pow_right (n := 2) (by omega) hn
  obtain ⟨σ1, y1, y2, y3⟩ := c_words (σ := σ) (k := 0) (n := uN u) (fr := fr) (w := w) (μ := μ) (rk := uR u) ⟨by rw [hP']; exact hB.1, by rw [hP']; exact hB.2.2.2.2.1, hn⟩ w1 w2 (fun o ho => (w3 o ho).1) (fun o ho => by rw [hP']; exact (hB.2.2.2.2.2.2.1 o ho).2.2.1) hu.r f1 (by omega)
  refine ⟨_, σ1, y1, y2, y3 b hb, fun σ' e1 e2 => ?_⟩
  exact m_word1 (μ := μ) (cd := uC u) ⟨hn, by rw [e1]; exact hM.2.2.2.1, w1, w2, fun b hb => by rw [e2]; exact (w3 b hb).2, fun b hb => by rw [e1]; exact ⟨(hM.2.2.2.2.2.1 b hb).2.2, hu.r b hb⟩, fun b hb => by rw [e2]; exact ⟨f3 b hb, tuN_le _ _⟩, fun b hb => by rw [e1]; exact ⟨(hM.2.2.2.2.2.1 b hb).2.1, (hu.c b hb).2⟩⟩ hb
theorem k_word2 {u : BU} {σ' : St} {b : Nat} (hu : UOk u) (hM : BM σ' u) (hb : b < uN u) : fX8_wordOf (nI b) (nI 2) σ' = some (nI (wd2 (uC u) b), σ') := by
  have hn := hu.n6
  have hc := (hu.c b hb).2
  unfold fX8_wordOf wd2
  rw [if_neg (by decide), add_n, gi_n (by omega) (by omega), cl (by omega), (hM.2.2.2.2.2.1 b hb).2.1, mul_n, m_odd σ' (by omega), bdS]
theorem lt7 {j : Nat} (h : j < 7) : j = 0 ∨ j = 1 ∨ j = 2 ∨ j = 3 ∨ j = 4 ∨ j = 5 ∨ j = 6 := by omega
theorem act_board (p1 p2 : Int32) : Act (fX7_board p1 p2) (fX8_board p1 p2) := by
  intro σ N h hN
  have no : ∀ x : Int32, (x = 0 ∨ fX7_isBelow p2 (nI 7) = 0) → fX7_hasBoard p1 σ = some (x, σ) → (∀ σ1, Sm8 σ σ1 → fX8_isBoard p1 σ1 = some (x, σ1)) → ∃ r σ1 σ2, fX7_board p1 p2 σ = some (r, σ1) ∧ fX8_board p1 p2 σ1 = some (r, σ2) ∧ Rel σ2 (N + 1) := fun x hx k1 k2 => by
    refine act_val (w := nI 1) (v := -1) h (Or.inr (Or.inl rfl)) ?_ ?_
    · unfold fX7_board
      rw [k1, bdS, jnD]
      by_cases q : x = 0
      · rw [if_pos q]; rfl
      · rw [if_neg q, if_pos (hx.resolve_left q)]; rfl
    · unfold fX8_board
      rw [k2 _ Sm8.cR, bdS, jnD, jnD, in_6]
      by_cases q : x = 0
      · rw [if_pos q]; exact m_no (by decide)
      · rw [if_neg q, if_pos (hx.resolve_left q)]; exact m_no (by decide)
  rcases h.2.2.2.2 with hN | ⟨b1, b2, u, t, s, a, t1, t2, hT, -⟩
  · exact no 0 (Or.inl rfl) (k_boardN hN p1).1 (k_boardN hN p1).2
  · rcases k_board b1 b2 hT p1 with ⟨b, e1, rfl, e3, e4⟩ | ⟨e3, e4⟩
    · by_cases q : fX7_isBelow p2 (nI 7) = 0
      · exact no _ (Or.inr q) e3 e4
      · obtain ⟨j, j1, rfl, j3⟩ := below_of (by omega) q
        have hT' := hT
        obtain ⟨hu, hP, hM, ⟨d, ⟨P, hP', hB, hPu⟩, h1, h2, h3, h4, h5, ⟨fr, f1, f2, f3⟩, ⟨w, μ, w1, w2, w3⟩, -⟩, -⟩ := hT
        have hn := hu.n6
        have hp64 : 2 ^ uN u ≤ 64 := Nat.pow_le_pow_right (n := 2) (by omega) hn
        have hp : σ.2.2 7 0 6 = P := hP.symm.trans hP'
        have key : ∀ v : Int32, (if (nI 3) ≤ nI j then bd (fX4_boardState 0 (nI b) (nI j) σ) fun (r11 : Int32) (σ10 : St) => bd (fX7_accepted r11 σ10) fun (r9 : Int32) (σ8 : St) => some (r9, σ8) else gd (σ.2.2 7 0 6 < 6) <| bd (fX2_boardFact (σ.2.2 7 0 6) (nI b) (nI j) σ) fun (r14 : Int32) (σ13 : St) => bd (fX7_accepted r14 σ13) fun (r9 : Int32) (σ8 : St) => some (r9, σ8)) = some (v, cR σ 0) → (if nI j = 0 then gi ((nI 5) + nI b) 59 <| some ((mR (cR σ 0) 0).1 44 0 ((nI 5) + nI b).toNatClampNeg, mR (cR σ 0) 0) else if nI j = nI 1 then gi ((nI 11) + nI b) 59 <| some ((mR (cR σ 0) 0).1 44 0 ((nI 11) + nI b).toNatClampNeg, mR (cR σ 0) 0) else if nI j = nI 2 then gi ((nI 17) + nI b) 59 <| some ((mR (cR σ 0) 0).1 44 0 ((nI 17) + nI b).toNatClampNeg, mR (cR σ 0) 0) else if nI j = nI 3 then bd (fX8_rankOf (nI b) (mR (cR σ 0) 0)) fun (r12 : Int32) (σ11 : St) => some (r12, σ11) else if nI j = nI 4 then gi (fX8_at (nI b) (nI 2)) 251 <| some ((mR (cR σ 0) 0).1 47 0 (fX8_at (nI b) (nI 2)).toNatClampNeg, mR (cR σ 0) 0) else if nI j = nI 5 then gi (fX8_at (nI b) 0) 251 <| some ((mR (cR σ 0) 0).1 47 0 (fX8_at (nI b) 0).toNatClampNeg, mR (cR σ 0) 0) else gi (fX8_at (nI b) (nI 3)) 251 <| some ((mR (cR σ 0) 0).1 47 0 (fX8_at (nI b) (nI 3)).toNatClampNeg, mR (cR σ 0) 0)) = some (v, mR (cR σ 0) 0) → ∃ r σ1 σ2, fX7_board (nI b) (nI j) σ = some (r, σ1) ∧ fX8_board (nI b) (nI j) σ1 = some (r, σ2) ∧ Rel σ2 (N + 1) := fun v k1 k2 => by
          refine act_val (w := 0) (v := v) h (Or.inl rfl) ?_ ?_
          · unfold fX7_board
            rw [e3, bdS, jnD, if_neg (show ¬ nI 1 = 0 by decide), if_neg q]
            exact k1
          · unfold fX8_board
            rw [e4 _ Sm8.cR, bdS, jnD, jnD, in_6, if_neg (show ¬ nI 1 = 0 by decide), if_neg q]
            exact m_yes.trans k2
        have fct : fX2_holds P (nI b) σ = some (nI 1, σ) := c_holds hB.2.2.2.2.1 e1 hn
        rcases lt7 j1 with rfl | rfl | rfl | rfl | rfl | rfl | rfl
        · refine key (nI (uS u b)) ?_ ?_
          · rw [if_neg (by decide), hp, gd_t hB.1]; unfold fX2_boardFact; rw [fct, bdS, if_neg (show ¬ nI 1 = 0 by decide), if_pos nI_0, gi_n (by omega) (by omega), cl (by omega), bdS, (hB.2.2.2.2.2.2.1 b e1).1]; rfl
          · rw [if_pos nI_0, add_n, gi_n (by omega) (by omega), cl (by omega), e44, (hM.2.2.2.2.2.1 b e1).1]
        · refine key (nI (uC u b)) ?_ ?_
          · rw [if_neg (by decide), hp, gd_t hB.1]; unfold fX2_boardFact; rw [fct, bdS, if_neg (show ¬ nI 1 = 0 by decide), if_neg (show ¬ nI 1 = 0 by decide), if_pos rfl, gi_n (by omega) (by omega), cl (by omega), bdS, (hB.2.2.2.2.2.2.1 b e1).2.1]; rfl
          · rw [if_neg (by decide), if_pos rfl, add_n, gi_n (by omega) (by omega), cl (by omega), e44, (hM.2.2.2.2.2.1 b e1).2.1]
        · refine key (nI (uR u b)) ?_ ?_
          · rw [if_neg (by decide), hp, gd_t hB.1]; unfold fX2_boardFact; rw [fct, bdS, if_neg (show ¬ nI 1 = 0 by decide), if_neg (show ¬ nI 2 = 0 by decide), if_neg (show ¬ nI 2 = nI 1 by decide), gi_n (by omega) (by omega), cl (by omega), bdS, (hB.2.2.2.2.2.2.1 b e1).2.2.1]; rfl
          · rw [if_neg (by decide), if_neg (by decide), if_pos rfl, add_n, gi_n (by omega) (by omega), cl (by omega), e44, (hM.2.2.2.2.2.1 b e1).2.2]
        · obtain ⟨v, v1, v2⟩ := k_rank hT' e1
          refine key (nI v) ?_ ?_
          · rw [if_pos (by decide)]; unfold fX4_boardState; rw [hP', gd_t hB.1, fct, bdS, if_neg (show ¬ nI 1 = 0 by decide), if_pos rfl, v1, bdS, bdS]; rfl
          · rw [if_neg (by decide), if_neg (by decide), if_neg (by decide), if_pos rfl, v2 _ e44 e47, bdS]
        · refine key (nI (tuN fr b)) ?_ ?_
          · rw [if_pos (by decide)]; unfold fX4_boardState; rw [hP', gd_t hB.1, fct, bdS, if_neg (show ¬ nI 1 = 0 by decide), if_neg (show ¬ nI 4 = nI 3 by decide), if_pos rfl, f1, has7 (by omega) (by omega), bdS, tuN_bit]
            by_cases z : fr.testBit b = true
            · rw [if_pos z, if_pos z]; rfl
            · rw [if_neg z, if_neg z]; rfl
          · rw [if_neg (by decide), if_neg (by decide), if_neg (by decide), if_neg (by decide), if_pos rfl, at8, gi_n (by omega) (by omega), cl (by omega), e47, f3 b e1]
        · obtain ⟨⟨va, a1, a2, a3⟩, -⟩ := h5 b e1
          refine key (nI va) ?_ ?_
          · rw [if_pos (by decide)]; unfold fX4_boardState; rw [hP', gd_t hB.1, fct, bdS, if_neg (show ¬ nI 1 = 0 by decide), if_neg (show ¬ nI 5 = nI 3 by decide), if_neg (show ¬ nI 5 = nI 4 by decide), if_pos rfl, gi_n (by omega) (by omega), cl (by omega), a1, bdS]; rfl
          · rw [if_neg (by decide), if_neg (by decide), if_neg (by decide), if_neg (by decide), if_neg (by decide), if_pos rfl, at8_0, gi_n (by omega) (by omega), cl (by omega), e47, a2]
        · refine key (wv (w b)) ?_ ?_
          · rw [if_pos (by decide)]; unfold fX4_boardState; rw [hP', gd_t hB.1, fct, bdS, if_neg (show ¬ nI 1 = 0 by decide), if_neg (show ¬ nI 6 = nI 3 by decide), if_neg (show ¬ nI 6 = nI 4 by decide), if_neg (show ¬ nI 6 = nI 5 by decide), gi_n (by omega) (by omega), cl (by omega), (w3 b e1).1, bdS]; rfl
          · rw [if_neg (by decide), if_neg (by decide), if_neg (by decide), if_neg (by decide), if_neg (by decide), if_neg (by decide), at8, gi_n (by omega) (by omega), cl (by omega), e47, (w3 b e1).2]
    · exact no 0 (Or.inl rfl) e3 e4
theorem act_word (p1 p2 : Int32) : Act (fX7_word p1 p2) (fX8_word p1 p2) := by
  intro σ N h hN
  have no : fX7_hasBoard p1 σ = some (0, σ) → (∀ σ1, Sm8 σ σ1 → fX8_isBoard p1 σ1 = some (0, σ1)) → ∃ r σ1 σ2, fX7_word p1 p2 σ = some (r, σ1) ∧ fX8_word p1 p2 σ1 = some (r, σ2) ∧ Rel σ2 (N + 1) := fun k1 k2 => by
    refine act_val (w := nI 1) (v := -1) h (Or.inr (Or.inl rfl)) ?_ ?_
    · unfold fX7_word
      rw [k1, bdS, if_pos rfl]; rfl
    · unfold fX8_word
      rw [k2 _ Sm8.cR, bdS, if_pos rfl]; exact m_no (by decide)
  rcases h.2.2.2.2 with hN | ⟨b1, b2, u, t, s, a, t1, t2, hT, -⟩
  · exact no (k_boardN hN p1).1 (k_boardN hN p1).2
  · rcases k_board b1 b2 hT p1 with ⟨b, e1, rfl, e3, e4⟩ | ⟨e3, e4⟩
    · have hu := hT.1
      have hn := hu.n6
      rcases k_pass p2 with ⟨z1, z2, z3⟩ | ⟨z2, z3⟩
      · rcases z1 with rfl | rfl
        · obtain ⟨v, σ1, v1, v2, v3, v4⟩ := k_word1 hT e1
          have hs : Sm8 σ σ1 := Sm8.kp v2 (by decide)
          have hs' : Sm8 σ (cR σ1 0) := hs.tr Sm8.cR
          refine ⟨nI v, cR σ1 0, mR (cR σ1 0) 0, ?_, ?_, h.qt (((Qt.kp v2 (by unfold okP; decide) (fun j z => by rw [kpc v2 8 0 rfl])).tr Qt.cR).tr Qt.mR) ?_ ?_ ?_⟩
          · unfold fX7_word
            rw [e3, bdS, if_neg (by decide), z2, if_neg (by decide), jnD, if_pos rfl, v1, bdS, gi_n (by omega) (by omega), cl (by omega), v3]
            rfl
          · unfold fX8_word
            rw [e4 _ hs', bdS, if_neg (show ¬ nI 1 = 0 by decide), z3, if_neg (show ¬ nI 1 = 0 by decide)]
            refine m_yes.trans ?_
            rw [v4 _ (by rw [mR_o (by omega), hs' 44 0 (by omega)]) (by rw [mR_o (by omega), hs' 47 0 (by omega)]), bdS]
          · rw [mR_o (by omega), cR_10, mR_1]
          · intro z; rw [mR_1] at z; exact absurd z (by decide)
          · exact h.2.2.1.fr (by rw [mR_o (by omega), cR_o (by omega), kpc v2 1 0 rfl]) (fun o => by rw [mR_o (by omega), cR_o (by omega), kpc v2 22 o rfl])
        · obtain ⟨d, ⟨P, hP', hB, hPu⟩, -⟩ := hT.2.2.2.1
          have hp : σ.2.2 7 0 6 = P := hT.2.1.symm.trans hP'
          refine act_val (w := 0) (v := nI (wd2 (uC u) b)) h (Or.inl rfl) ?_ ?_
          · unfold fX7_word
            rw [e3, bdS, if_neg (by decide), z2, if_neg (by decide), jnD, if_neg (by decide), hp, gd_t hB.1, gi_n (by omega) (by omega), cl (by omega), (hB.2.2.2.2.2.2.1 b e1).2.2.2]
            rfl
          · unfold fX8_word
            rw [e4 _ Sm8.cR, bdS, if_neg (show ¬ nI 1 = 0 by decide), z3, if_neg (show ¬ nI 1 = 0 by decide)]
            refine m_yes.trans ?_
            rw [k_word2 hu (hT.2.2.1.fr e44) e1, bdS]
      · refine act_val (w := nI 2) (v := -1) h (Or.inr (Or.inr (Or.inl rfl))) ?_ ?_
        · unfold fX7_word
          rw [e3, bdS, if_neg (by decide), z2, if_pos rfl]; rfl
        · unfold fX8_word
          rw [e4 _ Sm8.cR, bdS, if_neg (by decide), z3, if_pos rfl]; exact m_no (by decide)
    · exact no e3 e4
theorem lt11 {j : Nat} (h : j < 11) : j = 0 ∨ j = 1 ∨ j = 2 ∨ j = 3 ∨ j = 4 ∨ j = 5 ∨ j = 6 ∨ j = 7 ∨ j = 8 ∨ j = 9 ∨ j = 10 := by omega
/-- what is told of the run, on both sides -/
theorem k_state {u : BU} {σ σm : St} {k t p s a j : Nat} (hu : UOk u) (ht : t < 2147483648) (hR : RR u σ k (σm.1 47 0) t p s a) (hM : BM σm u) (hj : j < 11) : ∃ v, fX4_state k (nI j) σ = some (v, σ) ∧ fX8_told (nI j) σm = some (v, σm) := by
  have hn := hu.n6
  obtain ⟨d, ⟨P, hP, hB, hPu⟩, ⟨⟨t1, t2⟩, ⟨m1, m2⟩, ⟨l1, l2⟩, ⟨e1, e2⟩, g4, g5, -⟩, ⟨⟨y0, y1, y2, y3, y4⟩, -⟩, h3, h4, h5, -⟩ := hR
  unfold fX4_state fX8_told
  rcases lt11 hj with rfl | rfl | rfl | rfl | rfl | rfl | rfl | rfl | rfl | rfl | rfl
  · rw [if_pos nI_0, if_pos nI_0, gi_n (by omega) (by omega), cl (by omega), m1]; exact ⟨_, rfl, rfl⟩
  · rw [if_neg (by decide), if_pos rfl, if_neg (by decide), if_pos rfl, gi_n (by omega) (by omega), cl (by omega), l1]; exact ⟨_, rfl, rfl⟩
  · rw [if_neg (by decide), if_neg (by decide), if_pos rfl, if_neg (by decide), if_neg (by decide), if_pos rfl, gi_n (by omega) (by omega), cl (by omega), e1]; exact ⟨_, rfl, rfl⟩
  · rw [if_neg (by decide), if_neg (by decide), if_neg (by decide), if_pos rfl, if_neg (by decide), if_neg (by decide), if_neg (by decide), if_pos rfl, gi_n (by omega) (by omega), cl (by omega), g4]; exact ⟨_, rfl, rfl⟩
  · rw [if_neg (by decide), if_neg (by decide), if_neg (by decide), if_neg (by decide), if_pos rfl, if_neg (by decide), if_neg (by decide), if_neg (by decide), if_neg (by decide), if_pos rfl, gi_n (by omega) (by omega), cl (by omega), g5]; exact ⟨_, rfl, rfl⟩
  · obtain ⟨ak, sn, hak⟩ := h5.fn ht
    rw [if_neg (by decide), if_neg (by decide), if_neg (by decide), if_neg (by decide), if_neg (by decide), if_pos rfl, if_neg (by decide), if_neg (by decide), if_neg (by decide), if_neg (by decide), if_neg (by decide), if_pos rfl, c_askers (n := uN u) (ak := ak) ⟨by rw [hP]; exact hB.1, by rw [hP]; exact hB.2.2.2.2.1, hn⟩ (fun b hb => ⟨(hak b hb).1.1, (hak b hb).1.2.2⟩), bdS, m_asking hn hM.2.2.2.1 (fun b hb => ⟨(hak b hb).1.2.1, (hak b hb).1.2.2⟩), bdS]
    exact ⟨_, rfl, rfl⟩
  all_goals
    rw [if_neg (by decide), if_neg (by decide), if_neg (by decide), if_neg (by decide), if_neg (by decide), if_neg (by decide), if_neg (by decide), if_neg (by decide), if_neg (by decide), if_neg (by decide), if_neg (by decide), if_neg (by decide), add_n, sub_n (by omega), gi_n (by omega) (by omega), cl (by omega)]
    unfold fX5_total
  · rw [if_pos rfl, bdS, y0]; exact ⟨_, rfl, rfl⟩
  · rw [if_neg (by decide), if_pos rfl, bdS, y1]; exact ⟨_, rfl, rfl⟩
  · rw [if_neg (by decide), if_neg (by decide), if_pos rfl, bdS, y2]; exact ⟨_, rfl, rfl⟩
  · rw [if_neg (by decide), if_neg (by decide), if_neg (by decide), if_pos rfl, bdS, y3]; exact ⟨_, rfl, rfl⟩
  · rw [if_neg (by decide), if_neg (by decide), if_neg (by decide), if_neg (by decide), bdS, y4]; exact ⟨_, rfl, rfl⟩
theorem act_now (p1 : Int32) : Act (fX7_now p1) (fX8_now p1) := by
  intro σ N h hN
  have no : ∀ hc : σ.1 7 0 8 = 0 ∨ fX7_isBelow p1 (nI 11) = 0, σ.1 8 0 9 = σ.1 7 0 8 → ∃ r σ1 σ2, fX7_now p1 σ = some (r, σ1) ∧ fX8_now p1 σ1 = some (r, σ2) ∧ Rel σ2 (N + 1) := fun hc h9 => by
    refine act_val (w := nI 1) (v := -1) h (Or.inr (Or.inl rfl)) ?_ ?_
    · unfold fX7_now
      rw [jnD]
      by_cases q : σ.1 7 0 8 = 0
      · rw [if_pos q]; rfl
      · rw [if_neg q, if_pos (hc.resolve_left q)]; rfl
    · unfold fX8_now
      rw [in_10, e89, h9]
      by_cases q : σ.1 7 0 8 = 0
      · rw [if_pos q, un_0]; exact m_no (by decide)
      · rw [if_neg q, if_pos (hc.resolve_left q), un_0]; exact m_no (by decide)
  rcases h.2.2.2.2 with hN | ⟨b1, b2, u, t, s, a, t1, t2, hT, -⟩
  · exact no (Or.inl hN.1) (by rw [hN.1, hN.2.1])
  · by_cases q : fX7_isBelow p1 (nI 11) = 0
    · exact no (Or.inr q) (by rw [b1, b2])
    · obtain ⟨j, j1, rfl, j3⟩ := below_of (by omega) q
      obtain ⟨v, v1, v2⟩ := k_state (σm := mR (cR σ 0) 0) (j := j) (t := t) hT.1 (by omega) (by rw [e47]; exact hT.2.2.2.1) (hT.2.2.1.fr e44) j1
      refine act_val (w := 0) (v := v) h (Or.inl rfl) ?_ ?_
      · unfold fX7_now
        rw [jnD, if_neg (by rw [b1]; decide), if_neg q, v1, bdS]; rfl
      · unfold fX8_now
        rw [in_10, e89, b2, if_neg (show ¬ nI 1 = 0 by decide), if_neg q, un_1]
        refine m_yes.trans ?_
        rw [v2, bdS]
theorem act_ledger (p1 p2 : Int32) : Act (fX7_ledger p1 p2) (fX8_ledger p1 p2) := by
  intro σ N h hN
  have no : ∀ x : Int32, (x = 0 ∨ fX7_isBelow p2 (nI 6) = 0) → fX7_hasBoard p1 σ = some (x, σ) → (∀ σ1, Sm8 σ σ1 → fX8_isBoard p1 σ1 = some (x, σ1)) → ∃ r σ1 σ2, fX7_ledger p1 p2 σ = some (r, σ1) ∧ fX8_ledger p1 p2 σ1 = some (r, σ2) ∧ Rel σ2 (N + 1) := fun x hx k1 k2 => by
    refine act_val (w := nI 1) (v := -1) h (Or.inr (Or.inl rfl)) ?_ ?_
    · unfold fX7_ledger
      rw [k1, bdS, jnD]
      by_cases q : x = 0
      · rw [if_pos q]; rfl
      · rw [if_neg q, if_pos (hx.resolve_left q)]; rfl
    · unfold fX8_ledger
      rw [k2 _ Sm8.cR, bdS, in_5]
      by_cases q : x = 0
      · rw [if_pos q]; exact m_no (by decide)
      · rw [if_neg q, if_pos (hx.resolve_left q)]; exact m_no (by decide)
  rcases h.2.2.2.2 with hN | ⟨b1, b2, u, t, s, a, t1, t2, hT, -⟩
  · exact no 0 (Or.inl rfl) (k_boardN hN p1).1 (k_boardN hN p1).2
  · rcases k_board b1 b2 hT p1 with ⟨b, e1, rfl, e3, e4⟩ | ⟨e3, e4⟩
    · by_cases q : fX7_isBelow p2 (nI 6) = 0
      · exact no _ (Or.inr q) e3 e4
      · obtain ⟨j, j1, rfl, j3⟩ := below_of (by omega) q
        obtain ⟨hu, hP, hM, ⟨d, h0, h1, h2, h3, h4, h5, h6, h7, h8, h9, -⟩, -⟩ := hT
        have hn := hu.n6
        have e9 := (h9 b e1).1 j j1
        rw [Nat.mul_zero, Nat.zero_add] at e9
        refine act_val (w := 0) (v := σ.1 38 b j) h (Or.inl rfl) ?_ ?_
        · unfold fX7_ledger fX5_account
          rw [e3, bdS, jnD, if_neg (show ¬ nI 1 = 0 by decide), if_neg q, isAcc (by omega) j1, if_neg (by decide), gi_n (by omega) (by omega), gi_n (by omega) (by omega), cl (by omega), cl (by omega), bdS, Nat.mul_zero, Nat.zero_add]; rfl
        · unfold fX8_ledger
          rw [e4 _ Sm8.cR, bdS, in_5, if_neg (show ¬ nI 1 = 0 by decide), if_neg q, un_1]
          refine m_yes.trans ?_
          rw [add_n, at8, gi_n (by omega) (by omega), cl (by omega), e47, e9, show 18 + 12 * b + (6 + j) = 18 + 12 * b + 6 + j by omega]
    · exact no 0 (Or.inl rfl) e3 e4
