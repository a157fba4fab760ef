/-! ===== acts: one pass ===== -/
/-- a pass at a board and a tick -/
theorem pre_bt {σ : St} {N : Nat} (h : Rel σ N) (p1 p2 p3 p4 : Int32) : ∃ w : Int32, (w = 0 ∨ w = nI 1 ∨ w = nI 2 ∨ w = nI 5) ∧
    (∀ K : St → Option (Int32 × St), (bd (fX7_hasBoard p3 σ) fun (r2 : Int32) (σ1 : St) => bd (fX7_isContest p1 p2 σ1) fun (r4 : Int32) (σ3 : St) => bd (fX7_accepts r2 (if r4 = 0 then 0 else (if (fX7_isTick p4) = 0 then 0 else (nI 1))) σ3) fun (r11 : Int32) (σ10 : St) => (if r11 = 0 then some ((-1), σ10) else K σ10)) = if w = 0 then K (cR σ 0) else some (-1, cR σ w)) ∧
    (∀ σ1, Sm8 σ σ1 → ∀ K : St → Option (Int32 × St), (bd (fX8_isBoard p3 σ1) fun (r2 : Int32) (σ1 : St) => bd (fX8_passWhy r2 p1 p2 p4 σ1) fun (r4 : Int32) (σ3 : St) => bd (fX8_isRefused r4 σ3) fun (r6 : Int32) (σ5 : St) => (if r6 = 0 then K σ5 else some ((-1), σ5))) = if w = 0 then K (mR σ1 0) else some (-1, mR σ1 w)) ∧
    (w = 0 → ∃ u t s a b C T, Told u σ t s a ∧ b < uN u ∧ p3 = nI b ∧ C ≠ 0 ∧ C < 2 ^ uN u ∧ p2 = nI C ∧ (p1 = nI 1 ∨ p1 = nI 2) ∧ T ≤ 400 ∧ p4 = nI T) := by
  have hP := h.2.2.2.1.1
  rcases h.2.2.2.2 with hN | ⟨b1, b2, u, t, s, a, t1, t2, hT, -⟩
  · obtain ⟨k1, k2⟩ := k_boardN hN p3
    obtain ⟨y, hy⟩ := c_contestN hP p1 p2
    refine ⟨nI 1, Or.inr (Or.inl rfl), fun K => ?_, fun σ1 h1 K => ?_, fun z => absurd z (by decide)⟩
    · rw [k1, bdS, hy, bdS]
      exact c_gate (by rw [if_pos rfl])
    · rw [k2 σ1 h1, bdS, m_why0 (Or.inr rfl), bdS]
      exact m_gate
  · rcases k_board b1 b2 hT p3 with ⟨b, e1, e2, e3, e4⟩ | ⟨e3, e4⟩
    · rcases k_contest b2 hT p1 p2 with ⟨C, c1, c2, c3, c4, c5, c6⟩ | ⟨c5, c6⟩
      · by_cases q : fX8_in p4 0 (nI 400) = 0
        · refine ⟨nI 2, Or.inr (Or.inr (Or.inl rfl)), fun K => ?_, fun σ1 h1 K => ?_, fun z => absurd z (by decide)⟩
          · rw [e3, bdS, c5, bdS]
            exact c_gate (by rw [if_neg (show ¬ nI 1 = 0 by decide), if_neg (show ¬ nI 1 = 0 by decide), k_tick, if_pos q, if_pos rfl])
          · rw [e4 σ1 h1, bdS, c6 σ1 h1 p4 _ (by decide), bdS, if_pos q]
            exact m_gate
        · obtain ⟨T, T1, T2⟩ := in_tick q
          refine ⟨0, Or.inl rfl, fun K => ?_, fun σ1 h1 K => ?_, fun _ => ⟨u, t, s, a, b, C, T, hT, e1, e2, c1, c2, c3, c4, T1, T2⟩⟩
          · rw [e3, bdS, c5, bdS]
            exact c_gate (by rw [if_neg (show ¬ nI 1 = 0 by decide), if_neg (show ¬ nI 1 = 0 by decide), k_tick, if_neg q, if_neg (by decide)])
          · rw [e4 σ1 h1, bdS, c6 σ1 h1 p4 _ (by decide), bdS, if_neg q]
            exact m_gate
      · refine ⟨nI 2, Or.inr (Or.inr (Or.inl rfl)), fun K => ?_, fun σ1 h1 K => ?_, fun z => absurd z (by decide)⟩
        · rw [e3, bdS, c5, bdS]
          exact c_gate (by rw [if_neg (show ¬ nI 1 = 0 by decide), if_pos rfl, if_pos rfl])
        · rw [e4 σ1 h1, bdS, c6 σ1 h1 p4 _ (by decide), bdS]
          exact m_gate
    · obtain ⟨y, hy⟩ := c_contestN hP p1 p2
      refine ⟨nI 1, Or.inr (Or.inl rfl), fun K => ?_, fun σ1 h1 K => ?_, fun z => absurd z (by decide)⟩
      · rw [e3, bdS, hy, bdS]
        exact c_gate (by rw [if_pos rfl])
      · rw [e4 σ1 h1, bdS, m_why0 (Or.inr rfl), bdS]
        exact m_gate
/-- a pass at a tick; the class tells its test of the tick by tk, the model by p4 -/
theorem pre_t {σ : St} {N : Nat} (h : Rel σ N) (p1 p2 p4 : Int32) (tk : Int32 → Int32) (htk : (∀ r, tk r = if r = 0 then 0 else (if (fX7_isTick p4) = 0 then 0 else (nI 1))) ∨ (p4 = 0 ∧ ∀ r, tk r = r)) : ∃ w : Int32, (w = 0 ∨ w = nI 1 ∨ w = nI 2 ∨ w = nI 5) ∧
    (∀ K : St → Option (Int32 × St), (bd (fX7_isContest p1 p2 σ) fun (r2 : Int32) (σ1 : St) => bd (fX7_accepts (σ.1 7 0 8) (tk r2) σ1) fun (r9 : Int32) (σ8 : St) => (if r9 = 0 then some ((-1), σ8) else K σ8)) = if w = 0 then K (cR σ 0) else some (-1, cR σ w)) ∧
    (∀ σ1, Sm8 σ σ1 → ∀ K : St → Option (Int32 × St), (bd (fX8_passWhy (nI 1) p1 p2 p4 σ1) fun (r2 : Int32) (σ1 : St) => bd (fX8_isRefused r2 σ1) fun (r4 : Int32) (σ3 : St) => (if r4 = 0 then K σ3 else some ((-1), σ3))) = if w = 0 then K (mR σ1 0) else some (-1, mR σ1 w)) ∧
    (w = 0 → ∃ u t s a C T, Told u σ t s a ∧ C ≠ 0 ∧ C < 2 ^ uN u ∧ p2 = nI C ∧ (p1 = nI 1 ∨ p1 = nI 2) ∧ T ≤ 400 ∧ p4 = nI T) := by
  have hP := h.2.2.2.1.1
  have tk0 : tk 0 = 0 := by
    rcases htk with g | ⟨-, g⟩
    · rw [g, if_pos rfl]
    · rw [g]
  have tk1 : fX8_in p4 0 (nI 400) = 0 → tk (nI 1) = 0 := fun q => by
    rcases htk with g | ⟨g0, g⟩
    · rw [g, if_neg (by decide), k_tick, if_pos q]
    · rw [g0] at q; exact absurd q tick0
  have tk2 : ¬ fX8_in p4 0 (nI 400) = 0 → tk (nI 1) = nI 1 := fun q => by
    rcases htk with g | ⟨g0, g⟩
    · rw [g, if_neg (by decide), k_tick, if_neg q]
    · rw [g]
  rcases h.2.2.2.2 with hN | ⟨b1, b2, u, t, s, a, t1, t2, hT, -⟩
  · obtain ⟨y, hy⟩ := c_contestN hP p1 p2
    refine ⟨nI 1, Or.inr (Or.inl rfl), fun K => ?_, fun σ1 h1 K => ?_, fun z => absurd z (by decide)⟩
    · rw [hy, bdS]
      exact c_gate (by rw [if_pos hN.1])
    · rw [m_why0 (Or.inl (by rw [h1 8 0 (by omega)]; exact hN.2.1)), bdS]
      exact m_gate
  · rcases k_contest b2 hT p1 p2 with ⟨C, c1, c2, c3, c4, c5, c6⟩ | ⟨c5, c6⟩
    · by_cases q : fX8_in p4 0 (nI 400) = 0
      · refine ⟨nI 2, Or.inr (Or.inr (Or.inl rfl)), fun K => ?_, fun σ1 h1 K => ?_, fun z => absurd z (by decide)⟩
        · rw [c5, bdS, b1, tk1 q]
          exact c_gate (by rw [if_neg (show ¬ nI 1 = 0 by decide), if_pos rfl])
        · rw [c6 σ1 h1 p4 _ (by decide), bdS, if_pos q]
          exact m_gate
      · obtain ⟨T, T1, T2⟩ := in_tick q
        refine ⟨0, Or.inl rfl, fun K => ?_, fun σ1 h1 K => ?_, fun _ => ⟨u, t, s, a, C, T, hT, c1, c2, c3, c4, T1, T2⟩⟩
        · rw [c5, bdS, b1, tk2 q]
          exact c_gate (by rw [if_neg (show ¬ nI 1 = 0 by decide), if_neg (by decide)])
        · rw [c6 σ1 h1 p4 _ (by decide), bdS, if_neg q]
          exact m_gate
    · refine ⟨nI 2, Or.inr (Or.inr (Or.inl rfl)), fun K => ?_, fun σ1 h1 K => ?_, fun z => absurd z (by decide)⟩
      · rw [c5, bdS, b1, tk0]
        exact c_gate (by rw [if_neg (show ¬ nI 1 = 0 by decide), if_pos rfl])
      · rw [c6 σ1 h1 p4 _ (by decide), bdS]
        exact m_gate
theorem act_drives (p1 p2 p3 p4 : Int32) : Act (fX7_drives p1 p2 p3 p4) (fX8_drives p1 p2 p3 p4) := by
  intro σ N h hN
  obtain ⟨w, w1, w2, w3, w4⟩ := pre_bt h p1 p2 p3 p4
  refine act_gate (Kc := (fun (σ10 : St) => bd (fX7_played p1 p2 σ10) fun _ (σ12 : St) => bd (fX1_drivenAt p3 p4 σ12) fun (r14 : Int32) (σ13 : St) => some (r14, σ13))) (Km := (fun (σ5 : St) => bd (fX8_passes p1 p2 σ5) fun _ (σ7 : St) => gi (fX8_cell p3 p4) 2406 <| some (σ7.1 51 0 (fX8_cell p3 p4).toNatClampNeg, σ7))) h w1 (w2 _) (fun σ1 h1 => w3 σ1 h1 _) (fun z => ?_)
  obtain ⟨u, t, s, a, b, C, T, hT, hb, rfl, hC0, hC, rfl, hp, hT4, rfl⟩ := w4 z
  obtain ⟨q, σ1, σ2, hq, e1, e2, c1, c2, c3, c4, c5, c6, c7⟩ := k_both h hT hp hC
  have hn := hT.1.n6
  have hb' : b < pN q := by rw [e1]; exact hb
  have hm := (c6.1 b hb' T (by omega)).1
  refine ⟨_, σ1, σ2, by rw [c1, bdS, c_driven hq c2 hb' hT4, bdS], c3, ?_, c7⟩
  rw [c4, bdS, cell8, gi_n (by omega) (by omega), cl (by omega), hm.1]
theorem act_seen (p1 p2 p3 p4 : Int32) : Act (fX7_seen p1 p2 p3 p4) (fX8_seen p1 p2 p3 p4) := by
  intro σ N h hN
  obtain ⟨w, w1, w2, w3, w4⟩ := pre_bt h p1 p2 p3 p4
  refine act_gate (Kc := (fun (σ10 : St) => bd (fX7_played p1 p2 σ10) fun _ (σ12 : St) => bd (fX1_sightAt p3 p4 σ12) fun (r14 : Int32) (σ13 : St) => some (r14, σ13))) (Km := (fun (σ5 : St) => bd (fX8_passes p1 p2 σ5) fun _ (σ7 : St) => gi (fX8_cell p3 p4) 2406 <| some (σ7.1 52 0 (fX8_cell p3 p4).toNatClampNeg, σ7))) h w1 (w2 _) (fun σ1 h1 => w3 σ1 h1 _) (fun z => ?_)
  obtain ⟨u, t, s, a, b, C, T, hT, hb, rfl, hC0, hC, rfl, hp, hT4, rfl⟩ := w4 z
  obtain ⟨q, σ1, σ2, hq, e1, e2, c1, c2, c3, c4, c5, c6, c7⟩ := k_both h hT hp hC
  have hn := hT.1.n6
  have hb' : b < pN q := by rw [e1]; exact hb
  have hm := (c6.1 b hb' T (by omega)).2.1
  refine ⟨_, σ1, σ2, by rw [c1, bdS, c_sight hq c2 hb' hT4, bdS], c3, ?_, c7⟩
  rw [c4, bdS, cell8, gi_n (by omega) (by omega), cl (by omega), hm.1]
theorem act_taken (p1 p2 p3 p4 : Int32) : Act (fX7_taken p1 p2 p3 p4) (fX8_taken p1 p2 p3 p4) := by
  intro σ N h hN
  obtain ⟨w, w1, w2, w3, w4⟩ := pre_bt h p1 p2 p3 p4
  refine act_gate (Kc := (fun (σ10 : St) => bd (fX7_played p1 p2 σ10) fun _ (σ12 : St) => bd (fX1_believedAt p3 p4 σ12) fun (r14 : Int32) (σ13 : St) => some (r14, σ13))) (Km := (fun (σ5 : St) => bd (fX8_passes p1 p2 σ5) fun _ (σ7 : St) => gi (fX8_cell p3 p4) 2406 <| some (σ7.1 53 0 (fX8_cell p3 p4).toNatClampNeg, σ7))) h w1 (w2 _) (fun σ1 h1 => w3 σ1 h1 _) (fun z => ?_)
  obtain ⟨u, t, s, a, b, C, T, hT, hb, rfl, hC0, hC, rfl, hp, hT4, rfl⟩ := w4 z
  obtain ⟨q, σ1, σ2, hq, e1, e2, c1, c2, c3, c4, c5, c6, c7⟩ := k_both h hT hp hC
  have hn := hT.1.n6
  have hb' : b < pN q := by rw [e1]; exact hb
  have hm := (c6.1 b hb' T (by omega)).2.2.1
  refine ⟨_, σ1, σ2, by rw [c1, bdS, c_believed hq c2 hb' hT4, bdS], c3, ?_, c7⟩
  rw [c4, bdS, cell8, gi_n (by omega) (by omega), cl (by omega), hm.1]
theorem act_withdrawn (p1 p2 p3 p4 : Int32) : Act (fX7_withdrawn p1 p2 p3 p4) (fX8_withdrawn p1 p2 p3 p4) := by
  intro σ N h hN
  obtain ⟨w, w1, w2, w3, w4⟩ := pre_bt h p1 p2 p3 p4
  refine act_gate (Kc := (fun (σ10 : St) => bd (fX7_played p1 p2 σ10) fun _ (σ12 : St) => bd (fX1_yieldedAt p3 p4 σ12) fun (r14 : Int32) (σ13 : St) => some (r14, σ13))) (Km := (fun (σ5 : St) => bd (fX8_passes p1 p2 σ5) fun _ (σ7 : St) => gi (fX8_cell p3 p4) 2406 <| some (σ7.1 54 0 (fX8_cell p3 p4).toNatClampNeg, σ7))) h w1 (w2 _) (fun σ1 h1 => w3 σ1 h1 _) (fun z => ?_)
  obtain ⟨u, t, s, a, b, C, T, hT, hb, rfl, hC0, hC, rfl, hp, hT4, rfl⟩ := w4 z
  obtain ⟨q, σ1, σ2, hq, e1, e2, c1, c2, c3, c4, c5, c6, c7⟩ := k_both h hT hp hC
  have hn := hT.1.n6
  have hb' : b < pN q := by rw [e1]; exact hb
  have hm := (c6.1 b hb' T (by omega)).2.2.2
  refine ⟨_, σ1, σ2, by rw [c1, bdS, c_yielded hq c2 hb' hT4, bdS], c3, ?_, c7⟩
  rw [c4, bdS, cell8, gi_n (by omega) (by omega), cl (by omega), hm.1]
theorem act_winners (p1 p2 p3 : Int32) : Act (fX7_winners p1 p2 p3) (fX8_winners p1 p2 p3) := by
  intro σ N h hN
  obtain ⟨w, w1, w2, w3, w4⟩ := pre_t h p1 p2 p3 (fun r => if r = 0 then 0 else (if (fX7_isTick p3) = 0 then 0 else (nI 1))) (Or.inl (fun _ => rfl))
  refine act_gate (Kc := (fun (σ8 : St) => bd (fX7_played p1 p2 σ8) fun _ (σ10 : St) => bd (fX1_winnersAt p3 σ10) fun (r12 : Int32) (σ11 : St) => some (r12, σ11))) (Km := (fun (σ3 : St) => bd (fX8_passes p1 p2 σ3) fun _ (σ5 : St) => bd (fX8_winnersAt p3 σ5) fun (r7 : Int32) (σ6 : St) => some (r7, σ6))) h w1 (w2 _) (fun σ1 h1 => w3 σ1 h1 _) (fun z => ?_)
  obtain ⟨u, t, s, a, C, T, hT, hC0, hC, rfl, hp, hT4, hp4⟩ := w4 z
  obtain ⟨q, σ1, σ2, hq, e1, e2, c1, c2, c3, c4, c5, c6, c7⟩ := k_both h hT hp hC
  subst hp4
  refine ⟨_, σ1, σ2, by rw [c1, bdS, c_winners hq c2 hT4, bdS], c3, ?_, c7⟩
  rw [c4, bdS, m_winners hq c5 (Nat.le_refl _) c6 (by omega), bdS]
theorem act_faulty (p1 p2 p3 : Int32) : Act (fX7_faulty p1 p2 p3) (fX8_faulty p1 p2 p3) := by
  intro σ N h hN
  obtain ⟨w, w1, w2, w3, w4⟩ := pre_t h p1 p2 p3 (fun r => if r = 0 then 0 else (if (fX7_isTick p3) = 0 then 0 else (nI 1))) (Or.inl (fun _ => rfl))
  refine act_gate (Kc := (fun (σ8 : St) => bd (fX7_played p1 p2 σ8) fun _ (σ10 : St) => bd (fX1_isEvenAt p3 σ10) fun (r12 : Int32) (σ11 : St) => some (if r12 = 0 then 0 else (nI 1), σ11))) (Km := (fun (σ3 : St) => bd (fX8_passes p1 p2 σ3) fun _ (σ5 : St) => bd (fX8_isFaultyAt p3 σ5) fun (r7 : Int32) (σ6 : St) => some (if r7 = 0 then 0 else (nI 1), σ6))) h w1 (w2 _) (fun σ1 h1 => w3 σ1 h1 _) (fun z => ?_)
  obtain ⟨u, t, s, a, C, T, hT, hC0, hC, rfl, hp, hT4, hp4⟩ := w4 z
  obtain ⟨q, σ1, σ2, hq, e1, e2, c1, c2, c3, c4, c5, c6, c7⟩ := k_both h hT hp hC
  subst hp4
  refine ⟨_, σ1, σ2, by rw [c1, bdS, c_even hq c2 hT4, bdS], c3, ?_, c7⟩
  rw [c4, bdS, m_faulty hq c5 (Nat.le_refl _) c6 (by omega), bdS]
theorem act_settles (p1 p2 : Int32) : Act (fX7_settles p1 p2) (fX8_settles p1 p2) := by
  intro σ N h hN
  obtain ⟨w, w1, w2, w3, w4⟩ := pre_t h p1 p2 0 (fun r => r) (Or.inr ⟨rfl, fun _ => rfl⟩)
  refine act_gate (Kc := (fun (σ3 : St) => bd (fX7_played p1 p2 σ3) fun _ (σ5 : St) => some (σ5.1 1 0 15, σ5))) (Km := (fun (σ3 : St) => bd (fX8_passes p1 p2 σ3) fun _ (σ5 : St) => bd (fX8_settledAt σ5) fun (r7 : Int32) (σ6 : St) => some (r7, σ6))) h w1 (w2 _) (fun σ1 h1 => w3 σ1 h1 _) (fun z => ?_)
  obtain ⟨u, t, s, a, C, T, hT, hC0, hC, rfl, hp, hT4, hp4⟩ := w4 z
  obtain ⟨q, σ1, σ2, hq, e1, e2, c1, c2, c3, c4, c5, c6, c7⟩ := k_both h hT hp hC
  refine ⟨_, σ1, σ2, by rw [c1, bdS, (c_changed hq c2).1], c3, ?_, c7⟩
  rw [c4, bdS, m_settled hq c5 c6, bdS]
theorem act_sure (p1 p2 : Int32) : Act (fX7_sure p1 p2) (fX8_sure p1 p2) := by
  intro σ N h hN
  obtain ⟨w, w1, w2, w3, w4⟩ := pre_t h p1 p2 0 (fun r => r) (Or.inr ⟨rfl, fun _ => rfl⟩)
  refine act_gate (Kc := (fun (σ3 : St) => bd (fX7_played p1 p2 σ3) fun _ (σ5 : St) => bd (fX1_sureFrom σ5) fun (r7 : Int32) (σ6 : St) => some (r7, σ6))) (Km := (fun (σ3 : St) => bd (fX8_passes p1 p2 σ3) fun _ (σ5 : St) => bd (fX8_sureAt σ5) fun (r7 : Int32) (σ6 : St) => some (r7, σ6))) h w1 (w2 _) (fun σ1 h1 => w3 σ1 h1 _) (fun z => ?_)
  obtain ⟨u, t, s, a, C, T, hT, hC0, hC, rfl, hp, hT4, hp4⟩ := w4 z
  obtain ⟨q, σ1, σ2, hq, e1, e2, c1, c2, c3, c4, c5, c6, c7⟩ := k_both h hT hp hC
  refine ⟨_, σ1, σ2, by rw [c1, bdS, c_sure hq c2, bdS], c3, ?_, c7⟩
  rw [c4, bdS, m_sure hq c5 c6, bdS]
theorem act_dips (p1 p2 : Int32) : Act (fX7_dips p1 p2) (fX8_dips p1 p2) := by
  intro σ N h hN
  obtain ⟨w, w1, w2, w3, w4⟩ := pre_t h p1 p2 0 (fun r => r) (Or.inr ⟨rfl, fun _ => rfl⟩)
  refine act_gate (Kc := (fun (σ3 : St) => bd (fX7_played p1 p2 σ3) fun _ (σ5 : St) => some (σ5.1 1 0 16, σ5))) (Km := (fun (σ3 : St) => bd (fX8_passes p1 p2 σ3) fun _ (σ5 : St) => some (σ5.1 8 0 29, σ5))) h w1 (w2 _) (fun σ1 h1 => w3 σ1 h1 _) (fun z => ?_)
  obtain ⟨u, t, s, a, C, T, hT, hC0, hC, rfl, hp, hT4, hp4⟩ := w4 z
  obtain ⟨q, σ1, σ2, hq, e1, e2, c1, c2, c3, c4, c5, c6, c7⟩ := k_both h hT hp hC
  refine ⟨_, σ1, σ2, by rw [c1, bdS, (c_changed hq c2).2], c3, ?_, c7⟩
  rw [c4, bdS, c6.2.2]
theorem act_edges (p1 p2 p3 p4 : Int32) : Act (fX7_edges p1 p2 p3 p4) (fX8_edges p1 p2 p3 p4) := by
  intro σ N h hN
  have hP := h.2.2.2.1.1
  have hln : fX7_isBelow p4 (nI 6) = fX8_in p4 0 (nI 5) := by
    unfold fX7_isBelow fX8_in
    by_cases q : p4 < 0
    · rw [if_pos q, if_pos q]
    · obtain ⟨b, b1, rfl⟩ := nat_of q
      rw [if_neg q, if_neg q]
      by_cases q2 : 6 ≤ b
      · rw [if_pos (by rw [le_n (by omega) (by omega)]; exact q2), if_pos (by rw [lt_n (by omega) (by omega)]; omega)]
      · rw [if_neg (by rw [le_n (by omega) (by omega)]; exact q2), if_neg (by rw [lt_n (by omega) (by omega)]; omega)]
  have pre : ∃ w : Int32, (w = 0 ∨ w = nI 1 ∨ w = nI 2 ∨ w = nI 5) ∧
    (∀ K : St → Option (Int32 × St), (bd (fX7_hasBoard p3 σ) fun (r2 : Int32) (σ1 : St) => bd (fX7_isContest p1 p2 σ1) fun (r9 : Int32) (σ8 : St) => bd (fX7_accepts (if r2 = 0 then 0 else (if (fX7_isBelow p4 (nI 6)) = 0 then 0 else (nI 1))) r9 σ8) fun (r11 : Int32) (σ10 : St) => (if r11 = 0 then some ((-1), σ10) else K σ10)) = if w = 0 then K (cR σ 0) else some (-1, cR σ w)) ∧
    (∀ σ1, Sm8 σ σ1 → ∀ K : St → Option (Int32 × St), (bd (fX8_isBoard p3 σ1) fun (r2 : Int32) (σ1 : St) => bd (fX8_passWhy (if r2 = 0 then 0 else (if (fX8_in p4 0 (nI 5)) = 0 then 0 else (nI 1))) p1 p2 0 σ1) fun (r9 : Int32) (σ8 : St) => bd (fX8_isRefused r9 σ8) fun (r11 : Int32) (σ10 : St) => (if r11 = 0 then K σ10 else some ((-1), σ10))) = if w = 0 then K (mR σ1 0) else some (-1, mR σ1 w)) ∧
    (w = 0 → ∃ u t s a b C l, Told u σ t s a ∧ b < uN u ∧ p3 = nI b ∧ C ≠ 0 ∧ C < 2 ^ uN u ∧ p2 = nI C ∧ (p1 = nI 1 ∨ p1 = nI 2) ∧ l < 6 ∧ p4 = nI l) := by
    rw [hln]
    rcases h.2.2.2.2 with hN | ⟨b1, b2, u, t, s, a, t1, t2, hT, -⟩
    · obtain ⟨k1, k2⟩ := k_boardN hN p3
      obtain ⟨y, hy⟩ := c_contestN hP p1 p2
      refine ⟨nI 1, Or.inr (Or.inl rfl), fun K => ?_, fun σ1 h1 K => ?_, fun z => absurd z (by decide)⟩
      · rw [k1, bdS, hy, bdS]
        exact c_gate (by rw [if_pos rfl, if_pos rfl])
      · rw [k2 σ1 h1, bdS, m_why0 (Or.inr (by rw [if_pos rfl])), bdS]
        exact m_gate
    · rcases k_board b1 b2 hT p3 with ⟨b, e1, e2, e3, e4⟩ | ⟨e3, e4⟩
      · by_cases q : fX8_in p4 0 (nI 5) = 0
        · obtain ⟨y, hy⟩ := c_contestN hP p1 p2
          refine ⟨nI 1, Or.inr (Or.inl rfl), fun K => ?_, fun σ1 h1 K => ?_, fun z => absurd z (by decide)⟩
          · rw [e3, bdS, hy, bdS, if_neg (show ¬ nI 1 = 0 by decide), if_pos q]
            exact c_gate (by rw [if_pos rfl])
          · rw [e4 σ1 h1, bdS, m_why0 (Or.inr (by rw [if_neg (by decide), if_pos q])), bdS]
            exact m_gate
        · have hl : ∃ l, l < 6 ∧ p4 = nI l := by
            unfold fX8_in at q
            by_cases z : p4 < 0
            · rw [if_pos z] at q; exact absurd rfl q
            · obtain ⟨b, b1, rfl⟩ := nat_of z
              rw [if_neg z] at q
              by_cases z2 : nI 5 < nI b
              · rw [if_pos z2] at q; exact absurd rfl q
              · rw [lt_n (by omega) (by omega)] at z2
                exact ⟨b, by omega, rfl⟩
          obtain ⟨l, l1, l2⟩ := hl
          rcases k_contest b2 hT p1 p2 with ⟨C, c1, c2, c3, c4, c5, c6⟩ | ⟨c5, c6⟩
          · refine ⟨0, Or.inl rfl, fun K => ?_, fun σ1 h1 K => ?_, fun _ => ⟨u, t, s, a, b, C, l, hT, e1, e2, c1, c2, c3, c4, l1, l2⟩⟩
            · rw [e3, bdS, c5, bdS, if_neg (show ¬ nI 1 = 0 by decide), if_neg q]
              exact c_gate (by rw [if_neg (by decide), if_neg (by decide)])
            · rw [e4 σ1 h1, bdS, if_neg (show ¬ nI 1 = 0 by decide), if_neg q, c6 σ1 h1 0 _ (by decide), bdS, if_neg tick0]
              exact m_gate
          · refine ⟨nI 2, Or.inr (Or.inr (Or.inl rfl)), fun K => ?_, fun σ1 h1 K => ?_, fun z => absurd z (by decide)⟩
            · rw [e3, bdS, c5, bdS, if_neg (show ¬ nI 1 = 0 by decide), if_neg q]
              exact c_gate (by rw [if_neg (by decide), if_pos rfl])
            · rw [e4 σ1 h1, bdS, if_neg (show ¬ nI 1 = 0 by decide), if_neg q, c6 σ1 h1 0 _ (by decide), bdS]
              exact m_gate
      · obtain ⟨y, hy⟩ := c_contestN hP p1 p2
        refine ⟨nI 1, Or.inr (Or.inl rfl), fun K => ?_, fun σ1 h1 K => ?_, fun z => absurd z (by decide)⟩
        · rw [e3, bdS, hy, bdS]
          exact c_gate (by rw [if_pos rfl, if_pos rfl])
        · rw [e4 σ1 h1, bdS, m_why0 (Or.inr (by rw [if_pos rfl])), bdS]
          exact m_gate
  obtain ⟨w, w1, w2, w3, w4⟩ := pre
  refine act_gate (Kc := (fun (σ10 : St) => bd (fX7_played p1 p2 σ10) fun _ (σ12 : St) => bd (fX1_edgesOf p3 p4 σ12) fun (r14 : Int32) (σ13 : St) => some (r14, σ13))) (Km := (fun (σ10 : St) => bd (fX8_passes p1 p2 σ10) fun _ (σ12 : St) => (LX8_edges_51 p3 p4 (fun (x17 : Int32) (σ18 : St) => some (x17, σ18)) FU 0 (nI 1) σ12))) h w1 (w2 _) (fun σ1 h1 => w3 σ1 h1 _) (fun z => ?_)
  obtain ⟨u, t, s, a, b, C, l, hT, hb, rfl, hC0, hC, rfl, hp, hl, rfl⟩ := w4 z
  obtain ⟨q, σ1, σ2, hq, e1, e2, c1, c2, c3, c4, c5, c6, c7⟩ := k_both h hT hp hC
  have hb' : b < pN q := by rw [e1]; exact hb
  refine ⟨_, σ1, σ2, by rw [c1, bdS, c_edges hq c2 hb' hl, bdS], c3, ?_, c7⟩
  rw [c4, bdS, m_edgesL hq c6 hb' hl]
