/-! ===== a tick, on both sides ===== -/
theorem TS.up {u : BU} {σ σm : St} {k t p s s' a : Nat} (h : TS u σ k σm t p s a) (hs : s ≤ s') : TS u σ k σm t p s' a := ⟨h.1.up hs, h.2⟩
/-- the model's tick in pieces -/
def mtE (σ11 : St) : Option (Unit × St) := gi 0 251 <| gi (nI 1) 251 <| gi ((nI 187) + ((σ11.1 47 0 (0 : Int32).toNatClampNeg) - (σ11.1 47 0 (0 : Int32).toNatClampNeg) / (nI 64) * (nI 64))) 251 <| lt (wI σ11 47 0 ((nI 187) + ((σ11.1 47 0 (0 : Int32).toNatClampNeg) - (σ11.1 47 0 (0 : Int32).toNatClampNeg) / (nI 64) * (nI 64))).toNatClampNeg (σ11.1 47 0 (nI 1).toNatClampNeg)) fun (σ12 : St) => some ((), σ12)
def mtD (σ10 : St) : Option (Unit × St) := gi (nI 1) 251 <| (jn (fun σ11 => mtE σ11) fun j246 => if (σ10.1 47 0 (nI 1).toNatClampNeg) = (-2) then j246 σ10 else gi (nI 1) 251 <| gi (fX8_at (σ10.1 47 0 (nI 1).toNatClampNeg) (nI 7)) 251 <| gi (fX8_at (σ10.1 47 0 (nI 1).toNatClampNeg) (nI 7)) 251 <| lt (wI σ10 47 0 (fX8_at (σ10.1 47 0 (nI 1).toNatClampNeg) (nI 7)).toNatClampNeg ((σ10.1 47 0 (fX8_at (σ10.1 47 0 (nI 1).toNatClampNeg) (nI 7)).toNatClampNeg) + (nI 1))) fun (σ13 : St) => j246 σ13)
noncomputable def mtC (σ9 : St) : Option (Unit × St) := gi (nI 4) 251 <| (jn (fun σ10 => mtD σ10) fun j215 => if (σ9.1 47 0 (nI 4).toNatClampNeg) = (-2) then bd (fX8_isCalledFor σ9) fun (r15 : Int32) (σ14 : St) => (if r15 = 0 then j215 σ14 else bd (fX8_beginsArbitration σ14) fun _ (σ16 : St) => j215 σ16) else j215 σ9)
noncomputable def mtB (σ8 : St) : Option (Unit × St) := gi (nI 1) 251 <| (jn (fun σ9 => mtC σ9) fun j193 => if (σ8.1 47 0 (nI 1).toNatClampNeg) = (-2) then gi (nI 3) 251 <| (if (σ8.1 47 0 (nI 3).toNatClampNeg) = (-2) then j193 σ8 else gi (nI 4) 251 <| (if (σ8.1 47 0 (nI 4).toNatClampNeg) = (-2) then bd (fX8_becomesMaster σ8) fun _ (σ17 : St) => j193 σ17 else j193 σ8)) else j193 σ8)
noncomputable def mtA (σ7 : St) : Option (Unit × St) := gi (nI 4) 251 <| gi 0 251 <| (jn (fun σ8 => mtB σ8) fun j156 => if (σ7.1 47 0 (nI 4).toNatClampNeg) = (σ7.1 47 0 (0 : Int32).toNatClampNeg) then bd (fX8_endsArbitration σ7) fun _ (σ18 : St) => j156 σ18 else j156 σ7)
noncomputable def mt0 (σ6 : St) : Option (Unit × St) := gi (nI 1) 251 <| (jn (fun σ7 => mtA σ7) fun j137 => if (σ6.1 47 0 (nI 1).toNatClampNeg) = (-2) then j137 σ6 else gi (nI 2) 251 <| gi 0 251 <| (if (σ6.1 47 0 (nI 2).toNatClampNeg) = (σ6.1 47 0 (0 : Int32).toNatClampNeg) then gi (nI 1) 251 <| lt (wI σ6 47 0 (nI 1).toNatClampNeg (-2)) fun (σ19 : St) => gi (nI 2) 251 <| lt (wI σ19 47 0 (nI 2).toNatClampNeg (-2)) fun (σ20 : St) => j137 σ20 else j137 σ6))
theorem mt_eq (σ : St) : fX8_tick σ = (gi 0 251 <| gi 0 251 <| lt (wI σ 47 0 (0 : Int32).toNatClampNeg ((σ.1 47 0 (0 : Int32).toNatClampNeg) + (nI 1))) fun (σ1 : St) => LX8_tick_10 mt0 FU σ1) := rfl
noncomputable def ctD (k0 : Nat) (σ5 : St) : Option (Unit × St) := (jn (fun (σ6 : St) => bd (fX5_endTick k0 (σ6.1 4 k0 2) (σ6.1 4 k0 3) σ6) fun _ (σ7 : St) => some ((), σ7)) fun j104 => if (σ5.1 4 k0 6) = (-2) then bd (fX4_isContested k0 σ5) fun (r9 : Int32) (σ8 : St) => (if r9 = 0 then j104 σ8 else bd (fX4_begin k0 σ8) fun _ (σ10 : St) => j104 σ10) else j104 σ5)
noncomputable def ctC (k0 : Nat) (σ4 : St) : Option (Unit × St) := (jn (fun σ5 => ctD k0 σ5) fun j84 => if (σ4.1 4 k0 6) = (-2) then (if (σ4.1 4 k0 3) = (-2) then (if (σ4.1 4 k0 5) = (-2) then j84 σ4 else bd (fX4_handOver k0 σ4) fun _ (σ11 : St) => j84 σ11) else j84 σ4) else j84 σ4)
noncomputable def ctB (k0 : Nat) (σ3 : St) : Option (Unit × St) := (jn (fun σ4 => ctC k0 σ4) fun j53 => if (σ3.1 4 k0 2) = (σ3.1 4 k0 6) then bd (fX4_finish k0 σ3) fun _ (σ12 : St) => j53 σ12 else j53 σ3)
theorem ct_eq (k0 : Nat) (σ : St) : fX4_tick k0 σ = (lt (wI σ 4 k0 2 ((σ.1 4 k0 2) + (nI 1))) fun (σ1 : St) => bd (fX4_hearTold k0 σ1) fun _ (σ2 : St) => (jn (fun σ3 => ctB k0 σ3) fun j37 => if (σ2.1 4 k0 2) = (σ2.1 4 k0 4) then lt (wI σ2 4 k0 3 (-2)) fun (σ13 : St) => lt (wI σ13 4 k0 4 (-2)) fun (σ14 : St) => j37 σ14 else j37 σ2)) := rfl
theorem s_tick {u : BU} {σ σm : St} {k t s a : Nat} (hu : UOk u) (ht : t < 100000000) (hs : s < 100000000) (h : TS u σ k σm t t s a) (ha : AOk u t a) :
    ∃ σ' σm' a', fX4_tick k σ = some ((), σ') ∧ fX8_tick σm = some ((), σm') ∧ TS u σ' k σm' (t + 1) (t + 1) (s + 2) a' ∧ AOk u (t + 1) a' ∧ M8 σm σm' := by
  have hn := hu.n6
  have hT := s_time hu h
  have e1 : σ.1 4 k 2 + nI 1 = nI (t + 1) := by
    obtain ⟨⟨d, h0, h1, -⟩, -⟩ := h
    rw [h1.1.1, add_n]
  have e2 : σm.1 47 0 0 + nI 1 = nI (t + 1) := by
    obtain ⟨⟨d, h0, h1, -⟩, -⟩ := h
    rw [h1.1.2, add_n]
  have hM0 : M8 σm (wI σm 47 0 0 (nI (t + 1))) := M8.rf.w
  rw [ct_eq, mt_eq]
  rw [gi_0 (by omega), gi_0 (by omega), sb_cl0, e1, e2, ltD, ltD]
  generalize wI σ 4 k 2 (nI (t + 1)) = τ1 at hT
  generalize wI σm 47 0 0 (nI (t + 1)) = μ1 at hT hM0
  obtain ⟨τ2, μ2, a', T2, A2, M2, b1, b2⟩ := s_told hu (by omega) hT ha mt0
  rw [b1, b2, bdS]
  obtain ⟨τ3, μ3, T3, M3, b3, b4⟩ := s_master hu (by omega) T2
  have mA : mt0 μ2 = mtA μ3 := by
    unfold mt0
    rw [gi_n (by omega) (by omega), jnD]
    exact b4 (fun σ7 => mtA σ7)
  rw [mA, jnD, b3 (fun σ3 => ctB k σ3)]
  -- through
  have hF : ∃ τ4 μ4, TS u τ4 k μ4 (t + 1) t (s + 1) a' ∧ M8 μ3 μ4 ∧ (∀ j53 : St → Option (Unit × St), (if (τ3.1 4 k 2) = (τ3.1 4 k 6) then bd (fX4_finish k τ3) fun _ (σ12 : St) => j53 σ12 else j53 τ3) = j53 τ4) ∧ ∀ j156 : St → Option (Unit × St), (if (μ3.1 47 0 (nI 4).toNatClampNeg) = (μ3.1 47 0 (0 : Int32).toNatClampNeg) then bd (fX8_endsArbitration μ3) fun _ (σ18 : St) => j156 σ18 else j156 μ3) = j156 μ4 := by
    have T3' := T3
    obtain ⟨⟨d, h0, ⟨⟨t1, t2⟩, -, -, -, g4, -⟩, -⟩, -⟩ := T3
    rw [cl (show 4 < 2147483648 by omega), sb_cl0, t1, t2, g4]
    by_cases q : μ3.1 47 0 4 = nI (t + 1)
    · obtain ⟨τ4, μ4, f1, f2, f3, f4⟩ := s_finish hu (by omega) (by omega) T3' (by rw [q, ne_eq, nm2 (by omega)]; exact id)
      refine ⟨τ4, μ4, f3, f4, fun j => ?_, fun j => ?_⟩
      · rw [if_pos q.symm, f1, bdS]
      · rw [if_pos q, f2, bdS]
    · exact ⟨τ3, μ3, T3'.up (by omega), M8.rf, fun j => if_neg (fun z => q z.symm), fun j => if_neg q⟩
  obtain ⟨τ4, μ4, T4, M4, b5, b6⟩ := hF
  have mB : mtA μ3 = mtB μ4 := by
    unfold mtA
    rw [gi_n (by omega) (by omega), gi_0 (by omega), jnD]
    exact b6 (fun σ8 => mtB σ8)
  have cB : ctB k τ3 = ctC k τ4 := by
    unfold ctB
    rw [jnD]
    exact b5 (fun σ4 => ctC k σ4)
  rw [mB, cB]
  -- master
  have hH : ∃ τ5 μ5, TS u τ5 k μ5 (t + 1) t (s + 2) a' ∧ M8 μ4 μ5 ∧ (∀ j84 : St → Option (Unit × St), (if (τ4.1 4 k 6) = (-2) then (if (τ4.1 4 k 3) = (-2) then (if (τ4.1 4 k 5) = (-2) then j84 τ4 else bd (fX4_handOver k τ4) fun _ (σ11 : St) => j84 σ11) else j84 τ4) else j84 τ4) = j84 τ5) ∧ ∀ j193 : St → Option (Unit × St), (if (μ4.1 47 0 (nI 1).toNatClampNeg) = (-2) then gi (nI 3) 251 <| (if (μ4.1 47 0 (nI 3).toNatClampNeg) = (-2) then j193 μ4 else gi (nI 4) 251 <| (if (μ4.1 47 0 (nI 4).toNatClampNeg) = (-2) then bd (fX8_becomesMaster μ4) fun _ (σ17 : St) => j193 σ17 else j193 μ4)) else j193 μ4) = j193 μ5 := by
    have T4' := T4
    obtain ⟨⟨d, h0, ⟨⟨t1, t2⟩, ⟨m1, m2⟩, -, ⟨e1, e2⟩, g4, -⟩, -⟩, -⟩ := T4
    simp (disch := omega) only [gi_n, cl, m1, e1, g4]
    by_cases q1 : μ4.1 47 0 1 = -2
    · by_cases q4 : μ4.1 47 0 4 = -2
      · by_cases q3 : μ4.1 47 0 3 = -2
        · exact ⟨τ4, μ4, T4'.up (by omega), M8.rf, fun j => by rw [if_pos q4, if_pos q1, if_pos q3], fun j => by rw [if_pos q1, if_pos q3]⟩
        · obtain ⟨o, o1, o2⟩ := e2
          cases o with
          | none => exact absurd o1 q3
          | some b =>
            obtain ⟨τ5, μ5, f1, f2, f3, f4⟩ := s_hand hu (by omega) (by omega) T4' (o2 b rfl) o1
            exact ⟨τ5, μ5, f3, f4, fun j => by rw [if_pos q4, if_pos q1, if_neg q3, f1, bdS], fun j => by rw [if_pos q1, if_neg q3, if_pos q4, f2, bdS]⟩
      · refine ⟨τ4, μ4, T4'.up (by omega), M8.rf, fun j => by rw [if_neg q4], fun j => ?_⟩
        rw [if_pos q1]
        by_cases q3 : μ4.1 47 0 3 = -2
        · rw [if_pos q3]
        · rw [if_neg q3, if_neg q4]
    · refine ⟨τ4, μ4, T4'.up (by omega), M8.rf, fun j => ?_, fun j => by rw [if_neg q1]⟩
      by_cases q4 : μ4.1 47 0 4 = -2
      · rw [if_pos q4, if_neg q1]
      · rw [if_neg q4]
  obtain ⟨τ5, μ5, T5, M5, b7, b8⟩ := hH
  have mC : mtB μ4 = mtC μ5 := by
    unfold mtB
    rw [gi_n (by omega) (by omega), jnD]
    exact b8 (fun σ9 => mtC σ9)
  have cC : ctC k τ4 = ctD k τ5 := by
    unfold ctC
    rw [jnD]
    exact b7 (fun σ5 => ctD k σ5)
  rw [mC, cC]
  -- begins
  have hG : ∃ τ6 μ6, TS u τ6 k μ6 (t + 1) t (s + 2) a' ∧ M8 μ5 μ6 ∧ (∀ j104 : St → Option (Unit × St), (if (τ5.1 4 k 6) = (-2) then bd (fX4_isContested k τ5) fun (r9 : Int32) (σ8 : St) => (if r9 = 0 then j104 σ8 else bd (fX4_begin k σ8) fun _ (σ10 : St) => j104 σ10) else j104 τ5) = j104 τ6) ∧ ∀ j215 : St → Option (Unit × St), (if (μ5.1 47 0 (nI 4).toNatClampNeg) = (-2) then bd (fX8_isCalledFor μ5) fun (r15 : Int32) (σ14 : St) => (if r15 = 0 then j215 σ14 else bd (fX8_beginsArbitration σ14) fun _ (σ16 : St) => j215 σ16) else j215 μ5) = j215 μ6 := by
    have T5' := T5
    obtain ⟨⟨d, h0, ⟨⟨t1, t2⟩, ⟨m1, m2⟩, -, ⟨e1, e2⟩, g4, -⟩, -⟩, -⟩ := T5
    simp (disch := omega) only [cl, g4]
    by_cases q4 : μ5.1 47 0 4 = -2
    · obtain ⟨x, x1, x2, x3⟩ := s_called hu (by omega) T5'
      rcases x3 with rfl | ⟨rfl, ak, k1, k2⟩
      · exact ⟨τ5, μ5, T5', M8.rf, fun j => by rw [if_pos q4, x1, bdS, if_pos rfl], fun j => by rw [if_pos q4, x2, bdS, if_pos rfl]⟩
      · obtain ⟨τ6, μ6, f1, f2, f3, f4⟩ := s_begin hu (by omega) T5' k1 k2
        exact ⟨τ6, μ6, f3, f4, fun j => by rw [if_pos q4, x1, bdS, if_neg (by decide), f1, bdS], fun j => by rw [if_pos q4, x2, bdS, if_neg (by decide), f2, bdS]⟩
    · exact ⟨τ5, μ5, T5', M8.rf, fun j => by rw [if_neg q4], fun j => by rw [if_neg q4]⟩
  obtain ⟨τ6, μ6, T6, M6, b9, b10⟩ := hG
  have mD : mtC μ5 = mtD μ6 := by
    unfold mtC
    rw [gi_n (by omega) (by omega), jnD]
    exact b10 (fun σ10 => mtD σ10)
  have cD : ctD k τ5 = bd (fX5_endTick k (τ6.1 4 k 2) (τ6.1 4 k 3) τ6) fun _ (σ7 : St) => some ((), σ7) := by
    unfold ctD
    rw [jnD]
    exact b9 (fun (σ6 : St) => bd (fX5_endTick k (σ6.1 4 k 2) (σ6.1 4 k 3) σ6) fun _ (σ7 : St) => some ((), σ7))
  rw [mD, cD]
  obtain ⟨τ7, μ7, f1, f2, f3, f4⟩ := s_end hu (by omega) T6 rfl
  have mE : mtD μ6 = some ((), μ7) := by
    unfold mtD
    rw [gi_n (by omega) (by omega)]
    exact f2
  rw [mE, f1, bdS]
  exact ⟨τ7, μ7, a', rfl, rfl, f3, A2, ((((hM0.tr M2).tr M3).tr M4).tr M5).tr (M6.tr f4)⟩
/-- what ticks may write, in the class, in the model -/
abbrev SCt (k0 : Nat) : List (Nat × Nat × Nat) := [(4, k0, k0 + 1), (38, 6 * k0, 6 * k0 + 6), (34, k0, k0 + 1), (35, k0, k0 + 1), (41, k0, k0 + 1), (31, k0, k0 + 1), (32, k0, k0 + 1), (1, 0, 1), (12, 0, 6), (10, 0, 1), (22, 0, 6), (14, 0, 6), (16, 0, 6), (18, 0, 6), (20, 0, 6), (0, 0, 1), (40, 16 * k0, 16 * k0 + 16), (5, k0, k0 + 1)]
abbrev SMt : List (Nat × Nat × Nat) := [(47, 0, 1), (8, 0, 1), (50, 0, 1), (55, 0, 1), (51, 0, 1), (52, 0, 1), (53, 0, 1), (54, 0, 1)]
/-- n ticks -/
theorem s_ticks {u : BU} {k : Nat} (hu : UOk u) (N : Nat) : ∀ (i : Nat) (σ σm : St) (t s a : Nat), t + i < 100000000 → s + 2 * i < 100000000 → TS u σ k σm t t s a → AOk u t a → ∃ σ' σm' a', TS u σ' k σm' (t + i) (t + i) (s + 2 * i) a' ∧ AOk u (t + i) a' ∧ M8 σm σm' ∧ Kp (SCt k) σ σ' ∧ Kp SMt σm σm' ∧ (∀ (m j : Nat) (ke : St → Option (Unit × St)), j + i = N → N < 90000 → LX4_advance_2 k (nI N) ke (m + i) (nI j) σ = LX4_advance_2 k (nI N) ke m (nI N) σ') ∧ (∀ (m j : Nat) (ke : St → Option (Int32 × St)), j + i = N → N < 90000 → LX8_ticks_38 (nI N) ke (m + i) (nI j) σm = LX8_ticks_38 (nI N) ke m (nI N) σm') ∧ ∀ (m j : Nat) (a2 : Int32) (ke : St → Option (Int32 × St)), j + i = N → N < 90000 → LX8_will_52 (nI N) a2 ke (m + i) (nI j) σm = LX8_will_52 (nI N) a2 ke m (nI N) σm' := by
  intro i
  induction i with
  | zero =>
    intro σ σm t s a _ _ h ha
    refine ⟨σ, σm, a, h, ha, M8.rf, kp_rf, kp_rf, fun m j ke hj _ => ?_, fun m j ke hj _ => ?_, fun m j a2 ke hj _ => ?_⟩
    all_goals
      rw [Nat.add_zero] at hj
      rw [hj]
      rfl
  | succ i ih =>
    intro σ σm t s a ht hs h ha
    obtain ⟨σ1, σm1, a1, f1, f2, f3, f4, f5⟩ := s_tick hu (by omega) (by omega) h ha
    obtain ⟨σ2, σm2, a2, g1, g2, g3, kc, km, g4, g5, g6⟩ := ih σ1 σm1 (t + 1) (s + 2) a1 (by omega) (by omega) f3 f4
    rw [show t + 1 + i = t + (i + 1) by omega, show s + 2 + 2 * i = s + 2 * (i + 1) by omega] at g1
    rw [show t + 1 + i = t + (i + 1) by omega] at g2
    refine ⟨σ2, σm2, a2, g1, g2, f5.tr g3, (fr_fX4_tick k σ _ _ f1 : Kp (SCt k) σ σ1).tr kc (fun e he => he), (fr_fX8_tick σm _ _ f2 : Kp SMt σm σm1).tr km (fun e he => he), fun m j ke hj hN => ?_, fun m j ke hj hN => ?_, fun m j a2 ke hj hN => ?_⟩
    · rw [← Nat.add_assoc, LX4_advance_2, if_neg (by rw [le_n (by omega) (by omega)]; omega), f1, bdS, add_n]
      exact g4 m (j + 1) ke (by omega) hN
    · rw [← Nat.add_assoc, LX8_ticks_38, if_neg (by rw [le_n (by omega) (by omega)]; omega), f2, bdS, add_n]
      exact g5 m (j + 1) ke (by omega) hN
    · rw [← Nat.add_assoc, LX8_will_52, if_neg (by rw [le_n (by omega) (by omega)]; omega), f2, bdS, add_n]
      exact g6 m (j + 1) a2 ke (by omega) hN
