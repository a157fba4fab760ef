/-! ===== the line of a board ===== -/
def up (f : Nat → Nat) (k v : Nat) (j : Nat) : Nat := if j = k then v else f j
theorem up_e {f : Nat → Nat} {k v : Nat} : up f k v k = v := if_pos rfl
theorem up_o {f : Nat → Nat} {k v j : Nat} (h : j < k) : up f k v j = f j := if_neg (by omega)
def upW (f : Nat → List Nat) (k : Nat) (v : List Nat) (j : Nat) : List Nat := if j = k then v else f j
theorem upW_e {f : Nat → List Nat} {k : Nat} {v : List Nat} : upW f k v k = v := if_pos rfl
theorem upW_o {f : Nat → List Nat} {k : Nat} {v : List Nat} {j : Nat} (h : j < k) : upW f k v j = f j := if_neg (by omega)
theorem wLk {σ : St} {a b j x y : Nat} {v : Int64} (h : ¬ (x = a ∧ y = b)) : (wL σ a b j v).2.1 x y = σ.2.1 x y := if_neg h
theorem wLe {σ : St} {a b j : Nat} {v : Int64} : (wL σ a b j v).2.1 a b j = v := by
  show (if a = a ∧ b = b then vp_updL (σ.2.1 a b) j v else σ.2.1 a b) j = v
  rw [if_pos ⟨rfl, rfl⟩, vp_updL, if_pos rfl]
theorem wLo {σ : St} {a b j z : Nat} {v : Int64} (h : ¬ z = j) : (wL σ a b j v).2.1 a b z = σ.2.1 a b z := by
  show (if a = a ∧ b = b then vp_updL (σ.2.1 a b) j v else σ.2.1 a b) z = _
  rw [if_pos ⟨rfl, rfl⟩, vp_updL, if_neg h]
theorem FM.wl {σ σ' : St} (h : FM σ σ') {j : Nat} {v : Int64} : FM σ (wL σ' 46 0 j v) := ⟨h.1, h.2.1, h.2.2.1, fun x y z => (wLk z).trans (h.2.2.2 x y z)⟩
def uBrd (u : BU) (s c r : Nat) : BU := ((uN u + 1, uG u, uF u, uW u, uA u), up (uS u) (uN u) s, up (uC u) (uN u) c, up (uR u) (uN u) r, u.2.2.2.2)
theorem c_add {σ : St} {P nb x s c r : Nat} (h3 : σ.1 2 P 3 = nI nb) (hn : nb < 6) (hc : c < 32) : fX2_addBoard P (nI x) (nI s) (nI c) (nI r) σ = some ((), wI (wI (wI (wI (wI (wI σ 23 P nb (nI x)) 24 P nb (nI s)) 25 P nb (nI c)) 26 P nb (nI r)) 27 P nb (nI (oddN (2 * c)))) 2 P 3 (nI (nb + 1))) := by
  unfold fX2_addBoard
  rw [h3, if_neg (by rw [le_n (by omega) (by omega)]; omega), gi_n (by omega) (by omega), ltD, cl (by omega), wIj (by omega), h3, gi_n (by omega) (by omega), ltD, cl (by omega), wIj (by omega), wIj (by omega), h3, gi_n (by omega) (by omega), ltD, cl (by omega), wIj (by omega), wIj (by omega), wIj (by omega), h3, gi_n (by omega) (by omega), ltD, cl (by omega), shl_n (by omega) (by omega), Nat.shiftLeft_eq, c_odd _ (by omega) (by omega), bdS, wIj (by omega), wIj (by omega), wIj (by omega), wIj (by omega), h3, gi_n (by omega) (by omega), ltD, cl (by omega), ltD, wIj (by omega), wIj (by omega), wIj (by omega), wIj (by omega), wIj (by omega), h3, add_n, Nat.pow_one, Nat.mul_comm c 2]
theorem SY.cw {σ σm : St} {x P j : Nat} {v : Int32} {T : Nat → Nat} {n p : Nat} (hx : 23 ≤ x ∧ x ≤ 30) (h : SY σ σm T n p) : SY (wI σ x P j v) σm T n p := by
  refine ⟨?_, h.2.1, h.2.2.1, (wIj (by omega)).trans h.2.2.2.1, (wIj (by omega)).trans h.2.2.2.2.1, h.2.2.2.2.2⟩
  unfold CX
  rw [wIc (by omega), wIc (by omega)]
  exact h.1
theorem SY.mw {σ σm : St} {j : Nat} {v : Int32} {T : Nat → Nat} {n p : Nat} (h : SY σ σm T n p) : SY σ (wI σm 45 0 j v) T n p := by
  refine ⟨h.1, ?_, h.2.2.1, h.2.2.2.1, h.2.2.2.2.1, ?_⟩
  · unfold MX
    rw [wIj (by omega), wIc (by omega)]
    exact h.2.1
  · unfold MK
    rw [wIj (by omega), wIj (by omega), wIj (by omega), wIj (by omega)]
    exact h.2.2.2.2.2
theorem PM.wl {σ : St} {u : BU} {hd : Nat} {Ws : Nat → List Nat} {v : Int64} (h : PM σ u hd Ws) : PM (wL σ 46 0 (uN u) v) u hd Ws := by
  obtain ⟨h1, h2, h3, h4⟩ := h
  exact ⟨h1, h2, fun b hb => ⟨(h3 b hb).1, by rw [wLo (by omega)]; exact (h3 b hb).2⟩, h4⟩
theorem l_board {P : Nat} {σ0 σm0 σ σm : St} {T : Nat → Nat} {n p : Nat} {u : BU} {Ws : Nat → List Nat} (h : LN P σ0 σm0 σ σm T n p u 1 Ws) (hb6 : uN u < 6) (hw : wdB T n (tkQ T n p) 4 = true) (σ1 : St) (f1 : F3 σ σ1) (s1 : SK σ1 σm T n (tkQ T n p)) :
    Fl P σ0 σm0 (fX3_readBoard σ1) (fX8_readBoard σm) ∨ ∃ σ' σm' p' u' Ws', fX3_readBoard σ1 = some (nI 1, σ') ∧ fX8_readBoard σm = some (nI 1, σm') ∧ LN P σ0 σm0 σ' σm' T n p' u' 1 Ws' ∧ p < p' := by
  obtain ⟨hSY, hPC, hPM, hUP, hHd, hWO, hT, hP6, hFC, hFM⟩ := h
  have hT1 : σ1.2.2 3 0 3 = P := by rw [f1.2.1]; exact hT.1
  obtain ⟨σm1, y1, y2, y3⟩ := sk_go s1
  have hadv : p < tkE T n (tkQ T n p) := by
    have b1 := tkQ_ge T n p
    have b2 := tk_adv (T := T) (n := n) (q := tkQ T n p) (by rw [wdB_1 hw]; omega)
    omega
  have hPM1 := hPM.f8 y2
  have hPC1 := hPC.f3 f1
  have hbeg : fX8_begins (nI 1) σm = some (nI 1, σm1) := by
    unfold fX8_begins
    rw [if_neg (by decide), hPM.1.2.2, if_neg (by decide), y1, bdS]
  unfold fX3_readBoard fX8_readBoard
  simp only [jnD]
  rw [gi_n (by omega) (by omega), ltD, cl (by omega), hPM.1.1, if_neg (by rw [le_n (by omega) (by omega)]; omega), hbeg, bdS, if_neg (show ¬ nI 1 = 0 by decide)]
  have c1 := hFC.tr f1.fc
  have m1 := hFM.tr y2.fm
  rcases k_name y3 c1 m1 with ⟨g1, r, g2, g3⟩ | ⟨σ2, g1, g2, g3, g4, g5⟩
  · left
    rw [g1, bdS, if_pos rfl, g2, bdS, if_pos rfl]
    obtain ⟨σf, σmf, x1, x2, x3⟩ := g3.s
    obtain ⟨k, q, x3⟩ := x3
    rw [x2, bdS, rz_0]
    cases x1
    exact ⟨r, σmf, k, q, rfl, rfl, x3⟩
  have hPC2 := hPC1.f3 g2
  have c2 := c1.tr g2.fc
  have t2 : σ2.2.2 3 0 3 = P := by rw [g2.2.1]; exact hT1
  have eC := c_here (Ws := Ws) g3.2.2.2.2.1 g4 hPC2.1.1 (by omega) hWO (fun b hb => (hPC2.2.2.1 b hb).2)
  have eM := m_here (Ws := Ws) g3.2.1 g3.2.2.2.2.2 g4 hPM1.1.1 (by omega) hWO (fun b hb => (hPM1.2.2.1 b hb).2)
  have eS := m_spelt g3.2.1 g3.2.2.2.2.2 g4
  have e8 := g3.2.2.2.2.1.2.2.2.1 g4
  obtain ⟨w1, w2, w3, w4, w5⟩ := tk_word g4
  have hWt := wr_lt _ w5
  have hWl : (wr T (tkQ T n (tkE T n (tkQ T n p))) (tkE T n (tkQ T n (tkE T n (tkQ T n p))) - tkQ T n (tkE T n (tkQ T n p)))).length ≤ 6 := by rw [wr_len]; exact w4
  rw [g5, bdS, if_neg (show ¬ nI 1 = 0 by decide), eM, bdS, g1, bdS, if_neg (show ¬ nI 1 = 0 by decide), ltD, t2, gd_t hP6, eC, bdS]
  generalize wr T (tkQ T n (tkE T n (tkQ T n p))) (tkE T n (tkQ T n (tkE T n (tkQ T n p))) - tkQ T n (tkE T n (tkQ T n p))) = W at eS e8 hWt hWl
  cases hF : fsN (hasW Ws W) (uN u) with
  | some b =>
    left
    have := ov_ne (by omega) hF
    rw [hF] at this
    rw [if_neg this, if_neg this, c_fail, bdS, rz_0, m_fail, bdS, rz_0]
    exact sk_fail g3 c2 m1 (by omega)
  | none =>
    rw [show ov none = -1 from rfl, if_pos rfl, if_pos rfl, eS, bdS, gi_n (by omega) (by omega), ltD, cl (by omega), e8]
    have s2 : SK σ2 (wL σm1 46 0 (uN u) (lN (vB 32 W))) T n (tkQ T n (tkE T n (tkQ T n p))) := g3
    obtain ⟨σm3, z1, z2, z3⟩ := sk_go s2
    have m3 := m1.wl.tr z2.fm
    have hPM3 := (hPM1.wl (v := lN (vB 32 W))).f8 z2
    rw [z1, bdS]
    have p2 : p < tkE T n (tkQ T n (tkE T n (tkQ T n p))) := by
      have := tk_adv (T := T) (n := n) (q := tkQ T n (tkE T n (tkQ T n p))) (by rw [g4]; omega)
      have := tkQ_ge T n (tkE T n (tkQ T n p))
      omega
    rcases k_own (s := 6) (lo := 0) (hi := 9) (at_ := 5) (nb := uN u) (c1 := 24) (V := uS u) (lo' := 0) (a' := nI 5) (by omega) nI_0.symm rfl (by omega) (by omega) (by omega) (by omega) rfl (by omega) z3 c2 m3 hPC2.1.1 (fun b hb => ⟨(hPC2.2.2.1 b hb).1.1, by omega, by have := hUP.2.2.1 b hb; omega⟩) hPM3.1.1 (fun b hb => (hPM3.2.2.1 b hb).1.1) with ⟨σf, σmf, ⟨k, q, x3⟩, x4, x5⟩ | ⟨τ1, τ2, μ2, vs, p3, a1, a2, a3, a4, a5, a6, a7, a8, a9, a10, a11, a12⟩
    · left
      rw [x4, bdS, if_pos rfl]
      rcases x5 with x5 | ⟨τ1, x5, x6 | ⟨τ2, x, x6, x7, x8, x9, x10⟩⟩
      · rw [x5, bdS, if_pos rfl]; exact ⟨σf, σmf, k, q, rfl, rfl, x3⟩
      · rw [x5, bdS, if_neg (show ¬ nI 1 = 0 by decide), x6, bdS, if_pos rfl]; exact ⟨σf, σmf, k, q, rfl, rfl, x3⟩
      · rw [x5, bdS, if_neg (show ¬ nI 1 = 0 by decide), x6, bdS, if_neg (show ¬ nI 1 = 0 by decide), ltD, x7.2.1, t2, gd_t hP6]
        unfold fX2_boardOfSlot
        rw [x8, bdS, bdS, if_neg x9, x10, bdS, rz_0]
        exact ⟨σf, σmf, k, q, rfl, rfl, x3⟩
    have t4 : τ2.2.2 3 0 3 = P := by rw [a8.2.1]; exact t2
    have c4 := c2.tr a8.fc
    have m4 := m3.tr a10.fm
    have hPC4 := hPC2.f3 a8
    have hPM4 : PM μ2 u 1 Ws := hPM3.g a10 hUP (by omega)
    rw [a4, bdS, if_neg (show ¬ nI 1 = 0 by decide), a1, bdS, if_neg (show ¬ nI 1 = 0 by decide), a2, bdS, if_neg (show ¬ nI 1 = 0 by decide), ltD, t4, gd_t hP6]
    have a3' : fX2_boardOfSlot P (τ2.1 3 0 8) τ2 = some (-1, τ2) := by unfold fX2_boardOfSlot; rw [a3, bdS]
    rw [a3', bdS, if_pos rfl]
    rcases k_own (s := 7) (lo := 1) (hi := 31) (at_ := 11) (nb := uN u) (c1 := 25) (V := uC u) (lo' := nI 1) (a' := nI 11) (by omega) rfl rfl (by omega) (by omega) (by omega) (by omega) rfl (by omega) a11 c4 m4 hPC4.1.1 (fun b hb => ⟨(hPC4.2.2.1 b hb).1.2.1, by have := hUP.2.2.2.2.1 b hb; omega⟩) hPM4.1.1 (fun b hb => (hPM4.2.2.1 b hb).1.2.1) with ⟨σf, σmf, ⟨k, q, x3⟩, x4, x5⟩ | ⟨τ3, τ4, μ4, vc, p4, b1, b2, b3, b4, b5, b6, b7, b8, b9, b10, b11, b12⟩
    · left
      rw [x4, bdS, if_pos rfl]
      rcases x5 with x5 | ⟨τ1, x5, x6 | ⟨τ2', x, x6, x7, x8, x9, x10⟩⟩
      · rw [x5, bdS, if_pos rfl]; exact ⟨σf, σmf, k, q, rfl, rfl, x3⟩
      · rw [x5, bdS, if_neg (show ¬ nI 1 = 0 by decide), x6, bdS, if_pos rfl]; exact ⟨σf, σmf, k, q, rfl, rfl, x3⟩
      · rw [x5, bdS, if_neg (show ¬ nI 1 = 0 by decide), x6, bdS, if_neg (show ¬ nI 1 = 0 by decide), ltD, x7.2.1, t4, gd_t hP6]
        unfold fX2_boardOfCode
        rw [x8, bdS, bdS, if_neg x9, x10, bdS, rz_0]
        exact ⟨σf, σmf, k, q, rfl, rfl, x3⟩
    have t6 : τ4.2.2 3 0 3 = P := by rw [b8.2.1]; exact t4
    have c6 := c4.tr b8.fc
    have m6 := m4.tr b10.fm
    have hPC6 := hPC4.f3 b8
    have hPM6 : PM μ4 u 1 Ws := hPM4.g b10 hUP (by omega)
    rw [b4, bdS, if_neg (show ¬ nI 1 = 0 by decide), b1, bdS, if_neg (show ¬ nI 1 = 0 by decide), b2, bdS, if_neg (show ¬ nI 1 = 0 by decide), ltD, t6, gd_t hP6]
    have b3' : fX2_boardOfCode P (τ4.1 3 0 8) τ4 = some (-1, τ4) := by unfold fX2_boardOfCode; rw [b3, bdS]
    rw [b3', bdS, if_pos rfl, add_n]
    rcases k_after (s := 8) (lo := 0) (hi := 7) (at_ := 17 + uN u) (lo' := 0) (a' := nI (17 + uN u)) (by omega) nI_0.symm rfl (by omega) (by omega) (by omega) b11 c6 m6 with ⟨σf, σmf, ⟨k, q, x3⟩, x4, x5⟩ | ⟨τ5, τ6, μ6, vr, p6, d1, d2, d3, d4, d5, d6, d7, d8, d9, d10, d11⟩
    · left
      rw [x4, bdS, if_pos rfl]
      rcases x5 with x5 | ⟨τ1, x5, x6⟩
      · rw [x5, bdS, if_pos rfl]; exact ⟨σf, σmf, k, q, rfl, rfl, x3⟩
      · rw [x5, bdS, if_neg (show ¬ nI 1 = 0 by decide), x6, bdS, if_pos rfl]; exact ⟨σf, σmf, k, q, rfl, rfl, x3⟩
    right
    have t8 : τ6.2.2 3 0 3 = P := by rw [d7.2.1]; exact t6
    have hPC8 := hPC6.f3 d7
    have hPM8 : PM μ6 u 1 Ws := hPM6.g d9 hUP (by omega)
    rw [d3, bdS, if_neg (show ¬ nI 1 = 0 by decide), d1, bdS, if_neg (show ¬ nI 1 = 0 by decide), d2, bdS, if_neg (show ¬ nI 1 = 0 by decide), t8, gd_t hP6, a9, b9, d8, c_add hPC8.1.1 hb6 (by omega), bdS, gi_n (by omega) (by omega), gi_n (by omega) (by omega), ltD, hPM8.1.1, add_n]
    refine ⟨_, _, p6, uBrd u vs vc vr, upW Ws (uN u) W, rfl, rfl, ⟨?_, ?_, ?_, ?_, ?_, ?_, ⟨t8, by rw [wIj (by omega), wIj (by omega), wIj (by omega), wIj (by omega), wIj (by omega), wIj (by omega), d7.2.2 1 (by omega), b8.2.2 1 (by omega), a8.2.2 1 (by omega), g2.2.2 1 (by omega), f1.2.2 1 (by omega)]; exact hT.2⟩, hP6, ?_, ?_⟩, by omega⟩
    · exact ((((((d10.cw (by omega)).cw (by omega)).cw (by omega)).cw (by omega)).cw (by omega)).w2).mw
    · refine ⟨⟨wIe (by omega), ?_, ?_⟩, fun z => ⟨?_, ?_, ?_⟩, fun b hb => ?_, fun i hi => ?_⟩
      · rw [wIj (by omega), wIc (by omega), wIc (by omega), wIc (by omega), wIc (by omega), wIc (by omega)]; exact hPC8.1.2.1
      · rw [wIj (by omega), wIc (by omega), wIc (by omega), wIc (by omega), wIc (by omega), wIc (by omega)]; exact hPC8.1.2.2
      · rw [wIj (by omega), wIc (by omega), wIc (by omega), wIc (by omega), wIc (by omega), wIc (by omega)]; exact (hPC8.2.1 z).1
      · rw [wIj (by omega), wIc (by omega), wIc (by omega), wIc (by omega), wIc (by omega), wIc (by omega)]; exact (hPC8.2.1 z).2.1
      · rw [wIj (by omega), wIc (by omega), wIc (by omega), wIc (by omega), wIc (by omega), wIc (by omega)]; exact (hPC8.2.1 z).2.2
      · have hb' : b < uN u + 1 := hb
        show (_ = nI (up (uS u) (uN u) vs b) ∧ _ = nI (up (uC u) (uN u) vc b) ∧ _ = nI (up (uR u) (uN u) vr b) ∧ _ = nI (oddN (2 * up (uC u) (uN u) vc b))) ∧ _ = nI (vB 27 (upW Ws (uN u) W b))
        by_cases e : b = uN u
        · subst e
          rw [up_e, up_e, up_e, upW_e]
          refine ⟨⟨?_, ?_, ?_, ?_⟩, ?_⟩
          · rw [wIj (by omega), wIj (by omega), wIj (by omega), wIj (by omega), wIe (by omega)]
          · rw [wIj (by omega), wIj (by omega), wIj (by omega), wIe (by omega)]
          · rw [wIj (by omega), wIj (by omega), wIe (by omega)]
          · rw [wIj (by omega), wIe (by omega)]
          · rw [wIj (by omega), wIj (by omega), wIj (by omega), wIj (by omega), wIj (by omega), wIe (by omega)]
        · have hl : b < uN u := by omega
          obtain ⟨⟨q1, q2, q3, q4⟩, q5⟩ := hPC8.2.2.1 b hl
          rw [up_o hl, up_o hl, up_o hl, upW_o hl]
          refine ⟨⟨?_, ?_, ?_, ?_⟩, ?_⟩
          · rw [wIj (by omega), wIj (by omega), wIj (by omega), wIj (by omega), wIj (by omega), wIj (by omega)]; exact q1
          · rw [wIj (by omega), wIj (by omega), wIj (by omega), wIj (by omega), wIj (by omega), wIj (by omega)]; exact q2
          · rw [wIj (by omega), wIj (by omega), wIj (by omega), wIj (by omega), wIj (by omega), wIj (by omega)]; exact q3
          · rw [wIj (by omega), wIj (by omega), wIj (by omega), wIj (by omega), wIj (by omega), wIj (by omega)]; exact q4
          · rw [wIj (by omega), wIj (by omega), wIj (by omega), wIj (by omega), wIj (by omega), wIj (by omega)]; exact q5
      · obtain ⟨q1, q2, q3⟩ := hPC8.2.2.2 i hi
        refine ⟨?_, ?_, ?_⟩
        · rw [wIj (by omega), wIj (by omega), wIj (by omega), wIj (by omega), wIj (by omega), wIj (by omega)]; exact q1
        · rw [wIj (by omega), wIj (by omega), wIj (by omega), wIj (by omega), wIj (by omega), wIj (by omega)]; exact q2
        · rw [wIj (by omega), wIj (by omega), wIj (by omega), wIj (by omega), wIj (by omega), wIj (by omega)]; exact q3
    · refine ⟨⟨wIe (by omega), ?_, ?_⟩, fun z => ⟨?_, ?_, ?_⟩, fun b hb => ?_, fun i hi => ?_⟩
      · rw [wIj (by omega)]; exact hPM8.1.2.1
      · rw [wIj (by omega)]; exact hPM8.1.2.2
      · rw [wIj (by omega)]; exact (hPM8.2.1 z).1
      · rw [wIj (by omega)]; exact (hPM8.2.1 z).2.1
      · rw [wIj (by omega)]; exact (hPM8.2.1 z).2.2
      · have hb' : b < uN u + 1 := hb
        show (_ = nI (up (uS u) (uN u) vs b) ∧ _ = nI (up (uC u) (uN u) vc b) ∧ _ = nI (up (uR u) (uN u) vr b)) ∧ _ = lN (vB 32 (upW Ws (uN u) W b))
        by_cases e : b = uN u
        · subst e
          rw [up_e, up_e, up_e, upW_e]
          refine ⟨⟨?_, ?_, ?_⟩, ?_⟩
          · rw [wIj (by omega), d9.2.2.2.1 _ (by omega), b10.2.2.2.1 _ (by omega)]; exact a10.2.2.2.2
          · rw [wIj (by omega), d9.2.2.2.1 _ (by omega)]; exact b10.2.2.2.2
          · rw [wIj (by omega)]; exact d9.2.2.2.2
          · show μ6.2.1 46 0 _ = _
            rw [d9.2.2.1, b10.2.2.1, a10.2.2.1, z2.2.1]
            exact wLe
        · have hl : b < uN u := by omega
          obtain ⟨⟨q1, q2, q3⟩, q5⟩ := hPM8.2.2.1 b hl
          rw [up_o hl, up_o hl, up_o hl, upW_o hl]
          refine ⟨⟨?_, ?_, ?_⟩, q5⟩
          · rw [wIj (by omega)]; exact q1
          · rw [wIj (by omega)]; exact q2
          · rw [wIj (by omega)]; exact q3
      · obtain ⟨q1, q2, q3⟩ := hPM8.2.2.2 i hi
        refine ⟨?_, ?_, ?_⟩
        · rw [wIj (by omega)]; exact q1
        · rw [wIj (by omega)]; exact q2
        · rw [wIj (by omega)]; exact q3
    · obtain ⟨h1, h2, h3, h4, h5, h6, h7, h8, h9, h10⟩ := hUP
      have key : ∀ b, b < uN u + 1 → b = uN u ∨ b < uN u := fun b hb => by omega
      refine ⟨hb6, h2, fun b hb => ?_, fun a b ha hb e => ?_, fun b hb => ?_, fun b hb => ?_, h7, h8, fun i hi => Nat.lt_succ_of_lt (h9 i hi), h10⟩
      · show up (uS u) (uN u) vs b < 10
        rcases key b hb with e | e
        · rw [e, up_e]; omega
        · rw [up_o e]; exact h3 b e
      · have e' : up (uS u) (uN u) vs a = up (uS u) (uN u) vs b := e
        rcases key a ha with x | x <;> rcases key b hb with y | y
        · omega
        · rw [x, up_e, up_o y] at e'; exact absurd e'.symm (a7 b y)
        · rw [y, up_e, up_o x] at e'; exact absurd e' (a7 a x)
        · rw [up_o x, up_o y] at e'; exact h4 a b x y e'
      · show 1 ≤ up (uC u) (uN u) vc b ∧ up (uC u) (uN u) vc b < 32
        rcases key b hb with e | e
        · rw [e, up_e]; omega
        · rw [up_o e]; exact h5 b e
      · show up (uR u) (uN u) vr b ≤ 7
        rcases key b hb with e | e
        · rw [e, up_e]; omega
        · rw [up_o e]; exact h6 b e
    · exact ⟨by omega, fun z => hHd.2.1 z, fun z => by omega⟩
    · intro b hb
      have hb' : b < uN u + 1 := hb
      by_cases e : b = uN u
      · rw [e, upW_e]; exact ⟨hWt, hWl⟩
      · rw [upW_o (by omega)]; exact hWO b (by omega)
    · exact ((((((c6.tr d7.fc).w (by omega)).w (by omega)).w (by omega)).w (by omega)).w (by omega)).w (by omega)
    · exact (m6.tr d9.fm).w45
