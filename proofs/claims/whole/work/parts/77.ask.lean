/-! ===== the line of an ask ===== -/
theorem SK.mw {σ σm : St} {j : Nat} {v : Int32} {T : Nat → Nat} {n q : Nat} (h : SK σ σm T n q) : SK σ (wI σm 45 0 j v) T n q := by
  refine ⟨h.1, ?_, h.2.2.1, h.2.2.2.1, h.2.2.2.2.1, ?_⟩
  · unfold MX
    rw [wIj (by omega), wIc (by omega)]
    exact h.2.1
  · unfold MK
    rw [wIj (by omega), wIj (by omega), wIj (by omega), wIj (by omega)]
    exact h.2.2.2.2.2
theorem g45_w {σ : St} {at_ v : Nat} : G45 σ (wI σ 45 0 at_ (nI v)) at_ v := ⟨fun _ _ _ w => wIk w, fun _ _ => wIj (by omega), rfl, fun _ z => wIj (by omega), wIe (by omega)⟩
def uAsk (u : BU) (t b k : Nat) : BU := ((uN u, uG u, uF u, uW u, uA u + 1), uS u, uC u, uR u, up (uT u) (uA u) t, up (uB u) (uA u) b, up (uK u) (uA u) k, u.2.2.2.2.2.2.2)
/-- no ask may lie before the last -/
def lAsk (u : BU) : Nat := if uA u = 0 then 1 else uT u (uA u - 1)
theorem lAsk_b {u : BU} (h : UP u) : 1 ≤ lAsk u ∧ lAsk u ≤ 999 := by
  unfold lAsk
  split
  · omega
  · exact h.2.2.2.2.2.2.1 _ (by omega)
theorem c_latest {σ : St} {P : Nat} {u : BU} {hd : Nat} {Ws : Nat → List Nat} (h : PC σ P u hd Ws) (hu : UP u) (h12 : uA u < 12) : fX2_latestAsk P σ = some (nI (lAsk u), σ) := by
  unfold fX2_latestAsk lAsk
  rw [h.1.2.1]
  by_cases z : uA u = 0
  · rw [if_pos (by rw [lt_n (by omega) (by omega)]; omega), if_pos z]
  · rw [if_neg (by rw [lt_n (by omega) (by omega)]; omega), if_neg (by rw [lt_n (by omega) (by omega)]; omega), sub_n (by omega), gi_n (by omega) (by omega), cl (by omega), if_neg z, (h.2.2.2 (uA u - 1) (by omega)).1]
theorem c_addAsk {σ : St} {P na x b k : Nat} (h4 : σ.1 2 P 4 = nI na) (hn : na < 12) : fX2_addAsk P (nI x) (nI b) (nI k) σ = some ((), wI (wI (wI (wI σ 28 P na (nI x)) 29 P na (nI b)) 30 P na (nI k)) 2 P 4 (nI (na + 1))) := by
  unfold fX2_addAsk
  rw [h4, if_neg (by rw [le_n (by omega) (by omega)]; omega), gi_n (by omega) (by omega), ltD, cl (by omega), wIj (by omega), h4, gi_n (by omega) (by omega), ltD, cl (by omega), wIj (by omega), wIj (by omega), h4, gi_n (by omega) (by omega), ltD, cl (by omega), ltD, wIj (by omega), wIj (by omega), wIj (by omega), h4, add_n]
theorem l_ask {P : Nat} {σ0 σm0 σ σm : St} {T : Nat → Nat} {n p : Nat} {u : BU} {Ws : Nat → List Nat} (h : LN P σ0 σm0 σ σm T n p u 1 Ws) (ha12 : uA u < 12) (hw : wdB T n (tkQ T n p) 5 = true) (σ1 : St) (f1 : F3 σ σ1) (s1 : SK σ1 σm T n (tkQ T n p)) :
    Fl P σ0 σm0 (fX3_readAsk σ1) (fX8_readAsk σm) ∨ ∃ σ' σm' p' u' Ws', fX3_readAsk σ1 = some (nI 1, σ') ∧ fX8_readAsk σm = some (nI 1, σm') ∧ LN P σ0 σm0 σ' σm' T n p' u' 1 Ws' ∧ p < p' := by
  obtain ⟨hSY, hPC, hPM, hUP, hHd, hWO, hT, hP6, hFC, hFM⟩ := h
  have n6 := hUP.1
  have hT1 : σ1.2.2 3 0 3 = P := by rw [f1.2.1]; exact hT.1
  obtain ⟨σm1, y1, y2, y3⟩ := sk_go s1
  have hadv : p < tkE T n (tkQ T n p) := by
    have b1 := tkQ_ge T n p
    have b2 := tk_adv (T := T) (n := n) (q := tkQ T n p) (by rw [wdB_1 hw]; omega)
    omega
  have tE : ∀ q, q ≤ tkE T n q := fun q => by
    unfold tkE
    split
    · omega
    · split
      · exact runN_ge _ _ _
      · split
        · exact runN_ge _ _ _
        · omega
  have hPM1 := hPM.f8 y2
  have hPC1 := hPC.f3 f1
  have hl := lAsk_b hUP
  have hbeg : fX8_begins (nI 1) σm = some (nI 1, σm1) := by
    unfold fX8_begins
    rw [if_neg (by decide), hPM.1.2.2, if_neg (by decide), y1, bdS]
  have hlow : ∀ j : Int32 → St → Option (Int32 × St), (if nI (uA u) = 0 then j (nI 1) σm1 else gi (((nI 23) + nI (uA u)) - (nI 1)) 59 <| j (σm1.1 45 0 (((nI 23) + nI (uA u)) - (nI 1)).toNatClampNeg) σm1) = j (nI (lAsk u)) σm1 := fun j => by
    unfold lAsk
    by_cases z : uA u = 0
    · rw [if_pos (by rw [z, nI_0]), if_pos z]
    · rw [if_neg (by rw [← nI_0, eq_n (by omega) (by omega)]; exact z), if_neg z, add_n, sub_n (by omega), gi_n (by omega) (by omega), cl (by omega), show 23 + uA u - 1 = 23 + (uA u - 1) by omega, (hPM1.2.2.2 (uA u - 1) (by omega)).1]
  unfold fX3_readAsk fX8_readAsk
  simp only [jnD]
  rw [gi_n (by omega) (by omega), ltD, cl (by omega), hPM.1.2.1, if_neg (by rw [le_n (by omega) (by omega)]; omega), hbeg, bdS, if_neg (show ¬ nI 1 = 0 by decide), hlow (fun (x7 : Int32) (σ6 : St) => bd (fX8_lays ((nI 23) + nI (uA u)) x7 (nI 999) σ6) _), hT1, gd_t hP6, c_latest hPC1 hUP ha12, bdS, add_n, add_n, add_n]
  have c1 := hFC.tr f1.fc
  have m1 := hFM.tr y2.fm
  rcases k_whole (lo := lAsk u) (hi := 999) (at_ := 23 + uA u) rfl rfl (by omega) (by omega) (by omega) y3 c1 m1 with z | ⟨σ2, σm2, v, z1, z2, z3, z4, z5, z6, z7, z8, z9⟩
  · left
    obtain ⟨σf, σmf, x1, x2, ⟨k, q, x3⟩⟩ := z.s
    rw [x1, bdS, if_pos rfl, x2, bdS, if_pos rfl]
    exact ⟨σf, σmf, k, q, rfl, rfl, x3⟩
  have G1 := g45_of y2 z8
  have c2 := c1.tr z6.fc
  have m2 := hFM.tr G1.fm
  have hPC2 := hPC1.f3 z6
  have hPM2 : PM σm2 u 1 Ws := hPM.g G1 hUP (by omega)
  rw [z1, bdS, if_neg (show ¬ nI 1 = 0 by decide), z2, bdS, if_neg (show ¬ nI 1 = 0 by decide), ltD, z7]
  have p2 : p < tkE T n (tkQ T n (tkE T n (tkQ T n p))) := by
    have := tE (tkQ T n (tkE T n (tkQ T n p)))
    have := tkQ_ge T n (tkE T n (tkQ T n p))
    omega
  generalize tkE T n (tkQ T n (tkE T n (tkQ T n p))) = p1 at z9 p2
  rcases k_name z9 c2 m2 with ⟨g1, r, g2, g3⟩ | ⟨σ3, g1, g2, g3, g4, g5⟩
  · left
    rw [g1, bdS, if_pos rfl, g2, bdS, if_pos rfl]
    obtain ⟨σf, σmf, x1, x2, x3⟩ := g3.s
    obtain ⟨k, q, x3⟩ := x3
    rw [x2, bdS, rz_0]
    cases x1
    exact ⟨r, σmf, k, q, rfl, rfl, x3⟩
  have hPC3 := hPC2.f3 g2
  have c3 := c2.tr g2.fc
  have t3 : σ3.2.2 3 0 3 = P := by rw [g2.2.1, z6.2.1]; exact hT1
  have eC := c_here (Ws := Ws) g3.2.2.2.2.1 g4 hPC3.1.1 (by omega) hWO (fun b hb => (hPC3.2.2.1 b hb).2)
  have eM := m_here (Ws := Ws) g3.2.1 g3.2.2.2.2.2 g4 hPM2.1.1 (by omega) hWO (fun b hb => (hPM2.2.2.1 b hb).2)
  rw [g5, bdS, if_neg (show ¬ nI 1 = 0 by decide), eM, bdS, g1, bdS, if_neg (show ¬ nI 1 = 0 by decide), t3, gd_t hP6, eC, bdS, gi_n (by omega) (by omega), cl (by omega), ltD, gi_n (by omega) (by omega), wIe (by omega)]
  have p3 : p < tkE T n (tkQ T n p1) := by
    have := tE (tkQ T n p1)
    have := tkQ_ge T n p1
    omega
  generalize wr T (tkQ T n p1) (tkE T n (tkQ T n p1) - tkQ T n p1) = W
  cases hF : fsN (hasW Ws W) (uN u) with
  | none =>
    left
    rw [show ov none = -1 from rfl, if_pos rfl, if_pos rfl, c_fail, bdS, rz_0, m_fail, bdS, rz_0]
    exact sk_fail g3.mw c3 m2.w45 (by omega)
  | some b =>
    have hb := (fsN_spec hF).1
    have hne := ov_ne (by omega) hF
    rw [hF] at hne
    rw [if_neg hne, if_neg hne, show ov (some b) = nI b from rfl]
    have s4 : SK σ3 (wI σm2 45 0 (35 + uA u) (nI b)) T n (tkQ T n p1) := g3.mw
    have hPM4 : PM (wI σm2 45 0 (35 + uA u) (nI b)) u 1 Ws := hPM2.g g45_w hUP (by omega)
    obtain ⟨σm4, w1, w2, w3⟩ := sk_go s4
    have m4 := m2.w45 (j := 35 + uA u) (v := nI b) |>.tr w2.fm
    rw [w1, bdS]
    rcases k_whole (lo := 1) (hi := 99) (at_ := 47 + uA u) rfl rfl (by omega) (by omega) (by omega) w3 c3 m4 with z | ⟨σ5, σm5, vk, a1, a2, a3, a4, a5, a6, a7, a8, a9⟩
    · left
      obtain ⟨σf, σmf, x1, x2, ⟨k, q, x3⟩⟩ := z.s
      rw [x1, bdS, if_pos rfl, x2, bdS, if_pos rfl]
      exact ⟨σf, σmf, k, q, rfl, rfl, x3⟩
    right
    have G2 := g45_of w2 a8
    have hPC5 := hPC3.f3 a6
    have hPM5 : PM σm5 u 1 Ws := hPM4.g G2 hUP (by omega)
    have t5 : σ5.2.2 3 0 3 = P := by rw [a6.2.1]; exact t3
    have p5 : p < tkE T n (tkQ T n (tkE T n (tkQ T n p1))) := by
      have := tE (tkQ T n (tkE T n (tkQ T n p1)))
      have := tkQ_ge T n (tkE T n (tkQ T n p1))
      omega
    generalize tkE T n (tkQ T n (tkE T n (tkQ T n p1))) = p6 at a9 p5
    rw [a1, bdS, if_neg (show ¬ nI 1 = 0 by decide), a2, bdS, if_neg (show ¬ nI 1 = 0 by decide), t5, gd_t hP6, a7, c_addAsk hPC5.1.2.1 ha12, bdS, gi_n (by omega) (by omega), gi_n (by omega) (by omega), ltD, hPM5.1.2.1, add_n]
    refine ⟨_, _, p6, uAsk u v b vk, Ws, rfl, rfl, ⟨?_, ?_, ?_, ?_, ?_, hWO, ⟨t5, by rw [wIj (by omega), wIj (by omega), wIj (by omega), wIj (by omega), a6.2.2 1 (by omega), g2.2.2 1 (by omega), z6.2.2 1 (by omega), f1.2.2 1 (by omega)]; exact hT.2⟩, hP6, ?_, ?_⟩, p5⟩
    · exact ((((a9.cw (by omega)).cw (by omega)).cw (by omega)).w2).mw
    · refine ⟨⟨?_, wIe (by omega), ?_⟩, fun z => ⟨?_, ?_, ?_⟩, fun b hb => ?_, fun i hi => ?_⟩
      · rw [wIj (by omega), wIc (by omega), wIc (by omega), wIc (by omega)]; exact hPC5.1.1
      · rw [wIj (by omega), wIc (by omega), wIc (by omega), wIc (by omega)]; exact hPC5.1.2.2
      · rw [wIj (by omega), wIc (by omega), wIc (by omega), wIc (by omega)]; exact (hPC5.2.1 z).1
      · rw [wIj (by omega), wIc (by omega), wIc (by omega), wIc (by omega)]; exact (hPC5.2.1 z).2.1
      · rw [wIj (by omega), wIc (by omega), wIc (by omega), wIc (by omega)]; exact (hPC5.2.1 z).2.2
      · obtain ⟨⟨q1, q2, q3, q4⟩, q5⟩ := hPC5.2.2.1 b hb
        refine ⟨⟨?_, ?_, ?_, ?_⟩, ?_⟩
        · rw [wIj (by omega), wIj (by omega), wIj (by omega), wIj (by omega)]; exact q1
        · rw [wIj (by omega), wIj (by omega), wIj (by omega), wIj (by omega)]; exact q2
        · rw [wIj (by omega), wIj (by omega), wIj (by omega), wIj (by omega)]; exact q3
        · rw [wIj (by omega), wIj (by omega), wIj (by omega), wIj (by omega)]; exact q4
        · rw [wIj (by omega), wIj (by omega), wIj (by omega), wIj (by omega)]; exact q5
      · have hi' : i < uA u + 1 := hi
        show _ = nI (up (uT u) (uA u) v i) ∧ _ = nI (up (uB u) (uA u) b i) ∧ _ = nI (up (uK u) (uA u) vk i)
        by_cases e : i = uA u
        · subst e
          rw [up_e, up_e, up_e]
          refine ⟨?_, ?_, ?_⟩
          · rw [wIj (by omega), wIj (by omega), wIj (by omega), wIe (by omega)]
          · rw [wIj (by omega), wIj (by omega), wIe (by omega)]
          · rw [wIj (by omega), wIe (by omega)]
        · have hl : i < uA u := by omega
          obtain ⟨q1, q2, q3⟩ := hPC5.2.2.2 i hl
          rw [up_o hl, up_o hl, up_o hl]
          refine ⟨?_, ?_, ?_⟩
          · rw [wIj (by omega), wIj (by omega), wIj (by omega), wIj (by omega)]; exact q1
          · rw [wIj (by omega), wIj (by omega), wIj (by omega), wIj (by omega)]; exact q2
          · rw [wIj (by omega), wIj (by omega), wIj (by omega), wIj (by omega)]; exact q3
    · refine ⟨⟨?_, wIe (by omega), ?_⟩, fun z => ⟨?_, ?_, ?_⟩, fun b hb => ?_, fun i hi => ?_⟩
      · rw [wIj (by omega)]; exact hPM5.1.1
      · rw [wIj (by omega)]; exact hPM5.1.2.2
      · rw [wIj (by omega)]; exact (hPM5.2.1 z).1
      · rw [wIj (by omega)]; exact (hPM5.2.1 z).2.1
      · rw [wIj (by omega)]; exact (hPM5.2.1 z).2.2
      · obtain ⟨⟨q1, q2, q3⟩, q5⟩ := hPM5.2.2.1 b hb
        have hb' : b < uN u := hb
        refine ⟨⟨?_, ?_, ?_⟩, q5⟩
        · rw [wIj (by omega)]; exact q1
        · rw [wIj (by omega)]; exact q2
        · rw [wIj (by omega)]; exact q3
      · have hi' : i < uA u + 1 := hi
        show _ = nI (up (uT u) (uA u) v i) ∧ _ = nI (up (uB u) (uA u) b i) ∧ _ = nI (up (uK u) (uA u) vk i)
        by_cases e : i = uA u
        · subst e
          rw [up_e, up_e, up_e]
          refine ⟨?_, ?_, ?_⟩
          · rw [wIj (by omega), G2.2.2.2.1 _ (by omega), wIj (by omega)]; exact G1.2.2.2.2
          · rw [wIj (by omega), G2.2.2.2.1 _ (by omega), wIe (by omega)]
          · rw [wIj (by omega)]; exact G2.2.2.2.2
        · have hl : i < uA u := by omega
          obtain ⟨q1, q2, q3⟩ := hPM5.2.2.2 i hl
          rw [up_o hl, up_o hl, up_o hl]
          refine ⟨?_, ?_, ?_⟩
          · rw [wIj (by omega)]; exact q1
          · rw [wIj (by omega)]; exact q2
          · rw [wIj (by omega)]; exact q3
    · obtain ⟨h1, h2, h3, h4, h5, h6, h7, h8, h9, h10⟩ := hUP
      have key : ∀ b, b < uA u + 1 → b = uA u ∨ b < uA u := fun b hb => by omega
      refine ⟨h1, ha12, h3, h4, h5, h6, fun i hi => ?_, fun i j hij hj => ?_, fun i hi => ?_, fun i hi => ?_⟩
      · show 1 ≤ up (uT u) (uA u) v i ∧ up (uT u) (uA u) v i ≤ 999
        rcases key i hi with e | e
        · rw [e, up_e]; omega
        · rw [up_o e]; exact h7 i e
      · show up (uT u) (uA u) v i ≤ up (uT u) (uA u) v j
        have hj' : j < uA u + 1 := hj
        rcases key j hj with e | e
        · rw [e, up_e]
          rcases key i (by omega) with e2 | e2
          · rw [e2, up_e]; exact Nat.le_refl _
          · rw [up_o e2]
            have := h8 i (uA u - 1) (by omega) (by omega)
            unfold lAsk at z3
            rw [if_neg (by omega)] at z3
            omega
        · rw [up_o e, up_o (by omega)]; exact h8 i j hij e
      · show up (uB u) (uA u) b i < uN u
        rcases key i hi with e | e
        · rw [e, up_e]; exact hb
        · rw [up_o e]; exact h9 i e
      · show up (uK u) (uA u) vk i ≤ 99
        rcases key i hi with e | e
        · rw [e, up_e]; omega
        · rw [up_o e]; exact h10 i e
    · exact ⟨by omega, fun z => hHd.2.1 z, fun z => by omega⟩
    · exact ((((c3.tr a6.fc).w (by omega)).w (by omega)).w (by omega)).w (by omega)
    · exact ((m2.w45).tr G2.fm).w45
