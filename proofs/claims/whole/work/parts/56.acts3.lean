/-! ===== acts: over all sets, over all filters ===== -/
/-- the model plays one pass after another -/
def MI (σ0 σy : St) : Prop := Kp SE σ0 σy ∧ ∀ j, j ≠ 23 → j ≠ 29 → σy.1 8 0 j = σ0.1 8 0 j
theorem MI.pass {u : BU} {σ0 σy : St} {p1 : Int32} {w L : Nat → Nat} {f C : Nat} (h : MI σ0 σy) (hq : POk (uN u, uG u, f, C, uS u, w, L)) (hM : BMf σ0 u) (hf : σ0.1 44 0 1 = nI f) (hL : ∀ l, l < 6 → σ0.1 47 0 (12 + l) = nI (L l)) (hw : ∀ (b : Nat) (s : St), b < uN u → Kp SE σ0 s → fX8_wordOf (nI b) p1 s = some (nI (w b), s)) :
    ∃ σ', fX8_passes p1 (nI C) σy = some ((), σ') ∧ MI σ0 σ' ∧ MPr σ' (uN u, uG u, f, C, uS u, w, L) ∧ MA σ' (uN u, uG u, f, C, uS u, w, L) (tb (uN u, uG u, f, C, uS u, w, L) 401) 401 := by
  obtain ⟨h1, h2⟩ := h
  have e44 := kpc h1 44 0 rfl
  have e47 := kpc h1 47 0 rfl
  obtain ⟨σ', c1, c2, c3, c4, c5⟩ := k_passes (σm := σy) (p1 := p1) hq (by unfold BMf; rw [e44]; exact hM) (by rw [e44]; exact hf) (fun l hl => by rw [e47]; exact hL l hl) (fun b s hb hk => hw b s hb (h1.tr hk (fun e he => he)))
  exact ⟨σ', c1, ⟨h1.tr c2 (fun e he => he), fun j y1 y2 => (c3 j y1 y2).trans (h2 j y1 y2)⟩, c4, c5⟩
theorem LI.sets {u : BU} {w L : Nat → Nat} {σ σx : St} {t s a : Nat} (hT : Told u σ t s a) (h : LI u w L (cR σ 0) σx) : ∃ P, σx.2.2 7 0 6 = P ∧ P < 6 ∧ σx.1 2 P 1 = nI (uF u) ∧ σx.1 2 P 2 = nI (uW u) ∧ fX2_sets P σx = some (nI (2 ^ uN u), σx) := by
  obtain ⟨hu, hP, hM, ⟨d, ⟨P, hP', hB, hPu⟩, -⟩, -⟩ := hT
  have hn := hu.n6
  have e2 : σx.1 2 P = σ.1 2 P := by rw [kpc h.1 2 P rfl, cR_o (by omega)]
  refine ⟨P, ?_, hB.1, ?_, ?_, ?_⟩
  · rw [kpr h.1 7 0 rfl]; exact hP.symm.trans hP'
  · rw [e2]; exact hB.2.2.1
  · rw [e2]; exact hB.2.2.2.1
  · unfold fX2_sets; rw [e2, hB.2.2.2.2.1, shl_1 (by omega)]
/-- the latest so far, one more; none: 0 -/
def slN (ch : Nat → Nat) (b0 : Nat) : Nat → Nat × Nat
  | 0 => (b0, 0)
  | i + 1 => if (slN ch b0 i).2 ≤ ch (i + 1) then (i + 1, ch (i + 1) + 1) else slN ch b0 i
theorem slN_same (ch : Nat → Nat) (b0 b1 : Nat) : ∀ i, slN ch b0 (i + 1) = slN ch b1 (i + 1) := by
  intro i
  induction i with
  | zero => simp [slN]
  | succ i ih =>
    show (if (slN ch b0 (i + 1)).2 ≤ ch (i + 1 + 1) then (i + 1 + 1, ch (i + 1 + 1) + 1) else slN ch b0 (i + 1)) = (if (slN ch b1 (i + 1)).2 ≤ ch (i + 1 + 1) then (i + 1 + 1, ch (i + 1 + 1) + 1) else slN ch b1 (i + 1))
    rw [ih]
theorem slN_le {ch : Nat → Nat} {b0 M : Nat} (hM : ∀ c, ch c ≤ M) : ∀ i, (slN ch b0 i).2 ≤ M + 1 := by
  intro i
  induction i with
  | zero => exact Nat.zero_le _
  | succ i ih =>
    rw [slN]
    split
    · have := hM (i + 1); simp only; omega
    · exact ih
def lvN (m : Nat) : Int32 := if m = 0 then -1 else nI (m - 1)
theorem lvN_s (m : Nat) : lvN (m + 1) = nI m := by
  unfold lvN
  rw [if_neg (Nat.succ_ne_zero m), Nat.add_sub_cancel]
theorem lvN_0 : lvN 0 = -1 := if_pos rfl
theorem lvN_le {c m : Nat} (hc : c < 1000) (hm : m < 1000) : (nI c ≤ lvN m) = (c < m) := by
  unfold lvN
  by_cases q : m = 0
  · rw [if_pos q]
    refine propext ⟨fun z => ?_, fun z => by omega⟩
    have := Int32.le_iff_toInt_le.mp z
    rw [nI_toInt (by omega)] at this
    have e : (-1 : Int32).toInt = -1 := by decide
    omega
  · rw [if_neg q, le_n (by omega) (by omega)]
    exact propext (by omega)
theorem chT_400 (p : PP) : chT p 401 ≤ 400 := chT_le p 400
theorem srN_400 {p : PP} {v : Nat} (h : srN p = some v) : v ≤ 400 := by
  unfold srN at h
  by_cases q : suN (fun t => decide (wiN p (tO (tb p 401)) t (pN p) = (riN p (pN p)).2)) 401 = 401
  · rw [if_pos q] at h; cases h
  · rw [if_neg q] at h
    have := suN_le (fun t => decide (wiN p (tO (tb p 401)) t (pN p) = (riN p (pN p)).2)) 401
    cases h
    omega
theorem act_slowest (p1 : Int32) : Act (fX7_slowest p1) (fX8_slowest p1) := by
  intro σ N h hN
  obtain ⟨w, w1, w2, w3, w4⟩ := pre_p h p1 0 (fX7_isPass p1) (by
    rcases k_pass p1 with ⟨-, z, -⟩ | ⟨z, -⟩
    · rw [z]; decide
    · rw [z]; decide)
  refine act_gate (Kc := (fun (σ1 : St) => bd (fX7_laid p1 σ1) fun _ (σ3 : St) => (LX7_slowest_31 (fun (x13 : Int32) (σ14 : St) => some (x13, σ14)) FU (nI 1) (-1) (nI 1) σ3))) (Km := (fun (σ3 : St) => (LX8_slowest_24 p1 (fun (x13 : Int32) (σ14 : St) => some (x13, σ14)) FU 0 (-1) (nI 1) σ3))) h w1 (w2 _) (fun σ1 h1 => w3 σ1 h1 _) (fun z => ?_)
  obtain ⟨u, t, s, a, T, hT, hp, -, -⟩ := w4 z
  have hu := hT.1
  have hn := hu.n6
  have hn1 := hu.n1
  have hp64 : 2 ^ uN u ≤ 64 := Nat.pow_le_pow_right (n := 2) (by omega) hn
  have hp2 : 2 ≤ 2 ^ uN u := Nat.le_trans (by decide : 2 ≤ 2 ^ 1) (Nat.pow_le_pow_right (by omega) hn1)
  obtain ⟨w, L, σa, a1, a2, a3, a4, a5⟩ := k_lay h hT hp
  have hq : ∀ C, C < 2 ^ uN u → POk (uN u, uG u, uF u, C, uS u, w, L) := fun C hC => ⟨hn, hu.g.1, hu.g.2, hu.f, hC, hu.s, a4, a3, hu.sd⟩
  have hch : ∀ C, (fun C => chT (uN u, uG u, uF u, C, uS u, w, L) 401) C ≤ 400 := fun C => chT_400 _
  obtain ⟨⟨x1, y1, σ1⟩, ⟨i1, i2, i3⟩, ec⟩ := lp0 (fun m i (s : Int32 × Int32 × St) => LX7_slowest_31 (fun (x13 : Int32) (σ14 : St) => some (x13, σ14)) m s.1 s.2.1 (nI (i + 1)) s.2.2) (fun s => some (s.1, s.2.2)) (2 ^ uN u - 1) (by omega)
    (fun i s => s.1 = nI (slN (fun C => chT (uN u, uG u, uF u, C, uS u, w, L) 401) 1 i).1 ∧ s.2.1 = lvN (slN (fun C => chT (uN u, uG u, uF u, C, uS u, w, L) 401) 1 i).2 ∧ LI u w L (cR σ 0) s.2.2) (nI 1, -1, σa) ⟨rfl, lvN_0.symm, a2⟩
    (fun m s hI => by
      obtain ⟨P, P1, P2, P3, P4, P5⟩ := hI.2.2.sets hT
      rw [LX7_slowest_31, P1, gd_t P2, P5, bdS, if_pos (by rw [le_n (by omega) (by omega)]; omega)])
    (fun m i s hi hI => by
      obtain ⟨j1, j2, j3⟩ := hI
      obtain ⟨P, P1, P2, P3, P4, P5⟩ := j3.sets hT
      obtain ⟨σ', k1, k2, k3⟩ := j3.play hu a3 hu.f (show i + 1 < 2 ^ uN u by omega)
      have hc := (c_changed (hq (i + 1) (by omega)) k3).1
      have hc4 := chT_400 (uN u, uG u, uF u, i + 1, uS u, w, L)
      have hm4 := slN_le (b0 := 1) hch i
      rw [LX7_slowest_31, P1, gd_t P2, P5, bdS, if_neg (by rw [le_n (by omega) (by omega)]; omega), P1, gd_t P2, P3, k1, bdS, jnD, hc, j2, ltD, add_n]
      by_cases q : (slN (fun C => chT (uN u, uG u, uF u, C, uS u, w, L) 401) 1 i).2 ≤ chT (uN u, uG u, uF u, i + 1, uS u, w, L) 401
      · refine ⟨(nI (i + 1), nI (chT (uN u, uG u, uF u, i + 1, uS u, w, L) 401), σ'), ⟨?_, ?_, k2⟩, by rw [if_neg (by rw [lvN_le (by omega) (by omega)]; omega)]⟩
        · rw [slN, if_pos q]
        · rw [slN, if_pos q]; exact (lvN_s _).symm
      · refine ⟨(s.1, s.2.1, σ'), ⟨?_, ?_, k2⟩, by rw [if_pos (by rw [lvN_le (by omega) (by omega)]; omega), j2]⟩
        · rw [slN, if_neg q]; exact j1
        · rw [slN, if_neg q]; exact j2)
  simp only at i1 i2 i3
  have hM1 : BM (mR σ1 0) u := (hT.2.2.1.fr (i3.sm 44 0 (by omega))).fr (mR_o (by omega))
  obtain ⟨m1, m2⟩ := a5 (mR σ1 0) hM1.f (by rw [mR_o (by omega), i3.sm 47 0 (by omega)])
  obtain ⟨⟨x2, y2, σ2⟩, ⟨l1, l2, l3⟩, em⟩ := lp0 (fun m i (s : Int32 × Int32 × St) => LX8_slowest_24 p1 (fun (x13 : Int32) (σ14 : St) => some (x13, σ14)) m s.1 s.2.1 (nI (i + 1)) s.2.2) (fun s => some (s.1, s.2.2)) (2 ^ uN u - 1) (by omega)
    (fun i s => s.1 = nI (slN (fun C => chT (uN u, uG u, uF u, C, uS u, w, L) 401) 0 i).1 ∧ s.2.1 = lvN (slN (fun C => chT (uN u, uG u, uF u, C, uS u, w, L) 401) 0 i).2 ∧ MI (mR σ1 0) s.2.2) (0, -1, mR σ1 0) ⟨nI_0.symm, lvN_0.symm, kp_rf, fun _ _ _ => rfl⟩
    (fun m s hI => by
      have e3 : s.2.2.1 44 0 3 = nI (uN u) := by rw [kpc hI.2.2.1 44 0 rfl]; exact hM1.2.2.2.1
      rw [LX8_slowest_24, gi_n (by omega) (by omega), cl (by omega), e3, shl_1 (by omega), if_pos (by rw [le_n (by omega) (by omega)]; omega)])
    (fun m i s hi hI => by
      obtain ⟨j1, j2, j3⟩ := hI
      have e3 : s.2.2.1 44 0 3 = nI (uN u) := by rw [kpc j3.1 44 0 rfl]; exact hM1.2.2.2.1
      obtain ⟨σ', k1, k2, k3, k4⟩ := j3.pass (hq (i + 1) (by omega)) hM1.f hM1.2.1 m1 m2
      have hc4 := chT_400 (uN u, uG u, uF u, i + 1, uS u, w, L)
      have hm4 := slN_le (b0 := 0) hch i
      have hset := m_settled (hq (i + 1) (by omega)) k3 k4
      rw [LX8_slowest_24, gi_n (by omega) (by omega), cl (by omega), e3, shl_1 (by omega), if_neg (by rw [le_n (by omega) (by omega)]; omega), k1, bdS, hset, bdS, jnD, hset, bdS, j2, add_n]
      by_cases q : (slN (fun C => chT (uN u, uG u, uF u, C, uS u, w, L) 401) 0 i).2 ≤ chT (uN u, uG u, uF u, i + 1, uS u, w, L) 401
      · refine ⟨(nI (i + 1), nI (chT (uN u, uG u, uF u, i + 1, uS u, w, L) 401), σ'), ⟨?_, ?_, k2⟩, by rw [if_neg (by rw [lvN_le (by omega) (by omega)]; omega)]⟩
        · rw [slN, if_pos q]
        · rw [slN, if_pos q]; exact (lvN_s _).symm
      · refine ⟨(s.1, s.2.1, σ'), ⟨?_, ?_, k2⟩, by rw [if_pos (by rw [lvN_le (by omega) (by omega)]; omega), j2]⟩
        · rw [slN, if_neg q]; exact j1
        · rw [slN, if_neg q]; exact j2)
  simp only at l1 l2 l3
  refine ⟨x1, σ1, σ2, by rw [a1, bdS]; exact ec, i3.sm, ?_, k_done h i3 l3.1 (by unfold okP; decide) (fun j y1 y2 _ _ _ => l3.2 j y1 y2)⟩
  refine em.trans ?_
  obtain ⟨B, hB⟩ : ∃ B, 2 ^ uN u - 1 = B + 1 := ⟨2 ^ uN u - 2, by omega⟩
  rw [hB] at i1 l1
  rw [i1, l1, slN_same _ 0 1]
/-- how many of the sets are settled by then -/
def cnN (ch : Nat → Nat) (T : Nat) : Nat → Nat
  | 0 => 0
  | i + 1 => cnN ch T i + (if ch (i + 1) ≤ T then 1 else 0)
theorem act_settled (p1 p2 : Int32) : Act (fX7_settled p1 p2) (fX8_settled p1 p2) := by
  intro σ N h hN
  obtain ⟨w, w1, w2, w3, w4⟩ := pre_p h p1 p2 (if (fX7_isPass p1) = 0 then 0 else (if (fX7_isTick p2) = 0 then 0 else (nI 1))) rfl
  refine act_gate (Kc := (fun (σ6 : St) => bd (fX7_laid p1 σ6) fun _ (σ8 : St) => (LX7_settled_44 p2 (fun (x16 : Int32) (σ17 : St) => some (x16, σ17)) FU 0 (nI 1) σ8))) (Km := (fun (σ3 : St) => (LX8_settled_22 p1 p2 (fun (x12 : Int32) (σ13 : St) => some (x12, σ13)) FU 0 (nI 1) σ3))) h w1 (w2 _) (fun σ1 h1 => w3 σ1 h1 _) (fun z => ?_)
  obtain ⟨u, t, s, a, T, hT, hp, hT4, rfl⟩ := w4 z
  have hu := hT.1
  have hn := hu.n6
  have hn1 := hu.n1
  have hp64 : 2 ^ uN u ≤ 64 := Nat.pow_le_pow_right (n := 2) (by omega) hn
  have hp2 : 2 ≤ 2 ^ uN u := Nat.le_trans (by decide : 2 ≤ 2 ^ 1) (Nat.pow_le_pow_right (by omega) hn1)
  obtain ⟨w, L, σa, a1, a2, a3, a4, a5⟩ := k_lay h hT hp
  have hq : ∀ C, C < 2 ^ uN u → POk (uN u, uG u, uF u, C, uS u, w, L) := fun C hC => ⟨hn, hu.g.1, hu.g.2, hu.f, hC, hu.s, a4, a3, hu.sd⟩
  obtain ⟨⟨x1, σ1⟩, ⟨i1, i3⟩, ec⟩ := lp0 (fun m i (s : Int32 × St) => LX7_settled_44 (nI T) (fun (x16 : Int32) (σ17 : St) => some (x16, σ17)) m s.1 (nI (i + 1)) s.2) (fun s => some (s.1, s.2)) (2 ^ uN u - 1) (by omega)
    (fun i s => s.1 = nI (cnN (fun C => chT (uN u, uG u, uF u, C, uS u, w, L) 401) T i) ∧ LI u w L (cR σ 0) s.2) (0, σa) ⟨nI_0.symm, a2⟩
    (fun m s hI => by
      obtain ⟨P, P1, P2, P3, P4, P5⟩ := hI.2.sets hT
      rw [LX7_settled_44, P1, gd_t P2, P5, bdS, if_pos (by rw [le_n (by omega) (by omega)]; omega)])
    (fun m i s hi hI => by
      obtain ⟨j1, j3⟩ := hI
      obtain ⟨P, P1, P2, P3, P4, P5⟩ := j3.sets hT
      obtain ⟨σ', k1, k2, k3⟩ := j3.play hu a3 hu.f (show i + 1 < 2 ^ uN u by omega)
      have hc := (c_changed (hq (i + 1) (by omega)) k3).1
      have hc4 := chT_400 (uN u, uG u, uF u, i + 1, uS u, w, L)
      rw [LX7_settled_44, P1, gd_t P2, P5, bdS, if_neg (by rw [le_n (by omega) (by omega)]; omega), P1, gd_t P2, P3, k1, bdS, jnD, hc, j1, add_n, add_n]
      by_cases q : chT (uN u, uG u, uF u, i + 1, uS u, w, L) 401 ≤ T
      · exact ⟨(_, σ'), ⟨by rw [cnN, if_pos q], k2⟩, by rw [if_neg (by rw [lt_n (by omega) (by omega)]; omega)]⟩
      · exact ⟨(_, σ'), ⟨by rw [cnN, if_neg q, Nat.add_zero], k2⟩, by rw [if_pos (by rw [lt_n (by omega) (by omega)]; omega)]⟩)
  simp only at i1 i3
  have hM1 : BM (mR σ1 0) u := (hT.2.2.1.fr (i3.sm 44 0 (by omega))).fr (mR_o (by omega))
  obtain ⟨m1, m2⟩ := a5 (mR σ1 0) hM1.f (by rw [mR_o (by omega), i3.sm 47 0 (by omega)])
  obtain ⟨⟨x2, σ2⟩, ⟨l1, l3⟩, em⟩ := lp0 (fun m i (s : Int32 × St) => LX8_settled_22 p1 (nI T) (fun (x12 : Int32) (σ13 : St) => some (x12, σ13)) m s.1 (nI (i + 1)) s.2) (fun s => some (s.1, s.2)) (2 ^ uN u - 1) (by omega)
    (fun i s => s.1 = nI (cnN (fun C => chT (uN u, uG u, uF u, C, uS u, w, L) 401) T i) ∧ MI (mR σ1 0) s.2) (0, mR σ1 0) ⟨nI_0.symm, kp_rf, fun _ _ _ => rfl⟩
    (fun m s hI => by
      have e3 : s.2.1 44 0 3 = nI (uN u) := by rw [kpc hI.2.1 44 0 rfl]; exact hM1.2.2.2.1
      rw [LX8_settled_22, gi_n (by omega) (by omega), cl (by omega), e3, shl_1 (by omega), if_pos (by rw [le_n (by omega) (by omega)]; omega)])
    (fun m i s hi hI => by
      obtain ⟨j1, j3⟩ := hI
      have e3 : s.2.1 44 0 3 = nI (uN u) := by rw [kpc j3.1 44 0 rfl]; exact hM1.2.2.2.1
      obtain ⟨σ', k1, k2, k3, k4⟩ := j3.pass (hq (i + 1) (by omega)) hM1.f hM1.2.1 m1 m2
      have hc4 := chT_400 (uN u, uG u, uF u, i + 1, uS u, w, L)
      have hset := m_settled (hq (i + 1) (by omega)) k3 k4
      rw [LX8_settled_22, gi_n (by omega) (by omega), cl (by omega), e3, shl_1 (by omega), if_neg (by rw [le_n (by omega) (by omega)]; omega), k1, bdS, hset, bdS, ltD, j1, add_n]
      by_cases q : chT (uN u, uG u, uF u, i + 1, uS u, w, L) 401 ≤ T
      · exact ⟨(_, σ'), ⟨by rw [cnN, if_pos q], k2⟩, by rw [if_neg (by rw [lt_n (by omega) (by omega)]; omega), add_n]⟩
      · exact ⟨(_, σ'), ⟨by rw [cnN, if_neg q, Nat.add_zero], k2⟩, by rw [if_pos (by rw [lt_n (by omega) (by omega)]; omega), add_0]⟩)
  simp only at l1 l3
  refine ⟨x1, σ1, σ2, by rw [a1, bdS]; exact ec, i3.sm, ?_, k_done h i3 l3.1 (by unfold okP; decide) (fun j y1 y2 _ _ _ => l3.2 j y1 y2)⟩
  refine em.trans ?_
  rw [i1, l1]
/-- the least window that is enough for the first sets -/
def enW (sr : Nat → Option Nat) : Nat → Option Nat
  | 0 => some 0
  | i + 1 => match enW sr i, sr (i + 1) with
    | some m, some v => some (if m < v then v else m)
    | _, _ => none
theorem enW_none {sr : Nat → Option Nat} {i : Nat} (h : enW sr i = none) : ∀ k, enW sr (i + k) = none := by
  intro k
  induction k with
  | zero => exact h
  | succ k ih => rw [← Nat.add_assoc, enW, ih]
theorem act_enough (p1 : Int32) : Act (fX7_enough p1) (fX8_enough p1) := by
  intro σ N h hN
  obtain ⟨w, w1, w2, w3, w4⟩ := pre_p h p1 0 (fX7_isPass p1) (by
    rcases k_pass p1 with ⟨-, z, -⟩ | ⟨z, -⟩
    · rw [z]; decide
    · rw [z]; decide)
  refine act_gate (Kc := (fun (σ1 : St) => bd (fX7_laid p1 σ1) fun _ (σ3 : St) => (LX7_enough_28 (fun (x12 : Int32) (σ13 : St) => some (x12, σ13)) FU 0 (nI 1) σ3))) (Km := (fun (σ3 : St) => (LX8_enough_21 p1 (fun (x12 : Int32) (σ13 : St) => some (x12, σ13)) FU 0 (nI 1) σ3))) h w1 (w2 _) (fun σ1 h1 => w3 σ1 h1 _) (fun z => ?_)
  obtain ⟨u, t, s, a, T, hT, hp, -, -⟩ := w4 z
  have hu := hT.1
  have hn := hu.n6
  have hn1 := hu.n1
  have hp64 : 2 ^ uN u ≤ 64 := Nat.pow_le_pow_right (n := 2) (by omega) hn
  have hp2 : 2 ≤ 2 ^ uN u := Nat.le_trans (by decide : 2 ≤ 2 ^ 1) (Nat.pow_le_pow_right (by omega) hn1)
  obtain ⟨w, L, σa, a1, a2, a3, a4, a5⟩ := k_lay h hT hp
  have hq : ∀ C, C < 2 ^ uN u → POk (uN u, uG u, uF u, C, uS u, w, L) := fun C hC => ⟨hn, hu.g.1, hu.g.2, hu.f, hC, hu.s, a4, a3, hu.sd⟩
  have ec := lpE0 (fun m i (s : Int32 × St) => LX7_enough_28 (fun (x12 : Int32) (σ13 : St) => some (x12, σ13)) m s.1 (nI (i + 1)) s.2) (2 ^ uN u - 1) (by omega)
    (fun i s => (∃ m, enW (fun C => srN (uN u, uG u, uF u, C, uS u, w, L)) i = some m ∧ s.1 = nI m ∧ m ≤ 400) ∧ LI u w L (cR σ 0) s.2)
    (fun r => ∃ σ', r = some (wv (enW (fun C => srN (uN u, uG u, uF u, C, uS u, w, L)) (2 ^ uN u - 1)), σ') ∧ LI u w L (cR σ 0) σ') (0, σa) ⟨⟨0, rfl, nI_0.symm, by omega⟩, a2⟩
    (fun m s hI => by
      obtain ⟨⟨v, v1, v2, v3⟩, j3⟩ := hI
      obtain ⟨P, P1, P2, P3, P4, P5⟩ := j3.sets hT
      refine ⟨s.2, ?_, j3⟩
      rw [LX7_enough_28, P1, gd_t P2, P5, bdS, if_pos (by rw [le_n (by omega) (by omega)]; omega), v1, v2, wv_some])
    (fun m i s hi hI => by
      obtain ⟨⟨v, v1, v2, v3⟩, j3⟩ := hI
      obtain ⟨P, P1, P2, P3, P4, P5⟩ := j3.sets hT
      obtain ⟨σ', k1, k2, k3⟩ := j3.play hu a3 hu.f (show i + 1 < 2 ^ uN u by omega)
      have hsr := c_sure (hq (i + 1) (by omega)) k3
      rw [LX7_enough_28, P1, gd_t P2, P5, bdS, if_neg (by rw [le_n (by omega) (by omega)]; omega), P1, gd_t P2, P3, k1, bdS, hsr, bdS, v2, ltD, add_n]
      cases hs : srN (uN u, uG u, uF u, i + 1, uS u, w, L) with
      | none =>
        right
        have e1 : enW (fun C => srN (uN u, uG u, uF u, C, uS u, w, L)) (i + 1) = none := by simp only [enW, v1, hs]
        have e2 := enW_none e1 (2 ^ uN u - 1 - (i + 1))
        rw [show i + 1 + (2 ^ uN u - 1 - (i + 1)) = 2 ^ uN u - 1 by omega] at e2
        exact ⟨σ', by rw [wv_none, if_pos rfl, e2, wv_none], k2⟩
      | some x =>
        left
        have hx := srN_400 hs
        refine ⟨(nI (if v < x then x else v), σ'), ⟨⟨if v < x then x else v, by simp only [enW, v1, hs], rfl, ?_⟩, k2⟩, ?_⟩
        · split <;> omega
        · rw [wv_some, if_neg (by rw [nm2 (by omega)]; exact id)]
          by_cases q : v < x
          · rw [if_pos (by rw [lt_n (by omega) (by omega)]; exact q), if_pos q]
          · rw [if_neg (by rw [lt_n (by omega) (by omega)]; exact q), if_neg q])
  obtain ⟨σ1, ec, i3⟩ := ec
  have hM1 : BM (mR σ1 0) u := (hT.2.2.1.fr (i3.sm 44 0 (by omega))).fr (mR_o (by omega))
  obtain ⟨m1, m2⟩ := a5 (mR σ1 0) hM1.f (by rw [mR_o (by omega), i3.sm 47 0 (by omega)])
  have em := lpE0 (fun m i (s : Int32 × St) => LX8_enough_21 p1 (fun (x12 : Int32) (σ13 : St) => some (x12, σ13)) m s.1 (nI (i + 1)) s.2) (2 ^ uN u - 1) (by omega)
    (fun i s => (∃ m, enW (fun C => srN (uN u, uG u, uF u, C, uS u, w, L)) i = some m ∧ s.1 = nI m ∧ m ≤ 400) ∧ MI (mR σ1 0) s.2)
    (fun r => ∃ σ', r = some (wv (enW (fun C => srN (uN u, uG u, uF u, C, uS u, w, L)) (2 ^ uN u - 1)), σ') ∧ MI (mR σ1 0) σ') (0, mR σ1 0) ⟨⟨0, rfl, nI_0.symm, by omega⟩, kp_rf, fun _ _ _ => rfl⟩
    (fun m s hI => by
      obtain ⟨⟨v, v1, v2, v3⟩, j3⟩ := hI
      have e3 : s.2.1 44 0 3 = nI (uN u) := by rw [kpc j3.1 44 0 rfl]; exact hM1.2.2.2.1
      refine ⟨s.2, ?_, j3⟩
      rw [LX8_enough_21, gi_n (by omega) (by omega), cl (by omega), e3, shl_1 (by omega), if_pos (by rw [le_n (by omega) (by omega)]; omega), v1, v2, wv_some])
    (fun m i s hi hI => by
      obtain ⟨⟨v, v1, v2, v3⟩, j3⟩ := hI
      have e3 : s.2.1 44 0 3 = nI (uN u) := by rw [kpc j3.1 44 0 rfl]; exact hM1.2.2.2.1
      obtain ⟨σ', k1, k2, k3, k4⟩ := j3.pass (hq (i + 1) (by omega)) hM1.f hM1.2.1 m1 m2
      have hsr := m_sure (hq (i + 1) (by omega)) k3 k4
      rw [LX8_enough_21, gi_n (by omega) (by omega), cl (by omega), e3, shl_1 (by omega), if_neg (by rw [le_n (by omega) (by omega)]; omega), k1, bdS, hsr, bdS, v2, ltD, add_n]
      cases hs : srN (uN u, uG u, uF u, i + 1, uS u, w, L) with
      | none =>
        right
        have e1 : enW (fun C => srN (uN u, uG u, uF u, C, uS u, w, L)) (i + 1) = none := by simp only [enW, v1, hs]
        have e2 := enW_none e1 (2 ^ uN u - 1 - (i + 1))
        rw [show i + 1 + (2 ^ uN u - 1 - (i + 1)) = 2 ^ uN u - 1 by omega] at e2
        exact ⟨σ', by rw [wv_none, if_pos rfl, e2, wv_none], k2⟩
      | some x =>
        left
        have hx := srN_400 hs
        refine ⟨(nI (if v < x then x else v), σ'), ⟨⟨if v < x then x else v, by simp only [enW, v1, hs], rfl, ?_⟩, k2⟩, ?_⟩
        · split <;> omega
        · rw [wv_some, if_neg (by rw [nm2 (by omega)]; exact id)]
          by_cases q : v < x
          · rw [if_neg (by rw [le_n (by omega) (by omega)]; omega), if_pos q]
          · rw [if_pos (by rw [le_n (by omega) (by omega)]; omega), if_neg q])
  obtain ⟨σ2, em, l3⟩ := em
  exact ⟨_, σ1, σ2, by rw [a1, bdS]; exact ec, i3.sm, em, k_done h i3 l3.1 (by unfold okP; decide) (fun j y1 y2 _ _ _ => l3.2 j y1 y2)⟩
