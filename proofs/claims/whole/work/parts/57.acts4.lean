/-! ===== acts: filters; whom an arbitration would elect ===== -/
/-- is this filter good? -/
def gdF (sr : Nat → Option Nat) (win f : Nat) : Bool := match sr f with
  | none => false
  | some v => decide (v ≤ win)
theorem gdF_n {sr : Nat → Option Nat} {win f : Nat} (h : sr f = none) : ¬ gdF sr win f = true := by
  unfold gdF
  rw [h]
  exact fun z => by cases z
theorem gdF_s {sr : Nat → Option Nat} {win f x : Nat} (h : sr f = some x) : gdF sr win f = decide (x ≤ win) := by
  unfold gdF
  rw [h]
theorem kp3 {S : List (Nat × Nat × Nat)} {σ σ' : St} (h : Kp S σ σ') (ci k : Nat) (hne : S.all (fun e => !(e.1 == ci)) = true) : σ'.1 ci k = σ.1 ci k ∧ σ'.2.1 ci k = σ.2.1 ci k ∧ σ'.2.2 ci k = σ.2.2 ci k :=
  h ci k (fun e he z => by
    have := List.all_eq_true.mp hne e he
    simp [z.1] at this)
/-- the least good one of the last d filters -/
def lfN (g : Nat → Bool) : Nat → Option Nat
  | 0 => none
  | d + 1 => if g (20 - d) = true then some (20 - d) else lfN g d
theorem act_filters (p1 p2 : Int32) : Act (fX7_filters p1 p2) (fX8_filters p1 p2) := by
  intro σ N h hN
  obtain ⟨w, w1, w2, w3, w4⟩ := pre_t h p1 p2 0 (fun r => r) (Or.inr ⟨rfl, fun _ => rfl⟩)
  refine act_gate (Kc := (fun (σ3 : St) => bd (fX7_laid p1 σ3) fun _ (σ5 : St) => (LX7_filters_28 p2 (fun (σ11 : St) => some ((-2), σ11)) FU 0 σ5))) (Km := (fun (σ3 : St) => gi (nI 1) 59 <| lt (σ3.1 44 0 (nI 1).toNatClampNeg) fun (x5 : Int32) => (LX8_filters_32 p1 p2 x5 (fun (x13 : Int32) (σ14 : St) => gi (nI 1) 59 <| lt (wI σ14 44 0 (nI 1).toNatClampNeg x5) fun (σ15 : St) => some (x13, σ15)) FU (-2) (nI 20) σ3))) h w1 (w2 _) (fun σ1 h1 => w3 σ1 h1 _) (fun z => ?_)
  obtain ⟨u, t, s, a, C, T, hT, hC0, hC, rfl, hp, hT4, hp4⟩ := w4 z
  have hu := hT.1
  have hn := hu.n6
  have hw2 := hu.w.2
  obtain ⟨w, L, σa, a1, a2, a3, a4, a5⟩ := k_lay h hT hp
  have hq : ∀ f, f ≤ 20 → POk (uN u, uG u, f, C, uS u, w, L) := fun f hf => ⟨hn, hu.g.1, hu.g.2, hf, hC, hu.s, a4, a3, hu.sd⟩
  have ec := lpE0 (fun m i (s : St) => LX7_filters_28 (nI C) (fun (σ11 : St) => some ((-2), σ11)) m (nI i) s) 21 (by omega)
    (fun i s => lfN (gdF (fun f => srN (uN u, uG u, f, C, uS u, w, L)) (uW u)) 21 = lfN (gdF (fun f => srN (uN u, uG u, f, C, uS u, w, L)) (uW u)) (21 - i) ∧ LI u w L (cR σ 0) s)
    (fun r => ∃ σ', r = some (wv (lfN (gdF (fun f => srN (uN u, uG u, f, C, uS u, w, L)) (uW u)) 21), σ') ∧ LI u w L (cR σ 0) σ') σa ⟨rfl, a2⟩
    (fun m s hI => by
      refine ⟨s, ?_, hI.2⟩
      rw [LX7_filters_28, if_pos (by rw [lt_n (by omega) (by omega)]; omega), hI.1]
      rfl)
    (fun m i s hi hI => by
      obtain ⟨j1, j3⟩ := hI
      obtain ⟨P, P1, P2, P3, P4, P5⟩ := LI.sets hT j3
      obtain ⟨σ', k1, k2, k3⟩ := j3.play hu a3 (show i ≤ 20 by omega) hC
      obtain ⟨P', P1', P2', P3', P4', P5'⟩ := LI.sets hT k2
      have hsr := c_sure (hq i (by omega)) k3
      have hd : lfN (gdF (fun f => srN (uN u, uG u, f, C, uS u, w, L)) (uW u)) (21 - i) = if gdF (fun f => srN (uN u, uG u, f, C, uS u, w, L)) (uW u) i = true then some i else lfN (gdF (fun f => srN (uN u, uG u, f, C, uS u, w, L)) (uW u)) (21 - (i + 1)) := by
        rw [show 21 - i = (20 - i) + 1 by omega, lfN, show 20 - (20 - i) = i by omega, show 21 - (i + 1) = 20 - i by omega]
      rw [LX7_filters_28, if_neg (by rw [lt_n (by omega) (by omega)]; omega), k1, bdS, hsr, bdS, jnD, P1', gd_t P2', P4', add_n]
      cases hs : srN (uN u, uG u, i, C, uS u, w, L) with
      | none =>
        left
        refine ⟨σ', ⟨?_, k2⟩, by rw [wv_none, if_pos rfl]⟩
        rw [j1, hd, if_neg (gdF_n (sr := fun f => srN (uN u, uG u, f, C, uS u, w, L)) hs)]
      | some x =>
        have hx := srN_400 hs
        have nx : ¬ nI x = -2 := by rw [nm2 (by omega)]; exact id
        rw [wv_some, if_neg nx]
        by_cases q : x ≤ uW u
        · right
          refine ⟨σ', ?_, k2⟩
          rw [if_neg (by rw [lt_n (by omega) (by omega)]; omega), j1, hd, if_pos (by rw [gdF_s (sr := fun f => srN (uN u, uG u, f, C, uS u, w, L)) hs]; exact decide_eq_true q), wv_some]
        · left
          refine ⟨σ', ⟨?_, k2⟩, by rw [if_pos (by rw [lt_n (by omega) (by omega)]; omega)]⟩
          rw [j1, hd, if_neg (by rw [gdF_s (sr := fun f => srN (uN u, uG u, f, C, uS u, w, L)) hs]; exact fun z => q (of_decide_eq_true z))])
  obtain ⟨σ1, ec, i3⟩ := ec
  have hM1 : BM (mR σ1 0) u := (hT.2.2.1.fr (i3.sm 44 0 (by omega))).fr (mR_o (by omega))
  have h47 : (mR σ1 0).1 47 0 = σ.1 47 0 := by rw [mR_o (by omega), i3.sm 47 0 (by omega)]
  obtain ⟨⟨x2, σ2⟩, ⟨l1, l2, l3, l4, l5, l6⟩, em⟩ := lp0 (fun m i (s : Int32 × St) => LX8_filters_32 p1 (nI C) (nI (uF u)) (fun (x13 : Int32) (σ14 : St) => gi (nI 1) 59 <| lt (wI σ14 44 0 (nI 1).toNatClampNeg (nI (uF u))) fun (σ15 : St) => some (x13, σ15)) m s.1 (nI (21 - i) + (-1)) s.2) (fun s => some (s.1, wI s.2 44 0 1 (nI (uF u)))) 21 (by omega)
    (fun i s => s.1 = wv (lfN (gdF (fun f => srN (uN u, uG u, f, C, uS u, w, L)) (uW u)) i) ∧ Kp ((44, 0, 1) :: SE) (mR σ1 0) s.2 ∧ (∀ j, j ≠ 1 → s.2.1 44 0 j = (mR σ1 0).1 44 0 j) ∧ (∀ j, j ≠ 23 → j ≠ 29 → s.2.1 8 0 j = (mR σ1 0).1 8 0 j) ∧ s.2.2.1 44 0 = (mR σ1 0).2.1 44 0 ∧ s.2.2.2 44 0 = (mR σ1 0).2.2 44 0) (-2, mR σ1 0) ⟨rfl, kp_rf, fun _ _ => rfl, fun _ _ _ => rfl, rfl, rfl⟩
    (fun m s hI => by
      rw [LX8_filters_32, if_pos (by decide), gi_n (by omega) (by omega), cl (by omega), ltD])
    (fun m i s hi hI => by
      obtain ⟨j1, j2, j3, j4, j5, j6⟩ := hI
      have e44 : ∀ v j, j ≠ 1 → (wI s.2 44 0 1 v).1 44 0 j = (mR σ1 0).1 44 0 j := fun v j hj => by rw [wIj (by omega)]; exact j3 j hj
      have hB : ∀ v, BMf (wI s.2 44 0 1 v) u := fun v => by
        obtain ⟨g1, g2, g3, g4⟩ := hM1.f
        refine ⟨?_, ?_, ?_, fun b hb => ⟨?_, ?_, ?_⟩⟩
        · rw [e44 v 0 (by omega)]; exact g1
        · rw [e44 v 2 (by omega)]; exact g2
        · rw [e44 v 3 (by omega)]; exact g3
        · rw [e44 v _ (by omega)]; exact (g4 b hb).1
        · rw [e44 v _ (by omega)]; exact (g4 b hb).2.1
        · rw [e44 v _ (by omega)]; exact (g4 b hb).2.2
      have e47 : ∀ v, (wI s.2 44 0 1 v).1 47 0 = σ.1 47 0 := fun v => by rw [wIc (by omega), kpc j2 47 0 rfl]; exact h47
      obtain ⟨m1, m2⟩ := a5 (wI s.2 44 0 1 (nI (20 - i))) (hB _) (e47 _)
      obtain ⟨σ', k1, k2, k3, k4, k5⟩ := k_passes (σm := wI s.2 44 0 1 (nI (20 - i))) (p1 := p1) (f := 20 - i) (hq (20 - i) (by omega)) (hB _) (wIe (by omega)) m1 m2
      have hsr := m_sure (hq (20 - i) (by omega)) k4 k5
      have ew : σ'.1 44 0 2 = nI (uW u) := by rw [kpc k2 44 0 rfl]; exact (hB _).2.1
      have inv : ∀ x, x = wv (lfN (gdF (fun f => srN (uN u, uG u, f, C, uS u, w, L)) (uW u)) (i + 1)) → x = wv (lfN (gdF (fun f => srN (uN u, uG u, f, C, uS u, w, L)) (uW u)) (i + 1)) ∧ Kp ((44, 0, 1) :: SE) (mR σ1 0) σ' ∧ (∀ j, j ≠ 1 → σ'.1 44 0 j = (mR σ1 0).1 44 0 j) ∧ (∀ j, j ≠ 23 → j ≠ 29 → σ'.1 8 0 j = (mR σ1 0).1 8 0 j) ∧ σ'.2.1 44 0 = (mR σ1 0).2.1 44 0 ∧ σ'.2.2 44 0 = (mR σ1 0).2.2 44 0 := fun x hx =>
        ⟨hx, (j2.wI (fr_m 0 rfl (Nat.le_refl _) (by omega))).tr k2 (fun e he => List.mem_cons_of_mem _ he), fun j hj => by rw [kpc k2 44 0 rfl]; exact e44 _ j hj, fun j y1 y2 => by rw [k3 j y1 y2, wIj (by omega)]; exact j4 j y1 y2, (kp3 k2 44 0 rfl).2.1.trans j5, (kp3 k2 44 0 rfl).2.2.trans j6⟩
      rw [LX8_filters_32, pred_n (by omega), show 21 - i - 1 = 20 - i by omega, if_neg (by rw [lt_0n (by omega)]; exact id), gi_n (by omega) (by omega), cl (by omega), ltD, k1, bdS, hsr, bdS, jnD, jnD, gi_n (by omega) (by omega), cl (by omega), ew]
      have hd : lfN (gdF (fun f => srN (uN u, uG u, f, C, uS u, w, L)) (uW u)) (i + 1) = if gdF (fun f => srN (uN u, uG u, f, C, uS u, w, L)) (uW u) (20 - i) = true then some (20 - i) else lfN (gdF (fun f => srN (uN u, uG u, f, C, uS u, w, L)) (uW u)) i := rfl
      rw [show 21 - (i + 1) = 20 - i by omega]
      cases hs : srN (uN u, uG u, 20 - i, C, uS u, w, L) with
      | none =>
        refine ⟨(s.1, σ'), inv s.1 ?_, by rw [wv_none, if_pos rfl]⟩
        rw [hd, if_neg (gdF_n (sr := fun f => srN (uN u, uG u, f, C, uS u, w, L)) hs)]
        exact j1
      | some x =>
        have hx := srN_400 hs
        have nx : ¬ nI x = -2 := by rw [nm2 (by omega)]; exact id
        rw [wv_some, if_neg nx]
        by_cases q : x ≤ uW u
        · refine ⟨(nI (20 - i), σ'), inv _ ?_, by rw [if_neg (by rw [lt_n (by omega) (by omega)]; omega)]⟩
          rw [hd, if_pos (by rw [gdF_s (sr := fun f => srN (uN u, uG u, f, C, uS u, w, L)) hs]; exact decide_eq_true q), wv_some]
        · refine ⟨(s.1, σ'), inv _ ?_, by rw [if_pos (by rw [lt_n (by omega) (by omega)]; omega)]⟩
          rw [hd, if_neg (by rw [gdF_s (sr := fun f => srN (uN u, uG u, f, C, uS u, w, L)) hs]; exact fun z => q (of_decide_eq_true z))]
          exact j1)
  simp only at l1 l2 l3 l4 l5 l6
  have hback : (wI σ2 44 0 1 (nI (uF u))).1 44 0 = (mR σ1 0).1 44 0 := by
    funext j
    rw [rI]
    by_cases q : j = 1
    · rw [if_pos ⟨rfl, rfl, q⟩, q]; exact hM1.2.1.symm
    · rw [if_neg (fun z => q z.2.2)]; exact l3 j q
  have hKf : Kp SE (mR σ1 0) (wI σ2 44 0 1 (nI (uF u))) := by
    intro x y hxy
    by_cases q : x = 44 ∧ y = 0
    · obtain ⟨rfl, rfl⟩ := q
      exact ⟨hback, l5, l6⟩
    · have hne : ∀ e ∈ ((44, 0, 1) :: SE), ¬ (e.1 = x ∧ e.2.1 ≤ y ∧ y < e.2.2) := fun e he z => by
        rcases List.mem_cons.mp he with rfl | he'
        · simp only at z; omega
        · exact hxy e he' z
      obtain ⟨g1, g2, g3⟩ := l2 x y hne
      exact ⟨by rw [wIk q]; exact g1, g2, g3⟩
  refine ⟨_, σ1, wI σ2 44 0 1 (nI (uF u)), by rw [a1, bdS]; exact ec, i3.sm, ?_, k_done h i3 hKf (by unfold okP; decide) (fun j y1 y2 _ _ _ => by rw [wIj (by omega)]; exact l4 j y1 y2)⟩
  show (gi (nI 1) 59 <| lt ((mR σ1 0).1 44 0 (nI 1).toNatClampNeg) fun (x5 : Int32) => (LX8_filters_32 p1 (nI C) x5 (fun (x13 : Int32) (σ14 : St) => gi (nI 1) 59 <| lt (wI σ14 44 0 (nI 1).toNatClampNeg x5) fun (σ15 : St) => some (x13, σ15)) FU (-2) (nI 20) (mR σ1 0))) = _
  rw [gi_n (by omega) (by omega), ltD, cl (show 1 < 2147483648 by omega), hM1.2.1]
  have em' : LX8_filters_32 p1 (nI C) (nI (uF u)) (fun (x13 : Int32) (σ14 : St) => gi (nI 1) 59 <| lt (wI σ14 44 0 1 (nI (uF u))) fun (σ15 : St) => some (x13, σ15)) FU (-2) (nI 20) (mR σ1 0) = some (x2, wI σ2 44 0 1 (nI (uF u))) := by
    have e0 : nI (21 - 0) + (-1) = nI 20 := by decide
    simp only [e0, cl (show 1 < 2147483648 by omega)] at em
    exact em
  rw [em', l1]
