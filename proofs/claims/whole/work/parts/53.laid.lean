/-! ===== a pass that is asked about: laid and played ===== -/
theorem wA_self (σ : St) (a b : Nat) : wA σ a b (σ.1 a b) = σ := by
  refine Prod.ext (funext fun x => funext fun y => ?_) rfl
  rw [rA]
  by_cases q : x = a ∧ y = b
  · rw [if_pos q, q.1, q.2]
  · rw [if_neg q]
/-- the model's bus, but for its filter -/
def BMf (σ : St) (u : BU) : Prop := σ.1 44 0 0 = nI (uG u) ∧ σ.1 44 0 2 = nI (uW u) ∧ σ.1 44 0 3 = nI (uN u) ∧ ∀ b, b < uN u → σ.1 44 0 (5 + b) = nI (uS u b) ∧ σ.1 44 0 (11 + b) = nI (uC u b) ∧ σ.1 44 0 (17 + b) = nI (uR u b)
theorem BM.f {σ : St} {u : BU} (h : BM σ u) : BMf σ u := ⟨h.1, h.2.2.1, h.2.2.2.1, h.2.2.2.2.2.1⟩
abbrev SL : List (Nat × Nat × Nat) := [(1, 0, 1), (12, 0, 6), (31, 0, 1), (10, 0, 1)]
theorem k_laid {u : BU} {σ : St} {t s a : Nat} {p1 : Int32} (hT : Told u σ t s a) (hD : D13 σ) (hp : p1 = nI 1 ∨ p1 = nI 2) :
    ∃ (w L : Nat → Nat) (σ' : St), fX7_laid p1 σ = some ((), σ') ∧ Kp SL σ σ' ∧ CW σ' (uN u) (uG u) (uS u) L ∧ D13 σ' ∧ (∀ b, b < uN u → σ'.1 10 0 b = nI (w b) ∧ w b < 64) ∧ (∀ l, l < 6 → L l ≤ 2) ∧ ∀ σm, BMf σm u → σm.1 47 0 = σ.1 47 0 → (∀ l, l < 6 → σm.1 47 0 (12 + l) = nI (L l)) ∧ ∀ (b : Nat) (s : St), b < uN u → Kp SE σm s → fX8_wordOf (nI b) p1 s = some (nI (w b), s) := by
  obtain ⟨hu, hP0, hM, ⟨d, ⟨P, hP, hB, hPu⟩, h1, h2, h3, h4, h5, h6, h7, -⟩, -⟩ := hT
  have hn := hu.n6
  rw [hP] at hP0
  obtain ⟨fr, f1, f2, f3⟩ := h6
  obtain ⟨wt, μ, w1, w2, w3⟩ := h7
  have hp64 : 2 ^ uN u ≤ 64 := Nat.pow_le_pow_right (n := 2) (by omega) hn
  have hL : ∀ l, l < 6 → σ.1 33 0 l = nI ((σ.1 33 0 l).toNatClampNeg) ∧ (σ.1 33 0 l).toNatClampNeg ≤ 2 ∧ σ.1 47 0 (12 + l) = σ.1 33 0 l := fun l hl => by
    obtain ⟨v, v1, v2, v3⟩ := h4 l hl
    rw [v1, cl (by omega)]
    exact ⟨rfl, v3, v2⟩
  generalize hLf : (fun l => (σ.1 33 0 l).toNatClampNeg) = L
  have eL : ∀ l, (σ.1 33 0 l).toNatClampNeg = L l := fun l => by rw [← hLf]
  simp only [eL] at hL
  clear hLf eL
  have cl1 := c_lines (σ := σ) (k := 0) (v := 1) (L := L) (by omega) (fun l hl => ⟨(hL l hl).1, (hL l hl).2.1⟩)
  have cl2 := c_lines (σ := σ) (k := 0) (v := 2) (L := L) (by omega) (fun l hl => ⟨(hL l hl).1, (hL l hl).2.1⟩)
  obtain ⟨σ6, e6, a1, a2, a3, a4, a5, a6, a7⟩ := c_wire (σ := σ) (k1 := P) (n := uN u) (g := uG u) (st := thL L 1) (br := thL L 2) (s := uS u) hn hB.2.2.2.2.1 hB.2.1 (fun b hb => ⟨(hB.2.2.2.2.2.2.1 b hb).1, hu.s b hb⟩)
  have hD6 : D13 σ6 := hD.fr (a2 13 (by omega)) (fun o => kpc a1 22 o rfl)
  have hCW6 : CW σ6 (uN u) (uG u) (uS u) L := ⟨a3, a4, a7, a5, a6⟩
  have h6P : σ6.2.2 7 0 6 = P := by rw [kpr a1 7 0 rfl]; exact hP0.symm
  have lines : ∀ σm : St, σm.1 47 0 = σ.1 47 0 → ∀ l, l < 6 → σm.1 47 0 (12 + l) = nI (L l) := fun σm e l hl => by rw [e, (hL l hl).2.2]; exact (hL l hl).1
  have start : fX7_laid p1 σ = (jn (fun (c8 : Nat) (k9 : Nat) (σ7 : St) => gd (¬ (0 : Int32) < 0 ∧ ¬ (0 : Int32) < 0 ∧ ¬ ((nI 6) : Int32) < 0 ∧ (0 : Int32).toNatClampNeg + (nI 6).toNatClampNeg ≤ 6 ∧ (0 : Int32).toNatClampNeg + (nI 6).toNatClampNeg ≤ 6) <| lt (wA σ7 10 0 (va_cpy (σ7.1 c8 k9) (σ7.1 10 0) ((0 : Int32).toNatClampNeg) ((0 : Int32).toNatClampNeg) ((nI 6).toNatClampNeg))) fun (σ13 : St) => some ((), σ13)) fun j54 => if p1 = (nI 1) then bd (fX4_rankWords 0 σ6) fun _ (σ15 : St) => j54 31 0 σ15 else gd (σ6.2.2 7 0 6 < 6) <| j54 27 (σ6.2.2 7 0 6) σ6) := by
    unfold fX7_laid
    rw [← hP0, gd_t hB.1, cl1, bdS, cl2, bdS, e6, bdS]
  rw [start, jnD]
  have fin : ∀ (c8 k9 : Nat) (σ7 : St) (w : Nat → Nat), Kp SL σ σ7 → CW σ7 (uN u) (uG u) (uS u) L → D13 σ7 → (∀ b, b < uN u → σ7.1 c8 k9 b = nI (w b) ∧ w b < 64) → (∀ σm, BMf σm u → σm.1 47 0 = σ.1 47 0 → ∀ (b : Nat) (s : St), b < uN u → Kp SE σm s → fX8_wordOf (nI b) p1 s = some (nI (w b), s)) →
      ∃ (w L : Nat → Nat) (σ' : St), (gd (¬ (0 : Int32) < 0 ∧ ¬ (0 : Int32) < 0 ∧ ¬ ((nI 6) : Int32) < 0 ∧ (0 : Int32).toNatClampNeg + (nI 6).toNatClampNeg ≤ 6 ∧ (0 : Int32).toNatClampNeg + (nI 6).toNatClampNeg ≤ 6) <| lt (wA σ7 10 0 (va_cpy (σ7.1 c8 k9) (σ7.1 10 0) ((0 : Int32).toNatClampNeg) ((0 : Int32).toNatClampNeg) ((nI 6).toNatClampNeg))) fun (σ13 : St) => some ((), σ13)) = some ((), σ') ∧ Kp SL σ σ' ∧ CW σ' (uN u) (uG u) (uS u) L ∧ D13 σ' ∧ (∀ b, b < uN u → σ'.1 10 0 b = nI (w b) ∧ w b < 64) ∧ (∀ l, l < 6 → L l ≤ 2) ∧ ∀ σm, BMf σm u → σm.1 47 0 = σ.1 47 0 → (∀ l, l < 6 → σm.1 47 0 (12 + l) = nI (L l)) ∧ ∀ (b : Nat) (s : St), b < uN u → Kp SE σm s → fX8_wordOf (nI b) p1 s = some (nI (w b), s) := by
    intro c8 k9 σ7 w k1 k2 k3 k4 k5
    rw [gd_t (by decide), ltD]
    have z : ∀ x y, x ≠ 10 → (wA σ7 10 0 (va_cpy (σ7.1 c8 k9) (σ7.1 10 0) ((0 : Int32).toNatClampNeg) ((0 : Int32).toNatClampNeg) ((nI 6).toNatClampNeg))).1 x y = σ7.1 x y := fun x y q => by rw [rA, if_neg (fun q' => q q'.1)]
    refine ⟨w, L, _, rfl, k1.wA (fr_m 3 rfl (Nat.le_refl _) (by omega)), ?_, k3.fr (by rw [z 1 0 (by omega)]) (fun o => z 22 o (by omega)), fun b hb => ⟨?_, (k4 b hb).2⟩, fun l hl => (hL l hl).2.1, fun σm e1 e2 => ⟨lines σm e2, k5 σm e1 e2⟩⟩
    · unfold CW
      rw [z 1 0 (by omega)]
      exact ⟨k2.1, k2.2.1, fun x y hx hy => by rw [z 12 x (by omega)]; exact k2.2.2.1 x y hx hy, k2.2.2.2⟩
    · rw [rA, if_pos ⟨rfl, rfl⟩, cpy6 _ _ (by omega)]; exact (k4 b hb).1
  have mW : ∀ σm, BMf σm u → σm.1 47 0 = σ.1 47 0 → MW σm wt (uN u) μ (uR u) (tuN fr) (uC u) := fun σm e1 e2 =>
    ⟨hn, e1.2.2.1, w1, w2, fun b hb => by rw [e2]; exact (w3 b hb).2, fun b hb => ⟨(e1.2.2.2 b hb).2.2, hu.r b hb⟩, fun b hb => ⟨by rw [e2]; exact f3 b hb, tuN_le _ _⟩, fun b hb => ⟨(e1.2.2.2 b hb).2.1, (hu.c b hb).2⟩⟩
  rcases hp with rfl | rfl
  · rw [if_pos rfl]
    have h6R : σ6.2.2 4 0 1 = P := by rw [kpr a1 4 0 rfl]; exact hP
    obtain ⟨σ7, y1, y2, y3⟩ := c_words (σ := σ6) (k := 0) (n := uN u) (fr := fr) (w := wt) (μ := μ) (rk := uR u) ⟨by rw [h6R]; exact hB.1, by rw [h6R, kpc a1 2 P rfl]; exact hB.2.2.2.2.1, hn⟩ w1 w2 (fun o ho => by rw [kpc a1 36 0 rfl]; exact (w3 o ho).1) (fun o ho => by rw [h6R, kpc a1 26 P rfl]; exact (hB.2.2.2.2.2.2.1 o ho).2.2.1) hu.r (by rw [kpc a1 4 0 rfl]; exact f1) (by omega)
    rw [y1, bdS]
    refine fin 31 0 σ7 (wd1 wt (uR u) (tuN fr) (uN u)) ((kp_rf.tr a1 (kp_pick [0, 1] rfl)).tr y2 (kp_pick [2] rfl)) ?_ (hD6.fr (by rw [kpc y2 1 0 rfl]) (fun o => kpc y2 22 o rfl)) (fun b hb => ⟨y3 b hb, (wd1_lt hu.r (tuN_le _ _)).1⟩) (fun σm e1 e2 b s hb hk => m_word1 ((mW σm e1 e2).kp hk) hb)
    unfold CW
    rw [kpc y2 1 0 rfl]
    exact ⟨hCW6.1, hCW6.2.1, fun x y hx hy => by rw [kpc y2 12 x rfl]; exact hCW6.2.2.1 x y hx hy, hCW6.2.2.2⟩
  · rw [if_neg (by decide), h6P, gd_t hB.1]
    exact fin 27 P σ6 (wd2 (uC u)) (kp_rf.tr a1 (kp_pick [0, 1] rfl)) hCW6 hD6 (fun b hb => ⟨by rw [kpc a1 27 P rfl]; exact (hB.2.2.2.2.2.2.1 b hb).2.2.2, (wd2_lt (hu.c b hb).2).1⟩) (fun σm e1 e2 b s hb hk => m_word2 ((mW σm e1 e2).kp hk) hb)
/-- the class plays once it is laid -/
theorem k_play {u : BU} {σ : St} {w L : Nat → Nat} (hu : UOk u) (hC : CW σ (uN u) (uG u) (uS u) L) (hD : D13 σ) (hw : ∀ b, b < uN u → σ.1 10 0 b = nI (w b) ∧ w b < 64) (hL : ∀ l, l < 6 → L l ≤ 2) {f C : Nat} (hf : f ≤ 20) (hc : C < 2 ^ uN u) :
    POk (uN u, uG u, f, C, uS u, w, L) ∧ ∃ σ', fX1_play (nI C) (nI f) (nI 400) σ = some ((), σ') ∧ Kp SR σ σ' ∧ CW σ' (uN u) (uG u) (uS u) L ∧ D13 σ' ∧ (∀ b, b < uN u → σ'.1 10 0 b = nI (w b) ∧ w b < 64) ∧ PR σ' (uN u, uG u, f, C, uS u, w, L) 400 := by
  have hq : POk (uN u, uG u, f, C, uS u, w, L) := ⟨hu.n6, hu.g.1, hu.g.2, hf, hc, hu.s, fun b hb => (hw b hb).2, hL, hu.sd⟩
  obtain ⟨σ', e, k1, k2, k3, k4⟩ := c_round hq hC hD (σ.1 10 0) (fun b hb => (hw b hb).1) (Nat.le_refl 400)
  rw [wA_self] at e
  refine ⟨hq, σ', e, k1, k2, k3, fun b hb => ⟨?_, (hw b hb).2⟩, k4⟩
  obtain ⟨-, T, -, g, -⟩ := k4
  exact g.1.2.2.2.2.2.1 b hb
/-- the model's passes at that pass -/
theorem k_passes {u : BU} {σm : St} {p1 : Int32} {w L : Nat → Nat} {f C : Nat} (hq : POk (uN u, uG u, f, C, uS u, w, L)) (hM : BMf σm u) (hf : σm.1 44 0 1 = nI f) (hL : ∀ l, l < 6 → σm.1 47 0 (12 + l) = nI (L l)) (hw : ∀ (b : Nat) (s : St), b < uN u → Kp SE σm s → fX8_wordOf (nI b) p1 s = some (nI (w b), s)) :
    ∃ σ', fX8_passes p1 (nI C) σm = some ((), σ') ∧ Kp SE σm σ' ∧ (∀ j, j ≠ 23 → j ≠ 29 → σ'.1 8 0 j = σm.1 8 0 j) ∧ MPr σ' (uN u, uG u, f, C, uS u, w, L) ∧ MA σ' (uN u, uG u, f, C, uS u, w, L) (tb (uN u, uG u, f, C, uS u, w, L) 401) 401 :=
  m_passes (q := (uN u, uG u, f, C, uS u, w, L)) (win := uW u) hq ⟨hM.2.2.1, hM.1, hf, hM.2.1, fun b hb => (hM.2.2.2 b hb).1, hL⟩ hw
abbrev SQ : List (Nat × Nat × Nat) := [(1, 0, 1), (12, 0, 6), (31, 0, 1), (10, 0, 1), (14, 0, 6), (16, 0, 6), (18, 0, 6), (20, 0, 6), (22, 0, 6)]
/-- both sides lay one pass; what reads it may be any -/
theorem k_both {u : BU} {σ : St} {t s a N C : Nat} {p1 : Int32} (h : Rel σ N) (hT : Told u σ t s a) (hp : p1 = nI 1 ∨ p1 = nI 2) (hC : C < 2 ^ uN u) :
    ∃ (q : PP) (σ1 σ2 : St), POk q ∧ pN q = uN u ∧ pC q = C ∧ fX7_played p1 (nI C) (cR σ 0) = some ((), σ1) ∧ PR σ1 q 400 ∧ Sm8 σ σ1 ∧ fX8_passes p1 (nI C) (mR σ1 0) = some ((), σ2) ∧ MPr σ2 q ∧ MA σ2 q (tb q 401) 401 ∧ Rel σ2 (N + 1) := by
  have hu := hT.1
  have hT0 : Told u (cR σ 0) t s a := by
    obtain ⟨k1, k2, k3, k4, k5⟩ := hT
    exact ⟨k1, k2, k3.fr (cR_o (by omega)), k4.fr (fun x y z => cR_o (by omega)) rfl, k5⟩
  have hD0 : D13 (cR σ 0) := h.2.2.1.fr (by rw [cR_o (by omega)]) (fun o => cR_o (by omega))
  obtain ⟨w, L, σa, a1, a2, a3, a4, a5, a6, a7⟩ := k_laid hT0 hD0 hp
  obtain ⟨hq, σ1, b1, b2, b3, b4, b5, b6⟩ := k_play hu a3 a4 a5 a6 hu.f hC
  have kS : Kp SQ (cR σ 0) σ1 := (kp_rf.tr a2 (kp_pick [0, 1, 2, 3] rfl)).tr b2 (kp_pick [0, 4, 5, 6, 7, 8, 3] rfl)
  have hs : Sm8 σ σ1 := Sm8.cR.tr (Sm8.kp kS (by decide))
  have hP : σa.2.2 7 0 6 = σ.2.2 7 0 6 := by rw [kpr a2 7 0 rfl]; rfl
  obtain ⟨d, ⟨P, hP', hB, hPu⟩, -⟩ := hT.2.2.2.1
  have hP2 : σ.2.2 7 0 6 = P := hT.2.1.symm.trans hP'
  have ec : fX7_played p1 (nI C) (cR σ 0) = some ((), σ1) := by
    unfold fX7_played
    have e1 : σa.1 2 P 1 = nI (uF u) := by rw [kpc a2 2 P rfl, cR_o (by omega)]; exact hB.2.2.1
    rw [a1, bdS, hP, hP2, gd_t hB.1, e1, b1, bdS]
  have hM1 : BM (mR σ1 0) u := (hT.2.2.1.fr (hs 44 0 (by omega))).fr (mR_o (by omega))
  have h47 : (mR σ1 0).1 47 0 = (cR σ 0).1 47 0 := by rw [mR_o (by omega), hs 47 0 (by omega), cR_o (by omega)]
  obtain ⟨m1, m2⟩ := a7 (mR σ1 0) hM1.f h47
  obtain ⟨σ2, c1, c2, c3, c4, c5⟩ := k_passes hq hM1.f hM1.2.1 m1 m2
  refine ⟨_, σ1, σ2, hq, rfl, rfl, ec, b6, hs, c1, c4, c5, h.qt (((Qt.cR.tr (Qt.kp kS (by unfold okP; decide) (fun j z => by rw [kpc kS 8 0 rfl]))).tr Qt.mR).tr (Qt.kp c2 (by unfold okP; decide) (fun j z => c3 j (by omega) (by omega)))) ?_ ?_ ?_⟩
  · rw [kpc c2 7 0 rfl, mR_o (by omega), kpc kS 7 0 rfl, cR_10, c3 1 (by omega) (by omega), mR_1]
  · intro z
    rw [c3 1 (by omega) (by omega), mR_1] at z
    exact absurd z (by decide)
  · exact b4.fr (by rw [kpc c2 1 0 rfl, mR_o (by omega)]) (fun o => by rw [kpc c2 22 o rfl, mR_o (by omega)])
