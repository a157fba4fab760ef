/-! ===== acts: whom an arbitration would elect; who has asked longest ===== -/
theorem act_would (p1 : Int32) : Act (fX7_would p1) (fX8_would p1) := by
  intro σ N h hN
  have hPl := h.2.2.2.1.1
  rcases h.2.2.2.2 with hN | ⟨b1, b2, u, t, s, a, t1, t2, hT, -⟩
  · have hy : ∃ y, fX7_isSet p1 σ = some (y, σ) := by
      unfold fX7_isSet
      by_cases q : p1 < nI 1
      · rw [if_pos q]; exact ⟨_, rfl⟩
      · rw [if_neg q, gd_t hPl]; unfold fX2_sets; rw [bdS, rz_ifn]; exact ⟨_, rfl⟩
    obtain ⟨y, hy⟩ := hy
    refine act_val (w := nI 1) (v := -1) h (Or.inr (Or.inl rfl)) ?_ ?_
    · unfold fX7_would
      rw [hy, bdS]
      exact (c_gate (w := nI 1) (by rw [if_pos hN.1])).trans (if_neg (by decide))
    · unfold fX8_would
      rw [jnD, e89, if_pos hN.2.1]
      exact m_no (by decide)
  · rcases k_set b2 hT p1 with ⟨C, c1, c2, rfl, c4, c5⟩ | ⟨c4, c5⟩
    · have hT' := hT
      obtain ⟨hu, hP, hM, ⟨d, ⟨P, hP', hB, hPu⟩, h1, h2, h3, h4, h5, ⟨fr, f1, f2, f3⟩, ⟨wt, μ, w1, w2, w3⟩, -⟩, -⟩ := hT
      have hn := hu.n6
      have hp64 : 2 ^ uN u ≤ 64 := Nat.pow_le_pow_right (n := 2) (by omega) hn
      have hL : ∀ l, l < 6 → σ.1 33 0 l = nI ((σ.1 33 0 l).toNatClampNeg) ∧ (σ.1 33 0 l).toNatClampNeg ≤ 2 ∧ σ.1 47 0 (12 + l) = σ.1 33 0 l := fun l hl => by
        obtain ⟨v, v1, v2, v3⟩ := h4 l hl
        rw [v1, cl (by omega)]
        exact ⟨rfl, v3, v2⟩
      generalize hLf : (fun l => (σ.1 33 0 l).toNatClampNeg) = L
      have eL : ∀ l, (σ.1 33 0 l).toNatClampNeg = L l := fun l => by rw [← hLf]
      simp only [eL] at hL
      clear hLf eL
      have z : ∀ x y, x ≠ 7 → (cR σ 0).1 x y = σ.1 x y := fun x y z => cR_o z
      have zP : (cR σ 0).2.2 4 0 1 = P := hP'
      obtain ⟨σ5, y1, y2, y3⟩ := c_words (σ := cR σ 0) (k := 0) (n := uN u) (fr := fr) (w := wt) (μ := μ) (rk := uR u) ⟨by rw [zP]; exact hB.1, by rw [zP, z _ _ (by omega)]; exact hB.2.2.2.2.1, hn⟩ w1 w2 (fun o ho => by rw [z _ _ (by omega)]; exact (w3 o ho).1) (fun o ho => by rw [zP, z _ _ (by omega)]; exact (hB.2.2.2.2.2.2.1 o ho).2.2.1) hu.r (by rw [z _ _ (by omega)]; exact f1) (by omega)
      have e5 : ∀ x y, x ≠ 7 → x ≠ 31 → σ5.1 x y = σ.1 x y := fun x y q1 q2 => by rw [kpc y2 x y (by simp; omega), z x y q1]
      have hq : POk (uN u, uG u, uF u, C, uS u, wd1 wt (uR u) (tuN fr) (uN u), L) := ⟨hn, hu.g.1, hu.g.2, hu.f, c2, hu.s, fun b hb => (wd1_lt hu.r (tuN_le _ _)).1, fun l hl => (hL l hl).2.1, hu.sd⟩
      have hw2 : ∀ b, b < pN (uN u, uG u, uF u, C, uS u, wd1 wt (uR u) (tuN fr) (uN u), L) → wd2 (uC u) b < 64 := fun b hb => (wd2_lt (hu.c b hb).2).1
      have hwin : uW u ≤ 400 := by have := hu.w.2; omega
      obtain ⟨σ6, d1, d2, d3, d4, d5, d6, d7⟩ := c_decide (σ := σ5) (k := 0) (P := P) (c2 := 31) (k2 := 0) (win := uW u) (q := (uN u, uG u, uF u, C, uS u, wd1 wt (uR u) (tuN fr) (uN u), L)) (w2 := wd2 (uC u)) hq hw2 (by rw [kpr y2 4 0 rfl]; exact zP) hB.1 hwin (by rw [e5 _ _ (by omega) (by omega)]; exact hB.2.2.2.1) (by rw [e5 _ _ (by omega) (by omega)]; exact hB.2.2.2.2.1) (by rw [e5 _ _ (by omega) (by omega)]; exact hB.2.1) (by rw [e5 _ _ (by omega) (by omega)]; exact hB.2.2.1) (fun b hb => by rw [e5 _ _ (by omega) (by omega)]; exact (hB.2.2.2.2.2.2.1 b hb).1) (fun l hl => by rw [e5 _ _ (by omega) (by omega)]; exact (hL l hl).1) rfl rfl (fun b hb => y3 b hb) (fun b hb => by rw [e5 _ _ (by omega) (by omega)]; exact (hB.2.2.2.2.2.2.1 b hb).2.2.2) (h.2.2.1.fr (by rw [e5 _ _ (by omega) (by omega)]) (fun o => e5 _ _ (by omega) (by omega)))
      have kA : Kp ((31, 0, 0 + 1) :: SA) (cR σ 0) σ6 := (kp_rf.tr y2 (fun e he => by rw [List.mem_singleton.mp he]; exact List.mem_cons_self)).tr d2 (fun e he => List.mem_cons_of_mem _ he)
      have hs : Sm8 σ σ6 := Sm8.cR.tr (Sm8.kp kA (by decide))
      have hM1 : BM (mR σ6 0) u := (hM.fr (hs 44 0 (by omega))).fr (mR_o (by omega))
      have h47 : (mR σ6 0).1 47 0 = σ.1 47 0 := by rw [mR_o (by omega), hs 47 0 (by omega)]
      have hMB : MB (mR σ6 0) (uN u, uG u, uF u, C, uS u, wd1 wt (uR u) (tuN fr) (uN u), L) (uW u) := ⟨hM1.2.2.2.1, hM1.1, hM1.2.1, hM1.2.2.1, fun b hb => (hM1.2.2.2.2.2.1 b hb).1, fun l hl => by rw [h47, (hL l hl).2.2]; exact (hL l hl).1⟩
      have hMW : MW (mR σ6 0) wt (uN u) μ (uR u) (tuN fr) (uC u) := ⟨hn, hM1.2.2.2.1, w1, w2, fun b hb => by rw [h47]; exact (w3 b hb).2, fun b hb => ⟨(hM1.2.2.2.2.2.1 b hb).2.2, hu.r b hb⟩, fun b hb => ⟨by rw [h47]; exact f3 b hb, tuN_le _ _⟩, fun b hb => ⟨(hM1.2.2.2.2.2.1 b hb).2.1, (hu.c b hb).2⟩⟩
      obtain ⟨σ2, g1, g2, g3, -, -, -⟩ := m_elects (a2 := 0) (σ := mR σ6 0) (w2 := wd2 (uC u)) hq hw2 hwin c1 hMB (wx_1 hMW) (wx_2 hMW)
      generalize onN (aS (uN u, uG u, uF u, C, uS u, wd1 wt (uR u) (tuN fr) (uN u), L) (wd2 (uC u)) (uW u)) = ob at d7 g1
      refine ⟨wv ob, σ6, σ2, ?_, ?_, h.qt (((Qt.cR.tr (Qt.kp kA (by unfold okP; decide) (fun j y => by rw [kpc kA 8 0 rfl]))).tr Qt.mR).tr (Qt.kp g2 (by unfold okP; decide) (fun j y => g3 j (by omega) (by omega) (by omega) (by omega) (by omega)))) ?_ ?_ ?_⟩
      · unfold fX7_would
        rw [c4, bdS]
        refine (c_gate (w := 0) (by rw [b1, if_neg (by decide), if_neg (by decide)])).trans ((if_pos rfl).trans ?_)
        have d1' : fX0_decide 0 31 0 (nI C) σ5 = some ((), σ6) := d1
        rw [y1, bdS, d1', bdS, d7]
      · unfold fX8_would
        rw [jnD, hs 8 0 (by omega), b2, if_neg (by decide), c5 σ6 hs, bdS, if_neg (by decide)]
        refine m_yes.trans ?_
        have g1' : fX8_elects (nI C) 0 (mR σ6 0) = some (wv ob, σ2) := g1
        rw [g1', bdS]
      · rw [kpc g2 7 0 rfl, mR_o (by omega), kpc kA 7 0 rfl, cR_10, g3 1 (by omega) (by omega) (by omega) (by omega) (by omega), mR_1]
      · intro y
        rw [g3 1 (by omega) (by omega) (by omega) (by omega) (by omega), mR_1] at y
        exact absurd y (by decide)
      · exact d3.fr (by rw [kpc g2 1 0 rfl, mR_o (by omega)]) (fun o => by rw [kpc g2 22 o rfl, mR_o (by omega)])
    · refine act_val (w := nI 2) (v := -1) h (Or.inr (Or.inr (Or.inl rfl))) ?_ ?_
      · unfold fX7_would
        rw [c4, bdS]
        exact (c_gate (w := nI 2) (by rw [b1, if_neg (by decide), if_pos rfl])).trans (if_neg (by decide))
      · unfold fX8_would
        rw [jnD, e89, b2, if_neg (by decide), c5 _ Sm8.cR, bdS, if_pos rfl]
        exact m_no (by decide)
/-- the first of those that ask, by time, then by slots -/
def BsT (A : Nat → Prop) (sn sl : Nat → Nat) (o : Option Nat) : Prop := (o = none ∧ ∀ b, ¬ A b) ∨ ∃ b, o = some b ∧ A b ∧ ∀ c, A c → sn b < sn c ∨ (sn b = sn c ∧ sl b ≤ sl c)
theorem BsT.uniq {A : Nat → Prop} {sn sl : Nat → Nat} {o o' : Option Nat} (h : BsT A sn sl o) (h' : BsT A sn sl o') (hd : ∀ a b, A a → A b → sl a = sl b → a = b) : o = o' := by
  rcases h with ⟨h1, h2⟩ | ⟨b, h1, h2, h3⟩
  · rcases h' with ⟨g1, g2⟩ | ⟨c, g1, g2, g3⟩
    · rw [h1, g1]
    · exact absurd g2 (h2 c)
  · rcases h' with ⟨g1, g2⟩ | ⟨c, g1, g2, g3⟩
    · exact absurd h2 (g2 b)
    · have p1 := h3 c g2
      have p2 := g3 b h2
      have : b = c := hd b c h2 g2 (by omega)
      rw [h1, g1, this]
theorem BsT.congr {A A' : Nat → Prop} {sn sl : Nat → Nat} {o : Option Nat} (h : BsT A sn sl o) (e : ∀ b, A b ↔ A' b) : BsT A' sn sl o := by
  rcases h with ⟨h1, h2⟩ | ⟨b, h1, h2, h3⟩
  · exact Or.inl ⟨h1, fun b z => h2 b ((e b).mpr z)⟩
  · exact Or.inr ⟨b, h1, (e b).mp h2, fun c z => h3 c ((e c).mpr z)⟩
theorem BsT.more {A : Nat → Prop} {sn sl : Nat → Nat} {o : Option Nat} (h : BsT A sn sl o) (x : Nat) : BsT (fun b => A b ∨ b = x) sn sl (match o with | none => some x | some b => if sn x < sn b ∨ (sn x = sn b ∧ sl x < sl b) then some x else some b) := by
  rcases h with ⟨rfl, h2⟩ | ⟨b, rfl, h2, h3⟩
  · refine Or.inr ⟨x, rfl, Or.inr rfl, fun c z => ?_⟩
    rcases z with z | z
    · exact absurd z (h2 c)
    · rw [z]; exact Or.inr ⟨rfl, Nat.le_refl _⟩
  · by_cases q : sn x < sn b ∨ (sn x = sn b ∧ sl x < sl b)
    · refine Or.inr ⟨x, by simp only [if_pos q], Or.inr rfl, fun c z => ?_⟩
      rcases z with z | z
      · have := h3 c z; omega
      · rw [z]; exact Or.inr ⟨rfl, Nat.le_refl _⟩
    · refine Or.inr ⟨b, by simp only [if_neg q], Or.inl h2, fun c z => ?_⟩
      rcases z with z | z
      · exact h3 c z
      · rw [z]; omega
theorem fsN_spec {f : Nat → Bool} : ∀ {n b : Nat}, fsN f n = some b → b < n ∧ f b = true := by
  intro n
  induction n with
  | zero => intro b z; cases z
  | succ n ih =>
    intro b z
    rw [fsN] at z
    cases hh : fsN f n with
    | none =>
      rw [hh] at z
      simp only at z
      by_cases q : f n = true
      · rw [if_pos q] at z; cases z; exact ⟨by omega, q⟩
      · rw [if_neg q] at z; cases z
    | some c =>
      rw [hh] at z
      cases z
      have := ih hh
      exact ⟨by omega, this.2⟩
theorem fsN_no {f : Nat → Bool} : ∀ {n : Nat}, fsN f n = none → ∀ b, b < n → ¬ f b = true := by
  intro n
  induction n with
  | zero => intro _ b hb; omega
  | succ n ih =>
    intro z b hb
    rw [fsN] at z
    cases hh : fsN f n with
    | none =>
      rw [hh] at z
      simp only at z
      by_cases q : f n = true
      · rw [if_pos q] at z; cases z
      · by_cases e : b = n
        · rw [e]; exact q
        · exact ih hh b (by omega)
    | some c => rw [hh] at z; cases z
theorem ov_none : ov none = -1 := rfl
theorem ov_some (b : Nat) : ov (some b) = nI b := rfl
theorem m1_lt0 : ((-1 : Int32) < 0) := by decide
theorem act_longest : Act fX7_longest fX8_longest := by
  intro σ N h hN
  rcases h.2.2.2.2 with hN | ⟨b1, b2, u, t, s, a, t1, t2, hT, -⟩
  · refine act_val (w := nI 1) (v := -1) h (Or.inr (Or.inl rfl)) ?_ ?_
    · unfold fX7_longest
      rw [if_pos hN.1]; rfl
    · unfold fX8_longest
      rw [e89, hN.2.1, un_0]
      exact m_no (by decide)
  · obtain ⟨hu, hP, hM, ⟨d, ⟨P, hP', hB, hPu⟩, h1, h2, h3, h4, h5, -⟩, -⟩ := hT
    have hn := hu.n6
    obtain ⟨ak, sn, hak⟩ := h5.fn (by omega)
    -- the class, by slots
    obtain ⟨s1, ⟨o1, i1, i2, i3⟩, e1⟩ := lp0 (fun m i (s : Int32) => LX4_longestAsking_5 0 (fun (x10 : Int32) (σ11 : St) => some (x10, σ11)) m s (nI i) σ) (fun s => some (s, σ)) 10 (by omega)
      (fun i s => ∃ o : Option Nat, s = wv o ∧ (∀ b, o = some b → b < uN u) ∧ BsT (fun b => b < uN u ∧ 0 < ak b ∧ uS u b < i) sn (uS u) o) (-2) ⟨none, rfl, fun b z => (by cases z), Or.inl ⟨rfl, fun b z => by omega⟩⟩
      (fun m s _ => by
        rw [LX4_longestAsking_5, if_pos (by rw [le_n (by omega) (by omega)]; exact Nat.le_refl _)])
      (fun m i s hi hI => by
        obtain ⟨o, rfl, o1, o2⟩ := hI
        have hf := c_find (σ := σ) (P := P) (c1 := 24) (k1 := P) (n := uN u) (p := nI i) (f := fun b => decide (uS u b = i)) hB.2.2.2.2.1 hn rfl (fun b hb => by
          have := hu.s b hb
          rw [(hB.2.2.2.2.2.2.1 b hb).1, eq_n (by omega) (by omega)]
          exact ⟨fun z => decide_eq_true z, fun z => of_decide_eq_true z⟩)
        have hsl : fX2_boardOfSlot P (nI i) σ = some (ov (fsN (fun b => decide (uS u b = i)) (uN u)), σ) := by unfold fX2_boardOfSlot; rw [hf, bdS]
        rw [LX4_longestAsking_5, if_neg (by rw [le_n (by omega) (by omega)]; omega), hP', gd_t hB.1, hsl, bdS, hP', gd_t hB.1]
        cases hh : fsN (fun b => decide (uS u b = i)) (uN u) with
        | none =>
          have hno := fsN_no hh
          have e0 : fX2_holds P (-1) σ = some (0, σ) := by unfold fX2_holds; rw [if_pos m1_lt0]; rfl
          rw [ov_none, e0, bdS, jnD, if_pos rfl, add_n]
          refine ⟨wv o, ⟨o, rfl, o1, o2.congr (fun b => ⟨fun z => ⟨z.1, z.2.1, by omega⟩, fun z => ⟨z.1, z.2.1, ?_⟩⟩)⟩, rfl⟩
          have : ¬ uS u b = i := fun y => hno b z.1 (decide_eq_true y)
          omega
        | some b =>
          obtain ⟨hb, hbs⟩ := fsN_spec hh
          have hbs := of_decide_eq_true hbs
          obtain ⟨⟨a1, a2, a3⟩, c1, c2, c3⟩ := hak b hb
          rw [ov_some, c_holds hB.2.2.2.2.1 hb hn, bdS, jnD, if_neg (by decide), gi_n (by omega) (by omega), cl (by omega), a1, jnD, gi_n (by omega) (by omega), add_n]
          by_cases q : 0 < ak b
          · rw [if_neg (by rw [le_0 (by omega)]; omega)]
            have hm := o2.more b
            have he : ∀ c, ((c < uN u ∧ 0 < ak c ∧ uS u c < i) ∨ c = b) ↔ (c < uN u ∧ 0 < ak c ∧ uS u c < i + 1) := fun c => by
              constructor
              · rintro (z | z)
                · exact ⟨z.1, z.2.1, by omega⟩
                · rw [z]; exact ⟨hb, q, by omega⟩
              · intro z
                by_cases y : uS u c = i
                · exact Or.inr (hu.sd c b z.1 hb (by omega))
                · exact Or.inl ⟨z.1, z.2.1, by omega⟩
            cases o with
            | none =>
              refine ⟨nI b, ⟨some b, rfl, fun c z => by cases z; exact hb, hm.congr he⟩, ?_⟩
              rw [wv_none, if_pos (by decide)]
            | some f =>
              have hfn := o1 f rfl
              obtain ⟨-, f1, f2, f3⟩ := hak f hfn
              have hfs : uS u f < i := by
                rcases o2 with ⟨z, -⟩ | ⟨c, z, z2, -⟩
                · cases z
                · cases z; exact z2.2.2
              rw [wv_some, if_neg (by rw [lt_0n (by omega)]; exact id), gi_n (by omega) (by omega), cl (by omega), f1, c1]
              by_cases q2 : sn b < sn f
              · refine ⟨nI b, ⟨some b, rfl, fun c z => by cases z; exact hb, ?_⟩, by rw [if_neg (by rw [le_n (by omega) (by omega)]; omega)]⟩
                have := hm.congr he
                simp only at this
                rw [if_pos (Or.inl q2)] at this
                exact this
              · refine ⟨nI f, ⟨some f, rfl, fun c z => by cases z; exact hfn, ?_⟩, by rw [if_pos (by rw [le_n (by omega) (by omega)]; omega)]⟩
                have := hm.congr he
                simp only at this
                rw [if_neg (by omega)] at this
                exact this
          · rw [if_pos (by rw [le_0 (by omega)]; omega)]
            refine ⟨wv o, ⟨o, rfl, o1, o2.congr (fun c => ⟨fun z => ⟨z.1, z.2.1, by omega⟩, fun z => ⟨z.1, z.2.1, ?_⟩⟩)⟩, rfl⟩
            by_cases y : uS u c = i
            · have : c = b := hu.sd c b z.1 hb (by omega)
              rw [this] at z; omega
            · omega)
    -- the model, by boards
    obtain ⟨s2, ⟨o2, j1, j2, j3⟩, e2⟩ := lp0 (fun m i (s : Int32) => LX8_longest_21 (fun (x11 : Int32) (σ12 : St) => some (x11, σ12)) m s (nI i) (mR (cR σ 0) 0)) (fun s => some (s, mR (cR σ 0) 0)) (uN u) (by omega)
      (fun i s => ∃ o : Option Nat, s = wv o ∧ (∀ b, o = some b → b < uN u) ∧ BsT (fun b => b < i ∧ 0 < ak b) sn (uS u) o) (-2) ⟨none, rfl, fun b z => (by cases z), Or.inl ⟨rfl, fun b z => by omega⟩⟩
      (fun m s _ => by
        rw [LX8_longest_21, gi_n (by omega) (by omega), cl (by omega), e44, hM.2.2.2.1, if_pos (by rw [le_n (by omega) (by omega)]; exact Nat.le_refl _)])
      (fun m i s hi hI => by
        obtain ⟨o, rfl, o1, o2⟩ := hI
        obtain ⟨⟨a1, a2, a3⟩, c1, c2, c3⟩ := hak i hi
        have hsi := hu.s i hi
        rw [LX8_longest_21, gi_n (by omega) (by omega), cl (by omega), e44, hM.2.2.2.1, if_neg (by rw [le_n (by omega) (by omega)]; omega), at8_0, gi_n (by omega) (by omega), cl (by omega), e47, a2, add_n]
        simp only [jnD]
        by_cases q : 0 < ak i
        · rw [if_neg (by rw [eq_0 (by omega)]; omega)]
          have hm := o2.more i
          have he : ∀ c, ((c < i ∧ 0 < ak c) ∨ c = i) ↔ (c < i + 1 ∧ 0 < ak c) := fun c => by
            constructor
            · rintro (z | z)
              · exact ⟨by omega, z.2⟩
              · rw [z]; exact ⟨by omega, q⟩
            · intro z
              by_cases y : c = i
              · exact Or.inr y
              · exact Or.inl ⟨by omega, z.2⟩
          cases o with
          | none =>
            refine ⟨nI i, ⟨some i, rfl, fun c z => by cases z; exact hi, hm.congr he⟩, ?_⟩
            rw [wv_none, if_pos rfl, if_pos (by decide)]
          | some f =>
            have hfn := o1 f rfl
            obtain ⟨-, f1, f2, f3⟩ := hak f hfn
            have hsf := hu.s f hfn
            have hfi : f < i := by
              rcases o2 with ⟨z, -⟩ | ⟨c, z, z2, -⟩
              · cases z
              · cases z; exact z2.1
            have hsne : uS u i ≠ uS u f := fun z => by have := hu.sd i f hi hfn z; omega
            rw [wv_some, if_neg (by rw [nm2 (by omega)]; exact id), at8, at8, gi_n (by omega) (by omega), gi_n (by omega) (by omega), cl (by omega), cl (by omega), f2, c2, add_n, add_n, gi_n (by omega) (by omega), gi_n (by omega) (by omega), cl (by omega), cl (by omega), e44, (hM.2.2.2.2.2.1 i hi).1, (hM.2.2.2.2.2.1 f hfn).1]
            have hg := hm.congr he
            simp only at hg
            by_cases q2 : sn i < sn f
            · rw [if_pos (by rw [sub_n (by omega), gt_0 (by omega)]; omega)]
              rw [if_pos (Or.inl q2)] at hg
              exact ⟨nI i, ⟨some i, rfl, fun c z => by cases z; exact hi, hg⟩, rfl⟩
            · have hng : ¬ (0 : Int32) < nI (sn f) - nI (sn i) := by
                by_cases q3 : sn f < sn i
                · exact Int32.not_lt.mpr (Int32.le_of_lt (pk_sneg (a := sn f) (b := sn i) (by omega) q3))
                · rw [show sn i = sn f by omega, sub_n (Nat.le_refl _), Nat.sub_self]; decide
              rw [if_neg hng]
              by_cases q3 : sn f = sn i
              · rw [if_pos (by rw [q3, sub_n (Nat.le_refl _), Nat.sub_self, nI_0])]
                by_cases q4 : uS u i < uS u f
                · rw [if_neg (by rw [le_n (by omega) (by omega)]; omega)]
                  rw [if_pos (Or.inr ⟨q3.symm, q4⟩)] at hg
                  exact ⟨nI i, ⟨some i, rfl, fun c z => by cases z; exact hi, hg⟩, rfl⟩
                · rw [if_pos (by rw [le_n (by omega) (by omega)]; omega)]
                  rw [if_neg (by omega)] at hg
                  exact ⟨nI f, ⟨some f, rfl, fun c z => by cases z; exact hfn, hg⟩, rfl⟩
              · have hneg : ¬ nI (sn f) - nI (sn i) = 0 := fun z => by
                  have := pk_sneg (a := sn f) (b := sn i) (by omega) (by omega)
                  rw [z] at this
                  exact absurd this (by decide)
                rw [if_neg hneg]
                rw [if_neg (by omega)] at hg
                exact ⟨nI f, ⟨some f, rfl, fun c z => by cases z; exact hfn, hg⟩, rfl⟩
        · rw [if_pos (by rw [eq_0 (by omega)]; omega)]
          refine ⟨wv o, ⟨o, rfl, o1, o2.congr (fun c => ⟨fun z => ⟨by omega, z.2⟩, fun z => ⟨?_, z.2⟩⟩)⟩, rfl⟩
          by_cases y : c = i
          · rw [y] at z; omega
          · omega)
    rw [nI_0] at e1 e2
    have ho : o1 = o2 := (i3.congr (A' := fun b => b < uN u ∧ 0 < ak b) (fun b => ⟨fun z => ⟨z.1, z.2.1⟩, fun z => ⟨z.1, z.2, hu.s b z.1⟩⟩)).uniq j3 (fun x y hx hy z => hu.sd x y hx.1 hy.1 z)
    refine act_val (w := 0) (v := s1) h (Or.inl rfl) ?_ ?_
    · unfold fX7_longest fX4_longestAsking
      rw [if_neg (by rw [b1]; decide), e1, bdS]; rfl
    · unfold fX8_longest
      rw [e89, b2, un_1]
      refine m_yes.trans ?_
      rw [e2, i1, j1, ho]
