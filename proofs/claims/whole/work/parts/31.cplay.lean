/-! ===== the class plays a pass ===== -/
/-- the latest tick below t at which a board drives otherwise than before -/
def chT (p : PP) : Nat → Nat
  | 0 => 0
  | t + 1 => if t = 0 then chT p t else chN (tD (tb p (t + 1))) t (chT p t) (pN p)
theorem chT_le (p : PP) : ∀ t, chT p (t + 1) ≤ t := by
  intro t
  induction t with
  | zero => simp [chT]
  | succ t ih =>
    rw [chT]
    split
    · omega
    · unfold chN
      split
      · exact Nat.le_refl _
      · omega
def CA (σ : St) (p : PP) (x : PT) (t : Nat) : Prop := (∀ b, b < pN p → ∀ u, u < t → σ.1 14 b u = nI (tD x b u) ∧ tD x b u < 64) ∧ CS σ p (tS x) (tT x) (tO x) t ∧ A22 σ (pN p) (tI x) ∧ D13 σ ∧ σ.1 1 0 16 = nI (tK x)
abbrev SC : List (Nat × Nat × Nat) := [(1, 0, 1), (14, 0, 6), (16, 0, 6), (18, 0, 6), (20, 0, 6), (22, 0, 6)]
theorem c_tick {σ : St} {p : PP} (hp : POk p) (h : CPr σ p) {x : PT} {t c : Nat} (ht : t < 401) (hA : CA σ p x t) (hc : σ.1 1 0 15 = nI c) :
    ∃ s1 s2 s3, fX1_driveAll (nI t) σ = some ((), s1) ∧ fX1_letGoAll (nI t) s1 = some ((), s2) ∧ fX1_seeAll (nI t) s2 = some ((), s3) ∧ Kp SC σ s3 ∧ (∀ j, j < 13 ∨ j = 14 → s3.1 1 0 j = σ.1 1 0 j) ∧ CA s3 p (tick p x t) (t + 1) ∧ s3.1 1 0 15 = nI (if t = 0 then c else chN (kD p x t) t c (pN p)) := by
  have hg := hp.2.1
  obtain ⟨a1, a2, a3, a4, a5⟩ := hA
  obtain ⟨s1, e1, b1, b2⟩ := c_drive hp h (tO x) ht (fun b hb hgt => (a2 b hb (t - pG p) (by omega)).2.2)
  have hM1 := h.kp b1 rfl rfl (fun j _ => by rw [kpc b1 1 0 rfl])
  have hd1 : ∀ o, o < pN p → ∀ u, u ≤ t → s1.1 14 o u = nI (kD p x t o u) ∧ kD p x t o u < 64 := fun o ho u hu => by
    rw [b2 o ho u]
    unfold kD
    by_cases q : u = t
    · subst q; rw [if_pos rfl, col_eq]; exact ⟨rfl, drF_lt hp _ _ ho⟩
    · rw [if_neg q, col_ne _ _ _ q]; exact a1 o ho u (by omega)
  have hA1 : A22 s1 (pN p) (tI x) := fun o ho u hu => by rw [kpc b1 22 o rfl]; exact a3 o ho u hu
  have hD1 : D13 s1 := by
    obtain ⟨d, d1, d2, d3⟩ := a4
    exact ⟨d, d1, by rw [kpc b1 1 0 rfl]; exact d2, fun o ho u g1 g2 => by rw [kpc b1 22 o rfl]; exact d3 o ho u g1 g2⟩
  obtain ⟨s2, e2, ⟨c1, c2, c3, c4, c5⟩, c6⟩ := c_letgo hp hM1 (kD p x t) (x := (tI x, tK x)) (t := t) (c := c) ht hd1 hA1 hD1 (by rw [kpc b1 1 0 rfl]; exact a5) (by rw [kpc b1 1 0 rfl]; exact hc)
  have hM2 := hM1.kp c1 rfl rfl (fun j hj => c2 j (Or.inl hj))
  obtain ⟨s3, e3, f1, f2⟩ := c_see hp hM2 (t := t) (dr := kD p x t) (di := (kI p x t).1) (se := tS x) (ta := tT x) (ou := tO x) ht (fun o ho u hu => by rw [kpc c1 14 o rfl]; exact hd1 o ho u hu) c3
    (fun b hb u hu => by
      rw [kpc c1 16 b rfl, kpc c1 18 b rfl, kpc c1 20 b rfl, kpc b1 16 b rfl, kpc b1 18 b rfl, kpc b1 20 b rfl]
      exact a2 b hb u hu) (kS p x t) (kT p x t) (kO p x t) rfl rfl rfl
  refine ⟨s1, s2, s3, e1, e2, e3, ((kp_rf.tr b1 (kp_pick [1] rfl)).tr c1 (kp_pick [0, 5] rfl)).tr f1 (kp_pick [2, 3, 4] rfl), fun j hj => ?_, ⟨fun b hb u hu => ?_, f2, fun o ho u hu => ?_, ?_, ?_⟩, ?_⟩
  · rw [kpc f1 1 0 rfl, c2 j hj, kpc b1 1 0 rfl]
  · rw [kpc f1 14 b rfl, kpc c1 14 b rfl]; exact hd1 b hb u (by omega)
  · rw [kpc f1 22 o rfl]; exact c3 o ho u hu
  · obtain ⟨d, d1, d2, d3⟩ := c4
    exact ⟨d, d1, by rw [kpc f1 1 0 rfl]; exact d2, fun o ho u g1 g2 => by rw [kpc f1 22 o rfl]; exact d3 o ho u g1 g2⟩
  · rw [kpc f1 1 0 rfl]; exact c5
  · rw [kpc f1 1 0 rfl]; exact c6
/-- a pass was played to its tick T -/
def PL (σ : St) (p : PP) (T : Nat) : Prop := CPr σ p ∧ CA σ p (tb p (T + 1)) (T + 1) ∧ σ.1 1 0 14 = nI T ∧ σ.1 1 0 15 = nI (chT p (T + 1))
theorem c_playL {p : PP} (hp : POk p) {un : Nat} (hu : un ≤ 400) {σ0 : St} : ∀ (d t : Nat) (σ : St) (m : Nat), t + d = un + 1 → d < m → Kp SC σ0 σ → (∀ j, j < 13 → σ.1 1 0 j = σ0.1 1 0 j) → CPr σ p → CA σ p (tb p t) t → (0 < t → σ.1 1 0 14 = nI (t - 1)) → σ.1 1 0 15 = nI (chT p t) → (0 < d ∨ 0 < t) →
    ∃ σ' T, LX1_play_35 (nI un) (fun (σ15 : St) => some ((), σ15)) m (nI 1) (nI t) σ = some ((), σ') ∧ T ≤ un ∧ Kp SC σ0 σ' ∧ (∀ j, j < 13 → σ'.1 1 0 j = σ0.1 1 0 j) ∧ PL σ' p T ∧ (T = un ∨ chT p (T + 1) + 50 ≤ T) := by
  intro d
  induction d with
  | zero =>
    intro t σ m hd hm hk hj hP hC h14 h15 h0
    cases m with
    | zero => omega
    | succ m =>
      have ht : t = un + 1 := by omega
      subst ht
      rw [LX1_play_35, if_neg (by decide), if_pos (by rw [lt_n (by omega) (by omega)]; omega)]
      exact ⟨σ, un, rfl, Nat.le_refl _, hk, hj, ⟨hP, hC, h14 (by omega), h15⟩, Or.inl rfl⟩
  | succ d ih =>
    intro t σ m hd hm hk hj hP hC h14 h15 h0
    cases m with
    | zero => omega
    | succ m =>
      obtain ⟨s1, s2, s3, e1, e2, e3, k1, k2, k3, k4⟩ := c_tick hp hP (t := t) (c := chT p t) (by omega) hC h15
      have hct : (if t = 0 then chT p t else chN (kD p (tb p t) t) t (chT p t) (pN p)) = chT p (t + 1) := by rw [chT]; rfl
      rw [hct] at k4
      have hle := chT_le p t
      rw [LX1_play_35, if_neg (by decide), if_neg (by rw [lt_n (by omega) (by omega)]; omega), if_neg (by rw [lt_n (by omega) (by omega)]; omega), e1, bdS, e2, bdS, e3, bdS, ltD, ltD, add_n]
      have r15 : (wI s3 1 0 14 (nI t)).1 1 0 15 = nI (chT p (t + 1)) := by rw [rI, if_neg (fun z => by omega)]; exact k4
      have kk : Kp SC σ0 (wI s3 1 0 14 (nI t)) := (hk.tr k1 (fun _ z => z)).wI (fr_m 0 rfl (Nat.le_refl _) (by omega))
      have jj : ∀ j, j < 13 → (wI s3 1 0 14 (nI t)).1 1 0 j = σ0.1 1 0 j := fun j h => by
        rw [rI, if_neg (fun z => by omega), k2 j (Or.inl h)]; exact hj j h
      have rr : ∀ a b c, a ≠ 1 → (wI s3 1 0 14 (nI t)).1 a b c = s3.1 a b c := fun a b c h => by rw [rI, if_neg (fun z => h z.1)]
      have PP1 : CPr (wI s3 1 0 14 (nI t)) p := hP.kp (S := SC) (k1.wI (fr_m 0 rfl (Nat.le_refl _) (by omega))) rfl rfl (fun j h => by rw [rI, if_neg (fun z => by omega), k2 j (Or.inl h)])
      have CC : CA (wI s3 1 0 14 (nI t)) p (tb p (t + 1)) (t + 1) := by
        obtain ⟨a1, a2, a3, ⟨dd, d1, d2, d3⟩, a5⟩ := k3
        refine ⟨fun b hb u hu => ?_, fun b hb u hu => ?_, fun o ho u hu => ?_, ⟨dd, d1, ?_, fun o ho u g1 g2 => ?_⟩, ?_⟩
        · rw [rr 14 b u (by omega)]; exact a1 b hb u hu
        · rw [rr 16 b u (by omega), rr 18 b u (by omega), rr 20 b u (by omega)]; exact a2 b hb u hu
        · rw [rr 22 o u (by omega)]; exact a3 o ho u hu
        · rw [rI, if_neg (fun z => by omega)]; exact d2
        · rw [rr 22 o u (by omega)]; exact d3 o ho u g1 g2
        · rw [rI, if_neg (fun z => by omega)]; exact a5
      have r14 : (wI s3 1 0 14 (nI t)).1 1 0 14 = nI t := by rw [rI, if_pos ⟨rfl, rfl, rfl⟩]
      rw [r15, sub_n hle]
      by_cases q : 50 ≤ t - chT p (t + 1)
      · rw [if_pos (by rw [le_n (by omega) (by omega)]; exact q)]
        cases m with
        | zero => omega
        | succ m =>
          rw [LX1_play_35, if_pos rfl]
          exact ⟨_, t, rfl, by omega, kk, jj, ⟨PP1, CC, r14, r15⟩, Or.inr (by omega)⟩
      · rw [if_neg (by rw [le_n (by omega) (by omega)]; exact q)]
        exact ih (t + 1) _ m (by omega) (by omega) kk jj PP1 CC (fun _ => by rw [Nat.add_sub_cancel]; exact r14) r15 (Or.inr (by omega))
theorem c_clear {σ : St} (hD : D13 σ) : ∃ σ', fX1_clearDips σ = some ((), σ') ∧ Kp SD σ σ' ∧ (∀ j, j ≠ 13 → σ'.1 1 0 j = σ.1 1 0 j) ∧ σ'.1 1 0 13 = 0 ∧ ∀ o, o < 6 → ∀ u, u < 401 → σ'.1 22 o u = 0 := by
  obtain ⟨d, d1, d2, d3⟩ := hD
  unfold fX1_clearDips
  obtain ⟨s, ⟨g1, g2, g3⟩, e⟩ := lp0 (fun m i (s : St) => LX1_clearDips_2 (fun (σ4 : St) => lt (wI σ4 1 0 13 0) fun (σ5 : St) => some ((), σ5)) m (nI i) s) (fun s => lt (wI s 1 0 13 0) fun (σ5 : St) => some ((), σ5)) 6 (by omega)
    (fun i s => Kp [(22, 0, 6)] σ s ∧ (∀ o, o < i → ∀ u, u < 401 → s.1 22 o u = 0) ∧ (∀ o, o < 6 → ∀ u, d ≤ u → u < 401 → s.1 22 o u = 0)) σ ⟨kp_rf, fun o ho => by omega, d3⟩
    (fun m s _ => by
      rw [LX1_clearDips_2, if_pos (by rw [le_n (by omega) (by omega)]; exact Nat.le_refl _)])
    (fun m i s hi hI => by
      obtain ⟨i1, i2, i3⟩ := hI
      rw [LX1_clearDips_2, if_neg (by rw [le_n (by omega) (by omega)]; omega), add_n]
      obtain ⟨s', ⟨k1, k2, k3, k4⟩, e⟩ := lp0 (fun m' u (s : St) => LX1_clearDips_10 (nI i) (fun (σ3 : St) => LX1_clearDips_2 (fun (σ4 : St) => lt (wI σ4 1 0 13 0) fun (σ5 : St) => some ((), σ5)) m (nI (i + 1)) σ3) m' (nI u) s) (fun s => LX1_clearDips_2 (fun (σ4 : St) => lt (wI σ4 1 0 13 0) fun (σ5 : St) => some ((), σ5)) m (nI (i + 1)) s) d (by omega)
        (fun v s => Kp [(22, 0, 6)] σ s ∧ (∀ o, o < i → ∀ u, u < 401 → s.1 22 o u = 0) ∧ (∀ o, o < 6 → ∀ u, d ≤ u → u < 401 → s.1 22 o u = 0) ∧ ∀ u, u < v → s.1 22 i u = 0) s ⟨i1, i2, i3, fun u hu => by omega⟩
        (fun m' s hI => by
          rw [LX1_clearDips_10, kpc hI.1 1 0 rfl, d2, if_pos (by rw [le_n (by omega) (by omega)]; exact Nat.le_refl _)])
        (fun m' v s hv hI => by
          obtain ⟨j1, j2, j3, j4⟩ := hI
          rw [LX1_clearDips_10, kpc j1 1 0 rfl, d2, if_neg (by rw [le_n (by omega) (by omega)]; omega), if_neg (by rw [lt_n (by omega) (by omega)]; omega)]
          simp (disch := omega) only [gi_n, cl, ltD, add_n]
          refine ⟨_, ⟨j1.wI (fr_m 0 rfl (Nat.zero_le _) (by omega)), fun o ho u hu => ?_, fun o ho u h1 h2 => ?_, fun u hu => ?_⟩, rfl⟩
          · rw [rI, if_neg (fun z => by omega)]; exact j2 o ho u hu
          · rw [rI, if_neg (fun z => by omega)]; exact j3 o ho u h1 h2
          · rw [rI]
            by_cases q : u = v
            · rw [if_pos ⟨rfl, rfl, q⟩]
            · rw [if_neg (fun z => q z.2.2)]; exact j4 u (by omega))
      refine ⟨s', ⟨k1, fun o ho u hu => ?_, k3⟩, e⟩
      by_cases q : o = i
      · subst q
        rcases Nat.lt_or_ge u d with q | q
        · exact k4 u q
        · exact k3 o (by omega) u q hu
      · exact k2 o (by omega) u hu)
  refine ⟨_, e, (kp_rf.tr g1 (kp_pick [1] rfl)).wI (fr_m 0 rfl (Nat.le_refl _) (by omega)), fun j hj => ?_, ?_, fun o ho u hu => ?_⟩
  · rw [rI, if_neg (fun z => hj z.2.2), kpc g1 1 0 rfl]
  · rw [rI, if_pos ⟨rfl, rfl, rfl⟩]
  · rw [rI, if_neg (fun z => by omega)]; exact g2 o ho u hu
theorem c_play {σ : St} {p : PP} (hp : POk p) (hD : D13 σ) (h : CPr (wI (wI σ 1 0 11 (nI (pC p))) 1 0 12 (nI (pF p))) p) {un : Nat} (hu : un ≤ 400) :
    ∃ σ' T, fX1_play (nI (pC p)) (nI (pF p)) (nI un) σ = some ((), σ') ∧ T ≤ un ∧ Kp SC σ σ' ∧ PL σ' p T ∧ (T = un ∨ chT p (T + 1) + 50 ≤ T) ∧ (∀ j, j < 11 → σ'.1 1 0 j = σ.1 1 0 j) := by
  unfold fX1_play
  simp only [ltD]
  obtain ⟨d, d1, d2, d3⟩ := hD
  have hk : Kp SC σ (wI (wI (wI (wI (wI σ 1 0 11 (nI (pC p))) 1 0 12 (nI (pF p))) 1 0 15 0) 1 0 16 0) 1 0 14 0) := ((((kp_rf.wI (fr_m 0 rfl (Nat.le_refl _) (by omega))).wI (fr_m 0 rfl (Nat.le_refl _) (by omega))).wI (fr_m 0 rfl (Nat.le_refl _) (by omega))).wI (fr_m 0 rfl (Nat.le_refl _) (by omega))).wI (fr_m 0 rfl (Nat.le_refl _) (by omega))
  have hj : ∀ j, j < 14 → (wI (wI (wI (wI (wI σ 1 0 11 (nI (pC p))) 1 0 12 (nI (pF p))) 1 0 15 0) 1 0 16 0) 1 0 14 0).1 1 0 j = (wI (wI σ 1 0 11 (nI (pC p))) 1 0 12 (nI (pF p))).1 1 0 j := fun j hj => by
    rw [rI, if_neg (fun z => by omega), rI, if_neg (fun z => by omega), rI, if_neg (fun z => by omega)]
  have h15 : (wI (wI (wI (wI (wI σ 1 0 11 (nI (pC p))) 1 0 12 (nI (pF p))) 1 0 15 0) 1 0 16 0) 1 0 14 0).1 1 0 15 = 0 := by
    rw [rI, if_neg (fun z => by omega), rI, if_neg (fun z => by omega), rI, if_pos ⟨rfl, rfl, rfl⟩]
  have h16 : (wI (wI (wI (wI (wI σ 1 0 11 (nI (pC p))) 1 0 12 (nI (pF p))) 1 0 15 0) 1 0 16 0) 1 0 14 0).1 1 0 16 = 0 := by
    rw [rI, if_neg (fun z => by omega), rI, if_pos ⟨rfl, rfl, rfl⟩]
  have h13 : (wI (wI (wI (wI (wI σ 1 0 11 (nI (pC p))) 1 0 12 (nI (pF p))) 1 0 15 0) 1 0 16 0) 1 0 14 0).1 1 0 13 = nI d := by
    rw [hj 13 (by omega), rI, if_neg (fun z => by omega), rI, if_neg (fun z => by omega)]; exact d2
  have h22 : ∀ o u, (wI (wI (wI (wI (wI σ 1 0 11 (nI (pC p))) 1 0 12 (nI (pF p))) 1 0 15 0) 1 0 16 0) 1 0 14 0).1 22 o u = σ.1 22 o u := fun o u => by
    simp only [rI]
    simp
  have hP : CPr (wI (wI (wI (wI (wI σ 1 0 11 (nI (pC p))) 1 0 12 (nI (pF p))) 1 0 15 0) 1 0 16 0) 1 0 14 0) p := h.kp (S := SC) (((kp_rf.wI (fr_m 0 rfl (Nat.le_refl _) (by omega))).wI (fr_m 0 rfl (Nat.le_refl _) (by omega))).wI (fr_m 0 rfl (Nat.le_refl _) (by omega))) rfl rfl (fun j q => hj j (by omega))
  generalize hτ : wI (wI (wI (wI (wI σ 1 0 11 (nI (pC p))) 1 0 12 (nI (pF p))) 1 0 15 0) 1 0 16 0) 1 0 14 0 = τ at hk hj h15 h16 h13 h22 hP
  obtain ⟨s, e, k1, k2, k3, k4⟩ := c_clear (σ := τ) ⟨d, d1, h13, fun o ho u g1 g2 => by rw [h22]; exact d3 o ho u g1 g2⟩
  have hn := hp.1
  obtain ⟨σ', T, e2, t1, t2, t3, t4, t5⟩ := c_playL hp hu (σ0 := s) (un + 1) 0 s FU (by omega) (by have := FU_gt; omega) kp_rf (fun _ _ => rfl) (hP.kp k1 rfl rfl (fun j q => k2 j (by omega))) ⟨fun b hb u q => by omega, fun b hb u q => by omega, fun o ho u q => ⟨by rw [k4 o (by omega) u q]; rfl, by show 0 < 64; decide⟩, ⟨0, by omega, by rw [k3]; rfl, fun o ho u _ q => k4 o ho u q⟩, by rw [k2 16 (by omega), h16]; rfl⟩ (fun q => by omega) (by rw [k2 15 (by omega), h15]; rfl) (Or.inl (by omega))
  rw [e, bdS]
  rw [nI_0] at e2
  refine ⟨σ', T, e2, t1, (hk.tr k1 (kp_pick [0, 5] rfl)).tr t2 (fun _ z => z), t4, t5, fun j q => ?_⟩
  rw [t3 j (by omega), k2 j (by omega), hj j (by omega), rI, if_neg (fun z => by omega), rI, if_neg (fun z => by omega)]
