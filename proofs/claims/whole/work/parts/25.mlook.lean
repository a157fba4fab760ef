/-! ===== what the model sees, takes and withdraws to ===== -/
theorem exN_of {f : Nat → Bool} {i : Nat} (hf : f i = true) : ∀ {n : Nat}, i < n → exN n f = true := by
  intro n
  induction n with
  | zero => intro h; omega
  | succ n ih =>
    intro h
    rw [exN]
    by_cases e : i = n
    · subst e; simp [hf]
    · simp [ih (by omega)]
theorem exN_congr {n : Nat} {f g : Nat → Bool} (h : ∀ i, i < n → f i = g i) : exN n f = exN n g := by
  induction n with
  | zero => rfl
  | succ n ih => rw [exN, exN, ih (fun i hi => h i (by omega)), h n (by omega)]
theorem exN_iff {n : Nat} {f : Nat → Bool} : exN n f = true ↔ ∃ i, i < n ∧ f i = true := by
  induction n with
  | zero => simp [exN]
  | succ n ih =>
    rw [exN, Bool.or_eq_true, ih]
    constructor
    · rintro (⟨i, h1, h2⟩ | h)
      · exact ⟨i, by omega, h2⟩
      · exact ⟨n, by omega, h⟩
    · rintro ⟨i, h1, h2⟩
      by_cases e : i = n
      · subst e; exact Or.inr h2
      · exact Or.inl ⟨i, by omega, h2⟩
/-- a loop that stops where f holds -/
theorem lpX {α : Type} (F : Nat → Nat → α) (kx r : α) (f : Nat → Bool) (B : Nat) (hx : ∀ n, F (n + 1) B = kx) (hs : ∀ n i, i < B → F (n + 1) i = if f i = true then r else F n (i + 1)) : ∀ (d i n : Nat), i + d = B → d < n → exN i f = false → F n i = if exN B f = true then r else kx := by
  intro d
  induction d with
  | zero =>
    intro i n hi hn he
    cases n with
    | zero => omega
    | succ n =>
      rw [Nat.add_zero] at hi
      subst hi
      rw [hx, he]
      rfl
  | succ d ih =>
    intro i n hi hn he
    cases n with
    | zero => omega
    | succ n =>
      rw [hs n i (by omega)]
      by_cases q : f i = true
      · rw [if_pos q, if_pos (exN_of q (by omega))]
      · rw [if_neg q]
        exact ih (i + 1) n (by omega) (by omega) (by rw [exN, he]; simpa using q)
theorem lpX0 {α : Type} (F : Nat → Nat → α) (kx r : α) (f : Nat → Bool) (B : Nat) (hB : B ≤ 90000) (hx : ∀ n, F (n + 1) B = kx) (hs : ∀ n i, i < B → F (n + 1) i = if f i = true then r else F n (i + 1)) : F FU 0 = if exN B f = true then r else kx :=
  lpX F kx r f B hx hs B 0 FU (Nat.zero_add B) (Nat.lt_of_le_of_lt hB FU_gt) rfl
theorem m_seen {σ : St} {p : PP} (hp : POk p) (h : MPr σ p) (dr di : Nat → Nat → Nat) {b l t : Nat} (hb : b < pN p) (hl : l < 6) (ht : t < 401) (hd : ∀ o, o < pN p → ∀ u, u ≤ t → σ.1 51 0 (401 * o + u) = nI (dr o u) ∧ dr o u < 64) (hi : σ.1 55 0 (461 * b + t) = nI (di b t) ∧ di b t < 64) :
    fX8_isSeen (nI b) (nI l) (nI t) σ = some (if snN p dr di b t l = true then nI 1 else 0, σ) := by
  have hn := hp.1
  have hL := hp.2.2.2.2.2.2.2.1 l hl
  obtain ⟨d1, d2⟩ := hd b hb t (Nat.le_refl _)
  obtain ⟨i1, i2⟩ := hi
  unfold fX8_isSeen snN
  simp (disch := omega) only [cell8, gi_n, cl, d1, has8, add_n, mul_n, h.2.2.2.2.2.2 l hl, i1]
  by_cases q1 : (dr b t).testBit l = true
  · simp (disch := omega) only [q1, if_true, eq_0, Bool.true_or]
    rw [if_neg (by omega)]
  · simp only [q1, if_false, if_true, Bool.false_eq_true, eq_self, Bool.false_or]
    by_cases q2 : pL p l = 0
    · simp (disch := omega) only [q2, eq_0, if_true]
      by_cases q3 : (di b t).testBit l = true
      · simp (disch := omega) only [q3, if_true, eq_0, Bool.not_true, Bool.false_and, Bool.false_eq_true, if_false]
        rw [if_neg (by omega)]
      · simp only [q3, if_false, if_true, Bool.false_eq_true, eq_self, Bool.not_false, Bool.true_and]
        have := lpX0 (fun m i => LX8_isSeen_74 (nI b) (nI l) (nI t) (fun (σ5 : St) => some (0, σ5)) m (nI i) σ) (some (0, σ)) (some (nI 1, σ)) (fun o => decide (o ≠ b) && (decide (apN (pS p) b o ≤ t) && (dr o (t - apN (pS p) b o)).testBit l)) (pN p) (by omega)
          (fun m => by
            rw [LX8_isSeen_74]
            simp (disch := omega) only [gi_n, cl, h.1, le_n, Nat.le_refl, if_true])
          (fun m i hi => by
            have ha := apN_lt hp hb hi
            rw [LX8_isSeen_74, m_apart hp h hb hi, bdS]
            simp (disch := omega) only [gi_n, cl, h.1, le_n, ltD, jnD, add_n, eq_n]
            rw [if_neg (by omega)]
            by_cases e1 : i = b
            · rw [if_pos e1]
              simp [e1]
            · rw [if_neg e1]
              by_cases e2 : apN (pS p) b i ≤ t
              · obtain ⟨d3, d4⟩ := hd i hi (t - apN (pS p) b i) (by omega)
                simp (disch := omega) only [sub_n, lt_0n, if_false, cell8, gi_n, cl, d3, has8]
                by_cases e3 : (dr i (t - apN (pS p) b i)).testBit l = true
                · simp (disch := omega) only [e3, if_true, eq_0]
                  rw [if_neg (by omega)]
                  simp [e1, e2]
                · simp only [e3, if_false, if_true, Bool.false_eq_true, eq_self, Bool.and_false]
              · rw [if_pos (pk_sneg (by omega) (by omega))]
                simp [e2])
        rw [nI_0] at this
        rw [this]
        split <;> rfl
    · simp (disch := omega) only [q2, eq_0, if_false, eq_n, rz_if]
      by_cases q4 : pL p l = 1 <;> simp [q4]
theorem orN_congr {f g : Nat → Nat} {lo m : Nat} (h : ∀ u, lo ≤ u → u < lo + m → f u = g u) : orN f lo m = orN g lo m := by
  induction m with
  | zero => rfl
  | succ m ih => rw [orN, orN, ih (fun u h1 h2 => h u h1 (by omega)), h (lo + m) (by omega) (by omega)]
theorem m_takeL {σ : St} {b t fl : Nat} (hf : fl ≤ 20) (hb : b < 6) (ht : t < 401) (f : Nat → Nat) (h1 : σ.1 44 0 1 = nI fl) (hs : ∀ u, u ≤ t → σ.1 52 0 (401 * b + u) = nI (f u)) (ke : Int32 → St → Option (Unit × St)) :
    ∀ (d a m : Nat), t - fl + d ≤ t + 1 → d < m → LX8_looksAt_57 (nI b) (nI t) ke m (nI a) (nI (t - fl + d) + (-1)) σ = ke (nI (a ||| orN f (t - fl) d)) σ := by
  have key : ∀ k : Nat, k < 1000 → (nI k < nI t - nI fl) = (k < t - fl) := by
    intro k hk
    rcases Nat.lt_or_ge t fl with q | q
    · have hneg := pk_sneg (a := t) (b := fl) (by omega) q
      apply propext
      constructor
      · intro hh
        have : nI k < 0 := Int32.lt_trans hh hneg
        rw [lt_0n (by omega)] at this
        exact this.elim
      · intro hh; omega
    · rw [sub_n q, lt_n (by omega) (by omega)]
  intro d
  induction d with
  | zero =>
    intro a m hd hm
    cases m with
    | zero => omega
    | succ m =>
      rw [LX8_looksAt_57, Nat.add_zero]
      by_cases q : t - fl = 0
      · rw [q, if_pos (by decide), orN, Nat.or_zero]
      · rw [sb_m1 (by omega)]
        simp (disch := omega) only [lt_0n, if_false, gi_n, cl, h1, key]
        rw [if_pos (by omega), orN, Nat.or_zero]
  | succ d ih =>
    intro a m hd hm
    cases m with
    | zero => omega
    | succ m =>
      rw [LX8_looksAt_57, sb_m1 (by omega)]
      rw [show t - fl + (d + 1) - 1 = t - fl + d by omega]
      simp (disch := omega) only [lt_0n, if_false, gi_n, cl, h1, key, cell8, ltD, hs (t - fl + d) (by omega), or_n]
      rw [if_neg (by omega), ih (a ||| f (t - fl + d)) m (by omega) (by omega), orN, Nat.or_assoc, Nat.or_comm (f (t - fl + d))]
theorem m_outL {σ : St} {p : PP} (hp : POk p) (h : MPr σ p) {b a t : Nat} (hb : b < pN p) (ha : a < 64) (ke : Int32 → St → Option (Unit × St)) :
    LX8_looksAt_116 (nI b) (nI t) (nI a) ke FU (-2) 0 σ = ke (wv (if (pC p).testBit b = true then hiN a (pW p b) 6 else none)) σ := by
  have hn := hp.1
  have hC := pC_lt hp
  have hw := hp.2.2.2.2.2.2.1 b hb
  by_cases q : (pC p).testBit b = true
  · rw [if_pos q]
    obtain ⟨s, hs, e⟩ := lp0 (fun m i (s : Int32) => LX8_looksAt_116 (nI b) (nI t) (nI a) ke m s (nI i) σ) (fun s => ke s σ) 6 (by omega) (fun i s => s = wv (hiN a (pW p b) i)) (-2) rfl
      (fun m s _ => by
        rw [LX8_looksAt_116]
        simp (disch := omega) only [le_n, Nat.le_refl, if_true])
      (fun m i s hi hI => by
        refine ⟨_, rfl, ?_⟩
        rw [LX8_looksAt_116]
        simp (disch := omega) only [le_n, h.2.2.2.1, has8, q, if_true, eq_0, jnD, add_n, gi_n, cl, h.2.2.2.2.2.1 b hb]
        rw [if_neg (by omega), if_neg (by omega), hI, hiN]
        by_cases e1 : a.testBit i = true
        · simp (disch := omega) only [e1, if_true, eq_0]
          rw [if_neg (by omega)]
          by_cases e2 : (pW p b).testBit i = true
          · simp (disch := omega) only [e2, if_true, eq_0]
            rw [if_neg (by omega), if_neg (by simp)]
          · simp only [e2, if_false, if_true, Bool.false_eq_true, eq_self]
            rw [if_pos (by simp), wv_some]
        · simp only [e1, if_false, if_true, Bool.false_eq_true, eq_self]
          rw [if_neg (by simp)])
    rw [hs] at e
    exact e
  · rw [if_neg q]
    have hfu : FU = (FU - 1) + 1 := by have := FU_gt; omega
    rw [hfu, LX8_looksAt_116, ← nI_0]
    simp (disch := omega) only [le_n, h.2.2.2.1, has8, q, if_false, if_true, Bool.false_eq_true, eq_self]
    rw [if_neg (by omega)]
    simp only [nI_0, if_true]
    rfl
theorem m_look {σ : St} {p : PP} (hp : POk p) (h : MPr σ p) (dr di se : Nat → Nat → Nat) {b t : Nat} (hb : b < pN p) (ht : t < 401) (hd : ∀ o, o < pN p → ∀ u, u ≤ t → σ.1 51 0 (401 * o + u) = nI (dr o u) ∧ dr o u < 64) (hi : σ.1 55 0 (461 * b + t) = nI (di b t) ∧ di b t < 64)
    (hs : ∀ u, u < t → σ.1 52 0 (401 * b + u) = nI (se b u) ∧ se b u < 64) (se' : Nat → Nat → Nat) (hse : ∀ u, u < t → se' b u = se b u) (hse' : se' b t = seF p dr di b t) :
    fX8_looksAt (nI b) (nI t) σ = some ((), wI (wI (wI σ 52 0 (401 * b + t) (nI (se' b t))) 53 0 (401 * b + t) (nI (taF p se' b t))) 54 0 (401 * b + t) (wv (if (pC p).testBit b = true then hiN (taF p se' b t) (pW p b) 6 else none))) := by
  have hn := hp.1
  have hf := hp.2.2.2.1
  unfold fX8_looksAt
  obtain ⟨s, hs1, e⟩ := lp0 (fun m i (s : Int32) => LX8_looksAt_5 (nI b) (nI t) (fun (x7 : Int32) (σ8 : St) => gi (fX8_cell (nI b) (nI t)) 2406 <| lt (wI σ8 52 0 (fX8_cell (nI b) (nI t)).toNatClampNeg x7) fun (σ9 : St) => (LX8_looksAt_57 (nI b) (nI t) (fun (x11 : Int32) (σ12 : St) => gi (fX8_cell (nI b) (nI t)) 2406 <| lt (wI σ12 53 0 (fX8_cell (nI b) (nI t)).toNatClampNeg x11) fun (σ13 : St) => (LX8_looksAt_116 (nI b) (nI t) x11 (fun (x17 : Int32) (σ18 : St) => gi (fX8_cell (nI b) (nI t)) 2406 <| lt (wI σ18 54 0 (fX8_cell (nI b) (nI t)).toNatClampNeg x17) fun (σ19 : St) => some ((), σ19)) FU (-2) 0 σ13)) FU 0 (nI t) σ9)) m s (nI i) σ) (fun s => gi (fX8_cell (nI b) (nI t)) 2406 <| lt (wI σ 52 0 (fX8_cell (nI b) (nI t)).toNatClampNeg s) fun (σ9 : St) => (LX8_looksAt_57 (nI b) (nI t) (fun (x11 : Int32) (σ12 : St) => gi (fX8_cell (nI b) (nI t)) 2406 <| lt (wI σ12 53 0 (fX8_cell (nI b) (nI t)).toNatClampNeg x11) fun (σ13 : St) => (LX8_looksAt_116 (nI b) (nI t) x11 (fun (x17 : Int32) (σ18 : St) => gi (fX8_cell (nI b) (nI t)) 2406 <| lt (wI σ18 54 0 (fX8_cell (nI b) (nI t)).toNatClampNeg x17) fun (σ19 : St) => some ((), σ19)) FU (-2) 0 σ13)) FU 0 (nI t) σ9)) 6 (by omega) (fun i s => s = nI (bsN i (snN p dr di b t))) 0 rfl
    (fun m s _ => by
      rw [LX8_looksAt_5]
      simp (disch := omega) only [le_n, Nat.le_refl, if_true])
    (fun m i s hi' hI => by
      refine ⟨_, rfl, ?_⟩
      rw [LX8_looksAt_5, m_seen hp h dr di hb hi' ht hd hi]
      simp (disch := omega) only [le_n, add_n, shl_1, ltD, bdS]
      rw [if_neg (by omega), hI, bsN]
      by_cases q : snN p dr di b t i = true
      · rw [if_pos q, if_pos q, if_neg (by rw [eq_0 (by omega)]; omega), or_n]
      · rw [if_neg q, if_neg q, if_pos rfl, or_0, Nat.or_zero])
  have hS : bsN 6 (snN p dr di b t) = se' b t := hse'.symm
  rw [hs1, hS] at e
  have hse64 : ∀ u, u ≤ t → se' b u < 64 := fun u hu => by
    by_cases q : u = t
    · subst q; rw [hse']; exact bsN_64 (Nat.le_refl 6) _
    · rw [hse u (by omega)]; exact (hs u (by omega)).2
  rw [nI_0] at e
  refine e.trans ?_
  simp (disch := omega) only [cell8, gi_n, cl, ltD]
  have hM1 : MPr (wI σ 52 0 (401 * b + t) (nI (se' b t))) p := h.kp (S := [(52, 0, 1)]) (kp_rf.wI (fr_m 0 rfl (Nat.le_refl _) (by omega))) rfl rfl rfl (by rw [rI, if_neg (fun z => by omega)])
  have hlo : t - pF p + (t + 1 - (t - pF p)) = t + 1 := by omega
  have hT := m_takeL (σ := wI σ 52 0 (401 * b + t) (nI (se' b t))) (b := b) hf (by omega) ht (se' b) hM1.2.2.1 (fun u hu => by
      rw [rI]
      by_cases q : u = t
      · subst q; rw [if_pos ⟨rfl, rfl, rfl⟩]
      · rw [if_neg (fun z => by omega), hse u (by omega)]
        exact (hs u (by omega)).1) (fun (x11 : Int32) (σ12 : St) => lt (wI σ12 53 0 (401 * b + t) x11) fun (σ13 : St) => (LX8_looksAt_116 (nI b) (nI t) x11 (fun (x17 : Int32) (σ18 : St) => lt (wI σ18 54 0 (401 * b + t) x17) fun (σ19 : St) => some ((), σ19)) FU (-2) 0 σ13)) (t + 1 - (t - pF p)) 0 FU (by omega) (by have := FU_gt; omega)
  rw [hlo, pk_m1, Nat.zero_or, nI_0] at hT
  have ha : taF p se' b t < 64 := orN_lt (fun u h1 h2 => hse64 u (by omega))
  have hM2 : MPr (wI (wI σ 52 0 (401 * b + t) (nI (se' b t))) 53 0 (401 * b + t) (nI (taF p se' b t))) p := hM1.kp (S := [(53, 0, 1)]) (kp_rf.wI (fr_m 0 rfl (Nat.le_refl _) (by omega))) rfl rfl rfl (by rw [rI, if_neg (fun z => by omega)])
  simp only [ltD] at hT
  have hTa : orN (se' b) (t - pF p) (t + 1 - (t - pF p)) = taF p se' b t := rfl
  rw [hTa] at hT
  rw [hT, m_outL hp hM2 hb ha]
