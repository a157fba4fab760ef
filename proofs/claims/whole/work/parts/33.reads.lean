/-! ===== what is read of a pass, on both sides ===== -/
/-- the class holds a pass that was asked for up to tick un -/
def PR (σ : St) (p : PP) (un : Nat) : Prop := un ≤ 400 ∧ ∃ T, T ≤ un ∧ PL σ p T ∧ (T = un ∨ chT p (T + 1) + 50 ≤ T)
theorem c_cell {σ : St} {p : PP} (hp : POk p) {un : Nat} (h : PR σ p un) {b u : Nat} (hb : b < pN p) (hu : u ≤ un) : ∃ v, v < 401 ∧ fX1_playedTick (nI u) σ = some (nI v, σ) ∧ (σ.1 14 b v = nI (tD (tb p 401) b u) ∧ tD (tb p 401) b u < 64) ∧ (σ.1 16 b v = nI (tS (tb p 401) b u) ∧ tS (tb p 401) b u < 64) ∧ (σ.1 18 b v = nI (tT (tb p 401) b u) ∧ tT (tb p 401) b u < 64) ∧ (σ.1 20 b v = wv (tO (tb p 401) b u) ∧ ∀ l, tO (tb p 401) b u = some l → l < 6) := by
  obtain ⟨h4, T, hT, ⟨g1, g2, g3, g4⟩, hs⟩ := h
  refine ⟨min u T, by omega, ?_, ?_⟩
  · unfold fX1_playedTick
    rw [g3]
    rw [if_pos (by rw [ge_0 (by omega)]; trivial)]
    by_cases q : u ≤ T
    · rw [if_pos (by rw [le_n (by omega) (by omega)]; exact q), Nat.min_eq_left q]
    · rw [if_neg (by rw [le_n (by omega) (by omega)]; exact q), Nat.min_eq_right (by omega)]
  · obtain ⟨r1, r2, r3, r4⟩ := st_read hp hT h4 hs hb hu
    have a := g2.1 b hb (min u T) (by omega)
    have c := g2.2.1 b hb (min u T) (by omega)
    rw [r1] at a
    rw [r2, r3, r4] at c
    exact ⟨a, c⟩
theorem isBelow_n {b n : Nat} (hb : b < n) (hn : n ≤ 6) : fX7_isBelow (nI b) (nI n) = nI 1 := by
  unfold fX7_isBelow
  simp (disch := omega) only [lt_0n, le_n, lt_n, ge_0, if_false, if_true]
  first
    | rw [if_neg (by omega)]
    | rw [if_pos (by omega)]
theorem c_driven {σ : St} {p : PP} (hp : POk p) {un : Nat} (h : PR σ p un) {b u : Nat} (hb : b < pN p) (hu : u ≤ un) : fX1_drivenAt (nI b) (nI u) σ = some (nI (tD (tb p 401) b u), σ) := by
  have hn := hp.1
  obtain ⟨v, hv, e, c, _⟩ := c_cell hp h hb hu
  have h7 : σ.1 1 0 7 = nI (pN p) := by obtain ⟨_, T, _, g, _⟩ := h; exact g.1.1
  unfold fX1_drivenAt
  rw [h7, isBelow_n hb hn, if_neg (by decide), e, bdS, gi_n (by omega) (by omega), gi_n hv (by omega), cl (by omega), cl (by omega), c.1]
theorem c_sight {σ : St} {p : PP} (hp : POk p) {un : Nat} (h : PR σ p un) {b u : Nat} (hb : b < pN p) (hu : u ≤ un) : fX1_sightAt (nI b) (nI u) σ = some (nI (tS (tb p 401) b u), σ) := by
  have hn := hp.1
  obtain ⟨v, hv, e, _, c, _⟩ := c_cell hp h hb hu
  have h7 : σ.1 1 0 7 = nI (pN p) := by obtain ⟨_, T, _, g, _⟩ := h; exact g.1.1
  unfold fX1_sightAt
  rw [h7, isBelow_n hb hn, if_neg (by decide), e, bdS, gi_n (by omega) (by omega), gi_n hv (by omega), cl (by omega), cl (by omega), c.1]
theorem c_believed {σ : St} {p : PP} (hp : POk p) {un : Nat} (h : PR σ p un) {b u : Nat} (hb : b < pN p) (hu : u ≤ un) : fX1_believedAt (nI b) (nI u) σ = some (nI (tT (tb p 401) b u), σ) := by
  have hn := hp.1
  obtain ⟨v, hv, e, _, _, c, _⟩ := c_cell hp h hb hu
  have h7 : σ.1 1 0 7 = nI (pN p) := by obtain ⟨_, T, _, g, _⟩ := h; exact g.1.1
  unfold fX1_believedAt
  rw [h7, isBelow_n hb hn, if_neg (by decide), e, bdS, gi_n (by omega) (by omega), gi_n hv (by omega), cl (by omega), cl (by omega), c.1]
theorem c_yielded {σ : St} {p : PP} (hp : POk p) {un : Nat} (h : PR σ p un) {b u : Nat} (hb : b < pN p) (hu : u ≤ un) : fX1_yieldedAt (nI b) (nI u) σ = some (wv (tO (tb p 401) b u), σ) := by
  have hn := hp.1
  obtain ⟨v, hv, e, _, _, _, c⟩ := c_cell hp h hb hu
  have h7 : σ.1 1 0 7 = nI (pN p) := by obtain ⟨_, T, _, g, _⟩ := h; exact g.1.1
  unfold fX1_yieldedAt
  rw [h7, isBelow_n hb hn, if_neg (by decide), e, bdS, gi_n (by omega) (by omega), gi_n hv (by omega), cl (by omega), cl (by omega), c.1]
/-- who has not withdrawn at a tick -/
def wiN (p : PP) (ou : Nat → Nat → Option Nat) (u : Nat) : Nat → Nat := fun n => bsN n (fun b => (pC p).testBit b && (ou b u).isNone)
theorem wv_m2 {x : Option Nat} (hx : ∀ l, x = some l → l < 6) : (wv x = -2) = (x.isNone = true) := by
  cases x with
  | none => rw [wv_none]; simp
  | some l => rw [wv_some, nm2 (by have := hx l rfl; omega)]; simp
theorem c_winners {σ : St} {p : PP} (hp : POk p) {un : Nat} (h : PR σ p un) {u : Nat} (hu : u ≤ un) : fX1_winnersAt (nI u) σ = some (nI (wiN p (tO (tb p 401)) u (pN p)), σ) := by
  have hn := hp.1
  have hC := pC_lt hp
  have hP : CPr σ p := by obtain ⟨_, T, _, g, _⟩ := h; exact g.1
  unfold fX1_winnersAt
  obtain ⟨s, hs, e⟩ := lp0 (fun m i (s : Int32) => LX1_winnersAt_4 (nI u) (fun (x6 : Int32) (σ7 : St) => some (x6, σ7)) m s (nI i) σ) (fun s => some (s, σ)) (pN p) (by omega) (fun i s => s = nI (wiN p (tO (tb p 401)) u i)) 0 rfl
    (fun m s _ => by
      rw [LX1_winnersAt_4, hP.1, if_pos (by rw [le_n (by omega) (by omega)]; exact Nat.le_refl _)])
    (fun m i s hi hI => by
      refine ⟨_, rfl, ?_⟩
      obtain ⟨v, hv, _, _, _, _, c⟩ := c_cell hp h hi hu
      rw [LX1_winnersAt_4, hP.1, if_neg (by rw [le_n (by omega) (by omega)]; omega), hP.2.2.2.1, has7 (by omega) (by omega), c_yielded hp h hi hu]
      simp (disch := omega) only [jnD, bdS, ltD, add_n, shl_1]
      rw [hI]
      unfold wiN
      rw [bsN]
      by_cases q : (pC p).testBit i = true
      · rw [if_pos q, if_neg (by decide)]
        by_cases q2 : (tO (tb p 401) i u).isNone = true
        · rw [if_pos (by rw [wv_m2 c.2]; exact q2), if_pos (by rw [q, q2]; rfl), or_n]
        · rw [if_neg (by rw [wv_m2 c.2]; exact q2), if_neg (fun z => q2 (by rw [q] at z; exact z)), Nat.or_zero]
      · rw [if_neg q, if_pos rfl, if_neg (fun z => q (Bool.and_eq_true _ _ ▸ z).1), Nat.or_zero])
  rw [hs] at e
  exact e
theorem m_winners {σ : St} {p : PP} (hp : POk p) (h : MPr σ p) {x : PT} {t : Nat} (ht : t ≤ 401) (hA : MA σ p x t) {u : Nat} (hu : u < t) : fX8_winnersAt (nI u) σ = some (nI (wiN p (tO x) u (pN p)), σ) := by
  have hn := hp.1
  have hC := pC_lt hp
  unfold fX8_winnersAt
  obtain ⟨s, hs, e⟩ := lp0 (fun m i (s : Int32) => LX8_winnersAt_4 (nI u) (fun (x5 : Int32) (σ6 : St) => some (x5, σ6)) m s (nI i) σ) (fun s => some (s, σ)) (pN p) (by omega) (fun i s => s = nI (wiN p (tO x) u i)) 0 rfl
    (fun m s _ => by
      rw [LX8_winnersAt_4]
      simp (disch := omega) only [gi_n, cl, h.1, le_n, Nat.le_refl, if_true])
    (fun m i s hi hI => by
      refine ⟨_, rfl, ?_⟩
      obtain ⟨c1, c2⟩ := (hA.1 i hi u hu).2.2.2
      rw [LX8_winnersAt_4, h.2.2.2.1, has8 (by omega) (by omega)]
      simp (disch := omega) only [gi_n, cl, h.1, le_n, jnD, ltD, add_n, shl_1, cell8, c1]
      rw [if_neg (by omega), hI]
      unfold wiN
      rw [bsN]
      by_cases q : (pC p).testBit i = true
      · rw [if_pos q, if_neg (by decide)]
        by_cases q2 : (tO x i u).isNone = true
        · rw [if_pos (by rw [wv_m2 c2]; exact q2), if_pos (by rw [q, q2]; rfl), or_n]
        · rw [if_neg (by rw [wv_m2 c2]; exact q2), if_neg (fun z => q2 (by rw [q] at z; exact z)), Nat.or_zero, or_0]
      · rw [if_neg q, if_pos rfl, if_neg (fun z => q (Bool.and_eq_true _ _ ▸ z).1), Nat.or_zero, or_0])
  rw [hs] at e
  exact e
/-- some board takes an even number of lines -/
def faN (p : PP) (ta : Nat → Nat → Nat) (u : Nat) : Bool := exN (pN p) (fun b => decide (pop6 (ta b u) % 2 = 0))
theorem c_even {σ : St} {p : PP} (hp : POk p) {un : Nat} (h : PR σ p un) {u : Nat} (hu : u ≤ un) : fX1_isEvenAt (nI u) σ = some (if faN p (tT (tb p 401)) u = true then nI 1 else 0, σ) := by
  have hn := hp.1
  have hP : CPr σ p := by obtain ⟨_, T, _, g, _⟩ := h; exact g.1
  unfold fX1_isEvenAt faN
  have := lpX0 (fun m i => LX1_isEvenAt_2 (nI u) (fun (σ5 : St) => some (0, σ5)) m (nI i) σ) (some (0, σ)) (some (nI 1, σ)) (fun b => decide (pop6 (tT (tb p 401) b u) % 2 = 0)) (pN p) (by omega)
    (fun m => by
      rw [LX1_isEvenAt_2, hP.1, if_pos (by rw [le_n (by omega) (by omega)]; exact Nat.le_refl _)])
    (fun m i hi => by
      obtain ⟨v, hv, _, _, _, c, _⟩ := c_cell hp h hi hu
      have := pop6_le _ c.2
      rw [LX1_isEvenAt_2, hP.1, if_neg (by rw [le_n (by omega) (by omega)]; omega), c_believed hp h hi hu, bdS, c_bits _ c.2, bdS, rem_n (by omega) (by omega) (by omega), add_n]
      by_cases q : pop6 (tT (tb p 401) i u) % 2 = 0
      · rw [if_pos (by rw [eq_0 (by omega)]; exact q), if_pos (decide_eq_true q)]
      · rw [if_neg (by rw [eq_0 (by omega)]; exact q), if_neg (fun z => q (of_decide_eq_true z))])
  rw [nI_0] at this
  rw [this]
  split <;> rfl
theorem m_faulty {σ : St} {p : PP} (hp : POk p) (h : MPr σ p) {x : PT} {t : Nat} (ht : t ≤ 401) (hA : MA σ p x t) {u : Nat} (hu : u < t) : fX8_isFaultyAt (nI u) σ = some (if faN p (tT x) u = true then nI 1 else 0, σ) := by
  have hn := hp.1
  unfold fX8_isFaultyAt faN
  have := lpX0 (fun m i => LX8_isFaultyAt_2 (nI u) (fun (σ3 : St) => some (0, σ3)) m (nI i) σ) (some (0, σ)) (some (nI 1, σ)) (fun b => decide (pop6 (tT x b u) % 2 = 0)) (pN p) (by omega)
    (fun m => by
      rw [LX8_isFaultyAt_2]
      simp (disch := omega) only [gi_n, cl, h.1, le_n, Nat.le_refl, if_true])
    (fun m i hi => by
      obtain ⟨c1, c2⟩ := (hA.1 i hi u hu).2.2.1
      have := pop6_le _ c2
      rw [LX8_isFaultyAt_2]
      simp (disch := omega) only [gi_n, cl, h.1, le_n, cell8, c1]
      rw [if_neg (by omega), m_bits _ c2, bdS, rem_n (by omega) (by omega) (by omega), add_n]
      by_cases q : pop6 (tT x i u) % 2 = 0
      · rw [if_pos (by rw [eq_0 (by omega)]; exact q), if_pos (decide_eq_true q)]
      · rw [if_neg (by rw [eq_0 (by omega)]; exact q), if_neg (fun z => q (of_decide_eq_true z))])
  rw [nI_0] at this
  rw [this]
  split <;> rfl
