/-! ===== the words of both passes ===== -/
theorem mxN_leM {n : Nat} {p : Nat → Bool} {rk : Nat → Nat} {M : Nat} (h : ∀ b, b < n → rk b ≤ M) : mxN n p rk ≤ M := by
  induction n with
  | zero => exact Nat.zero_le _
  | succ n ih =>
    rw [mxN]
    split
    · exact h n (by omega)
    · exact ih (fun b hb => h b (by omega))
/-- the word of the first pass: rank of the day, a turn that is due -/
def wd1 (w : Nat → Option Nat) (rk tu : Nat → Nat) (n b : Nat) : Nat := oddN (8 * rkD w rk n b + 4 * tu b)
/-- the word of the second pass: the code -/
def wd2 (cd : Nat → Nat) (b : Nat) : Nat := oddN (2 * cd b)
/-- what the words are made of, in the model's row -/
def MW (σ : St) (w : Nat → Option Nat) (n : Nat) (μ rk tu cd : Nat → Nat) : Prop := n ≤ 6 ∧ σ.1 44 0 3 = nI n ∧ Acy w n μ ∧ (∀ b, b < n → μ b < n) ∧ (∀ b, b < n → σ.1 47 0 (18 + 12 * b + 3) = wv (w b)) ∧ (∀ b, b < n → σ.1 44 0 (17 + b) = nI (rk b) ∧ rk b ≤ 7) ∧ (∀ b, b < n → σ.1 47 0 (18 + 12 * b + 2) = nI (tu b) ∧ tu b ≤ 1) ∧ ∀ b, b < n → σ.1 44 0 (11 + b) = nI (cd b) ∧ cd b < 32
theorem m_word1 {σ : St} {w : Nat → Option Nat} {n : Nat} {μ rk tu cd : Nat → Nat} (h : MW σ w n μ rk tu cd) {b : Nat} (hb : b < n) : fX8_wordOf (nI b) (nI 1) σ = some (nI (wd1 w rk tu n b), σ) := by
  obtain ⟨hn, h3, ha, hm, hw, hr, ht, hc⟩ := h
  obtain ⟨t1, t2⟩ := ht b hb
  have hk : rkD w rk n b ≤ 7 := mxN_leM (fun b hb => (hr b hb).2)
  unfold fX8_wordOf wd1
  rw [if_pos rfl, m_rank σ w n μ rk hn h3 ha (fun b hb => by have := hm b hb; omega) hw (fun b hb => (hr b hb).1) (fun b hb => (hr b hb).2) hb, bdS, at8, gi_n (by omega) (by omega), cl (by omega), t1, mul_n, mul_n, add_n, m_odd σ (by omega), bdS]
theorem m_word2 {σ : St} {w : Nat → Option Nat} {n : Nat} {μ rk tu cd : Nat → Nat} (h : MW σ w n μ rk tu cd) {b : Nat} (hb : b < n) : fX8_wordOf (nI b) (nI 2) σ = some (nI (wd2 cd b), σ) := by
  obtain ⟨hn, h3, ha, hm, hw, hr, ht, hc⟩ := h
  obtain ⟨t1, t2⟩ := hc b hb
  unfold fX8_wordOf wd2
  rw [if_neg (by decide), add_n, gi_n (by omega) (by omega), cl (by omega), t1, mul_n, m_odd σ (by omega), bdS]
theorem MW.kp {σ σ' : St} {w : Nat → Option Nat} {n : Nat} {μ rk tu cd : Nat → Nat} (h : MW σ w n μ rk tu cd) (hk : Kp SE σ σ') : MW σ' w n μ rk tu cd := by
  unfold MW
  rw [kpc hk 44 0 rfl, kpc hk 47 0 rfl]
  exact h
theorem wx_1 {σ : St} {w : Nat → Option Nat} {n : Nat} {μ rk tu cd : Nat → Nat} (h : MW σ w n μ rk tu cd) : WX 0 σ n 1 (wd1 w rk tu n) := fun b s hb hk K => by
  rw [if_pos rfl, m_word1 (h.kp hk) hb, bdS]
theorem wx_2 {σ : St} {w : Nat → Option Nat} {n : Nat} {μ rk tu cd : Nat → Nat} (h : MW σ w n μ rk tu cd) : WX 0 σ n 2 (wd2 cd) := fun b s hb hk K => by
  rw [if_pos rfl, m_word2 (h.kp hk) hb, bdS]
/-- the words that lie in the row -/
theorem wx_h {σ : St} {a2 : Int32} (ha : a2 ≠ 0) {n i : Nat} (hn : n ≤ 6) (hi : i = 1 ∨ i = 2) {w : Nat → Nat} (h : ∀ b, b < n → σ.1 47 0 (18 + 12 * b + (3 + i)) = nI (w b)) : WX a2 σ n i w := fun b s hb hk K => by
  have e : (if nI i = nI 1 then nI 4 else nI 5) = nI (3 + i) := by
    rcases hi with rfl | rfl
    · rw [if_pos rfl]
    · rw [if_neg (by decide)]
  rw [if_neg ha, e, at8, gi_n (by omega) (by omega), cl (by omega), kpc hk 47 0 rfl, h b hb]
theorem wd1_lt {w : Nat → Option Nat} {rk tu : Nat → Nat} {n b : Nat} (hr : ∀ b, b < n → rk b ≤ 7) (ht : tu b ≤ 1) : wd1 w rk tu n b < 64 ∧ 0 < wd1 w rk tu n b := by
  have hk : rkD w rk n b ≤ 7 := mxN_leM hr
  exact oddN_lt _ (by omega) (by omega)
theorem wd2_lt {cd : Nat → Nat} {b : Nat} (h : cd b < 32) : wd2 cd b < 64 ∧ 0 < wd2 cd b := oddN_lt _ (by omega) (by omega)
theorem or84 : ∀ r, r < 8 → ∀ t, t < 2 → (r <<< 3) ||| (t <<< 2) = 8 * r + 4 * t := by decide +kernel
/-- the turns that are due, as a set -/
def tuN (fr b : Nat) : Nat := (fr >>> b) &&& 1
theorem tuN_le (fr b : Nat) : tuN fr b ≤ 1 := Nat.and_le_right
/-- the class's words of the first pass -/
theorem c_words {σ : St} {k n fr : Nat} {w : Nat → Option Nat} {μ rk : Nat → Nat} (hc : CP σ k n) (ha : Acy w n μ) (hm : ∀ b, b < n → μ b < n) (hw : ∀ o, o < n → σ.1 36 k o = wv (w o)) (hr : ∀ o, o < n → σ.1 26 (σ.2.2 4 k 1) o = nI (rk o)) (hr7 : ∀ b, b < n → rk b ≤ 7) (hf : σ.1 4 k 8 = nI fr) (hf6 : fr < 64) :
    ∃ σ', fX4_rankWords k σ = some ((), σ') ∧ Kp [(31, k, k + 1)] σ σ' ∧ ∀ b, b < n → σ'.1 31 k b = nI (wd1 w rk (tuN fr) n b) := by
  have hn := hc.2.2
  unfold fX4_rankWords
  obtain ⟨s, ⟨g1, g2⟩, e⟩ := lp0 (fun m i (s : St) => LX4_rankWords_2 k (fun (σ7 : St) => some ((), σ7)) m (nI i) s) (fun s => some ((), s)) n (by omega)
    (fun i s => Kp [(31, k, k + 1)] σ s ∧ ∀ b, b < i → s.1 31 k b = nI (wd1 w rk (tuN fr) n b)) σ ⟨kp_rf, fun b hb => by omega⟩
    (fun m s hI => by
      rw [LX4_rankWords_2, kpr hI.1 4 k rfl, kpc hI.1 2 _ rfl, gd_t hc.1, hc.2.1, if_pos (by rw [le_n (by omega) (by omega)]; exact Nat.le_refl _)])
    (fun m i s hi hI => by
      obtain ⟨i1, i2⟩ := hI
      have hP : s.2.2 4 k 1 = σ.2.2 4 k 1 := by rw [kpr i1 4 k rfl]
      have hc' : CP s k n := by
        unfold CP
        rw [hP, kpc i1 2 _ rfl]
        exact hc
      have e1 := c_rank s k n i w μ rk hi hc' ha hm (fun o ho => by rw [kpc i1 36 k rfl]; exact hw o ho) (fun o ho => by rw [hP, kpc i1 26 _ rfl]; exact hr o ho) hr7
      have hk : rkD w rk n i ≤ 7 := mxN_leM hr7
      have ht := tuN_le fr i
      have h8 : rkD w rk n i * 2 ^ 3 < 4294967296 := by omega
      have h4 : tuN fr i * 2 ^ 2 < 4294967296 := by omega
      have ho := or84 (rkD w rk n i) (by omega) (tuN fr i) (by omega)
      rw [LX4_rankWords_2, hP, kpc i1 2 _ rfl, gd_t hc.1, hc.2.1, if_neg (by rw [le_n (by omega) (by omega)]; omega), if_neg (by rw [le_n (by omega) (by omega)]; omega), e1, bdS, kpc i1 4 k rfl, hf, shr_n (by omega) (by omega), and_n]
      show ∃ s', _ ∧ (bd (fX7_odd ((nI (rkD w rk n i) <<< (nI 3 &&& 31)) ||| (nI (tuN fr i) <<< (nI 2 &&& 31))) s) _) = _
      rw [shl_n (by omega) h8, shl_n (by omega) h4, or_n, ho, c_odd s (by omega) (by omega), bdS, gi_n (by omega) (by omega), cl (by omega), ltD, add_n]
      refine ⟨_, ⟨kp_1 i1, fun b hb => ?_⟩, rfl⟩
      rw [rI]
      by_cases z : b = i
      · rw [if_pos ⟨rfl, rfl, z⟩, z]; rfl
      · rw [if_neg (fun y => z y.2.2)]; exact i2 b (by omega))
  exact ⟨s, e, g1, g2⟩
