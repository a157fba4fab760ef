/-! ===== pure: counts of bits, odd words; who waits for whom; ranks of the day ===== -/
def pop6 (x : Nat) : Nat := x % 2 + x / 2 % 2 + x / 4 % 2 + x / 8 % 2 + x / 16 % 2 + x / 32 % 2
theorem pop6_step : ∀ x, x < 64 → x ≠ 0 → pop6 (x &&& (x - 1)) + 1 = pop6 x ∧ x &&& (x - 1) < x := by decide +kernel
theorem pop6_le : ∀ x, x < 64 → pop6 x ≤ 6 := by decide +kernel
theorem m_bitsL (ke : Int32 → St → Option (Int32 × St)) (σ : St) : ∀ (x : Nat), x < 64 → ∀ (c m : Nat), x < m → LX8_bitsOf_4 ke m (nI c) (nI x) σ = ke (nI (c + pop6 x)) σ := by
  intro x
  induction x using Nat.strongRecOn with
  | ind x ih =>
    intro hx c m hm
    cases m with
    | zero => omega
    | succ m =>
      rw [LX8_bitsOf_4]
      by_cases h0 : x = 0
      · subst h0
        rw [nI_0, if_pos rfl]
        rfl
      · obtain ⟨h1, h2⟩ := pop6_step x hx h0
        simp (disch := omega) only [eq_0, h0, if_false, ltD, sub_n, and_n, add_n]
        rw [ih (x &&& (x - 1)) h2 (by omega) (c + 1) m (by omega)]
        rw [show c + 1 + pop6 (x &&& (x - 1)) = c + pop6 x by omega]
theorem m_bits (σ : St) {x : Nat} (hx : x < 64) : fX8_bitsOf (nI x) σ = some (nI (pop6 x), σ) := by
  unfold fX8_bitsOf
  have h := m_bitsL (fun (x2 : Int32) (σ3 : St) => some (x2, σ3)) σ x hx 0 FU (by have := FU_gt; omega)
  rw [nI_0, Nat.zero_add] at h
  exact h
def bcE (p0 : Int32) : Int32 := lt (p0 - (((p0.toUInt32 >>> ((nI 1).toUInt32 &&& Int32.toUInt32 31)).toInt32) &&& 1431655765)) fun (x1 : Int32) => lt ((x1 &&& 858993459) + (((x1.toUInt32 >>> ((nI 2).toUInt32 &&& Int32.toUInt32 31)).toInt32) &&& 858993459)) fun (x2 : Int32) => lt ((x2 + ((x2.toUInt32 >>> ((nI 4).toUInt32 &&& Int32.toUInt32 31)).toInt32)) &&& 252645135) fun (x3 : Int32) => lt (x3 + ((x3.toUInt32 >>> ((nI 8).toUInt32 &&& Int32.toUInt32 31)).toInt32)) fun (x4 : Int32) => lt (x4 + ((x4.toUInt32 >>> ((nI 16).toUInt32 &&& Int32.toUInt32 31)).toInt32)) fun (x5 : Int32) => (x5 &&& (nI 63))
theorem bcE_ok : ∀ x, x < 64 → bcE (nI x) = nI (pop6 x) := by decide +kernel
theorem c_bits (σ : St) {x : Nat} (hx : x < 64) : fJ6_bitCount_0f7a4 (nI x) σ = some (nI (pop6 x), σ) := by
  rw [← bcE_ok x hx]
  rfl
/-- an even word, made odd in its bits -/
def oddN (v : Nat) : Nat := if pop6 v % 2 = 1 then v else v + 1
theorem oddN_lt : ∀ v, v < 64 → v % 2 = 0 → oddN v < 64 ∧ 0 < oddN v := by decide +kernel
theorem oddN_or : ∀ v, v < 64 → v % 2 = 0 → v ||| ((pop6 v + 1) % 2) = oddN v := by decide +kernel
theorem m_odd (σ : St) {v : Nat} (hv : v < 64) : fX8_odd (nI v) σ = some (nI (oddN v), σ) := by
  unfold fX8_odd
  have := pop6_le v hv
  rw [m_bits σ hv, bdS]
  simp (disch := omega) only [rem_n, eq_n, add_n]
  unfold oddN
  split <;> rfl
theorem c_odd (σ : St) {v : Nat} (hv : v < 64) (he : v % 2 = 0) : fX7_odd (nI v) σ = some (nI (oddN v), σ) := by
  unfold fX7_odd
  have := pop6_le v hv
  rw [c_bits σ hv, bdS]
  simp (disch := omega) only [add_n, rem_n, or_n]
  rw [oddN_or v hv he]
/-- a number, or that there is none -/
def wv (x : Option Nat) : Int32 := match x with
  | none => -2
  | some c => nI c
/-- b waits for o (or is it), by at most so many others -/
def dw : Nat → (Nat → Option Nat) → Nat → Nat → Bool
  | 0, _, b, o => decide (b = o)
  | f + 1, w, b, o => decide (b = o) || (match w b with
    | none => false
    | some c => dw f w c o)
/-- waiting never comes back: μ falls -/
def Acy (w : Nat → Option Nat) (n : Nat) (μ : Nat → Nat) : Prop := ∀ b, b < n → ∀ c, w b = some c → c < n ∧ μ c < μ b
theorem dw_fuel {w : Nat → Option Nat} {n : Nat} {μ : Nat → Nat} (ha : Acy w n μ) (o : Nat) : ∀ (f g b : Nat), b < n → μ b ≤ f → μ b ≤ g → dw f w b o = dw g w b o := by
  intro f
  induction f with
  | zero =>
    intro g b hb hf hg
    cases g with
    | zero => rfl
    | succ g =>
      cases hw : w b with
      | none => simp [dw, hw]
      | some c => have := (ha b hb c hw).2; omega
  | succ f ih =>
    intro g b hb hf hg
    cases hw : w b with
    | none => cases g <;> simp [dw, hw]
    | some c =>
      obtain ⟨hc, hm⟩ := ha b hb c hw
      cases g with
      | zero => omega
      | succ g =>
        simp only [dw, hw]
        rw [ih g c hc (by omega) (by omega)]
theorem dw_self (f : Nat) (w : Nat → Option Nat) (b : Nat) : dw f w b b = true := by cases f <;> simp [dw]
theorem m_waitL (σ : St) (w : Nat → Option Nat) (n : Nat) (μ : Nat → Nat) (hn : n ≤ 6) (ha : Acy w n μ) (hw : ∀ b, b < n → σ.1 47 0 (18 + 12 * b + 3) = wv (w b)) (o : Nat) (ho : o < n) (ke : Int32 → St → Option (Int32 × St)) :
    ∀ (f b m : Nat), b < n → μ b ≤ f → f + 1 < m → ∃ x : Int32, LX8_doesWait_2 (nI o) ke m (nI b) σ = ke x σ ∧ (x = nI o ↔ dw f w b o = true) := by
  intro f
  induction f with
  | zero =>
    intro b m hb hf hm
    cases m with
    | zero => omega
    | succ m =>
      rw [LX8_doesWait_2]
      simp (disch := omega) only [nm2, if_false, eq_n, at8, gi_n, cl, ltD]
      by_cases e : b = o
      · subst e
        exact ⟨nI b, by rw [if_pos rfl], by simp [dw]⟩
      · rw [if_neg e, hw b hb]
        cases h : w b with
        | some c => have := (ha b hb c h).2; omega
        | none =>
          cases m with
          | zero => omega
          | succ m =>
            rw [LX8_doesWait_2]
            refine ⟨-2, by simp [wv], ?_⟩
            simp (disch := omega) [m2n, dw, e]
  | succ f ih =>
    intro b m hb hf hm
    cases m with
    | zero => omega
    | succ m =>
      rw [LX8_doesWait_2]
      simp (disch := omega) only [nm2, if_false, eq_n, at8, gi_n, cl, ltD]
      by_cases e : b = o
      · subst e
        exact ⟨nI b, by rw [if_pos rfl], by simp [dw]⟩
      · rw [if_neg e, hw b hb]
        cases h : w b with
        | some c =>
          obtain ⟨hc, hmu⟩ := ha b hb c h
          obtain ⟨x, h1, h2⟩ := ih c m hc (by omega) (by omega)
          refine ⟨x, h1, ?_⟩
          simp only [dw, h, e, decide_false, Bool.false_or]
          exact h2
        | none =>
          cases m with
          | zero => omega
          | succ m =>
            rw [LX8_doesWait_2]
            refine ⟨-2, by simp [wv], ?_⟩
            simp (disch := omega) [m2n, dw, e, h]
theorem m_waits (σ : St) (w : Nat → Option Nat) (n : Nat) (μ : Nat → Nat) (hn : n ≤ 6) (ha : Acy w n μ) (hm : ∀ b, b < n → μ b ≤ 6) (hw : ∀ b, b < n → σ.1 47 0 (18 + 12 * b + 3) = wv (w b)) {b o : Nat} (hb : b < n) (ho : o < n) : fX8_doesWait (nI b) (nI o) σ = some (if dw 6 w b o = true then nI 1 else 0, σ) := by
  unfold fX8_doesWait
  obtain ⟨x, h1, h2⟩ := m_waitL σ w n μ hn ha hw o ho (fun (x2 : Int32) (σ3 : St) => rz (if x2 = nI o then (nI 1) else 0) σ3) 6 b FU hb (hm b hb) (by have := FU_gt; omega)
  rw [h1, rz_if]
  simp only [h2]
/-- the greatest of rk over those below n that p takes -/
def mxN : Nat → (Nat → Bool) → (Nat → Nat) → Nat
  | 0, _, _ => 0
  | n + 1, p, rk => if p n = true ∧ mxN n p rk < rk n then rk n else mxN n p rk
theorem mxN_le {n : Nat} {p : Nat → Bool} {rk : Nat → Nat} {M : Nat} (h : ∀ b, b < n → rk b ≤ M) : mxN n p rk ≤ M := by
  induction n with
  | zero => exact Nat.zero_le _
  | succ n ih =>
    rw [mxN]
    split
    · exact h n (by omega)
    · exact ih (fun b hb => h b (by omega))
theorem mxN_congr {n : Nat} {p q : Nat → Bool} {rk : Nat → Nat} (h : ∀ i, i < n → p i = q i) : mxN n p rk = mxN n q rk := by
  induction n with
  | zero => rfl
  | succ n ih => rw [mxN, mxN, ih (fun i hi => h i (by omega)), h n (by omega)]
/-- rank of the day -/
def rkD (w : Nat → Option Nat) (rk : Nat → Nat) (n b : Nat) : Nat := mxN n (fun o => dw 6 w o b) rk
theorem m_rank (σ : St) (w : Nat → Option Nat) (n : Nat) (μ : Nat → Nat) (rk : Nat → Nat) (hn : n ≤ 6) (h3 : σ.1 44 0 3 = nI n) (ha : Acy w n μ) (hm : ∀ b, b < n → μ b ≤ 6) (hw : ∀ b, b < n → σ.1 47 0 (18 + 12 * b + 3) = wv (w b)) (hr : ∀ b, b < n → σ.1 44 0 (17 + b) = nI (rk b)) (hr7 : ∀ b, b < n → rk b ≤ 7) {b : Nat} (hb : b < n) : fX8_rankOf (nI b) σ = some (nI (rkD w rk n b), σ) := by
  unfold fX8_rankOf rkD
  obtain ⟨s, hs, e⟩ := lp0 (fun m i (s : Int32) => LX8_rankOf_4 (nI b) (fun (x6 : Int32) (σ7 : St) => some (x6, σ7)) m s (nI i) σ) (fun s => some (s, σ)) n (by omega) (fun i s => s = nI (mxN i (fun o => dw 6 w o b) rk)) 0 rfl
    (fun m s _ => by
      rw [LX8_rankOf_4]
      simp (disch := omega) only [gi_n, cl, h3, Nat.le_refl, le_n, if_true])
    (fun m i s hi hI => by
      refine ⟨_, rfl, ?_⟩
      have hle : mxN i (fun o => dw 6 w o b) rk ≤ 7 := mxN_le (fun b hb => hr7 b (by omega))
      have hri := hr7 i hi
      rw [LX8_rankOf_4, m_waits σ w n μ hn ha hm hw hi hb]
      simp (disch := omega) only [gi_n, cl, h3, le_n, bdS, jnD, add_n]
      rw [if_neg (by omega), hI]
      by_cases hd : dw 6 w i b = true
      · simp (disch := omega) only [hd, if_true, hr i hi, le_n, eq_0]
        rw [if_neg (by omega), mxN]
        by_cases hq : mxN i (fun o => dw 6 w o b) rk < rk i
        · rw [if_neg (by omega), if_pos ⟨hd, hq⟩]
        · rw [if_pos (by omega), if_neg (fun z => hq z.2)]
      · rw [if_neg hd, if_pos rfl, mxN, if_neg (fun z => hd z.1)])
  rw [hs] at e
  exact e
