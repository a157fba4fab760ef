/-! ===== the class side: what is seen, taken, yielded ===== -/
def otN (p : PP) (dr : Nat → Nat → Nat) (b t : Nat) : Nat → Nat
  | 0 => 0
  | o + 1 => if apN (pS p) b o ≤ t then otN p dr b t o ||| dr o (t - apN (pS p) b o) else otN p dr b t o
theorem otN_bit (p : PP) (dr : Nat → Nat → Nat) (b t l : Nat) : ∀ n, (otN p dr b t n).testBit l = exN n (fun o => decide (apN (pS p) b o ≤ t) && (dr o (t - apN (pS p) b o)).testBit l) := by
  intro n
  induction n with
  | zero => simp [otN, exN]
  | succ n ih =>
    rw [otN, exN, ← ih]
    by_cases q : apN (pS p) b n ≤ t
    · rw [if_pos q, Nat.testBit_or]; simp [q]
    · rw [if_neg q]; simp [q]
theorem otN_lt {p : PP} {dr : Nat → Nat → Nat} {b t : Nat} {n : Nat} (h : ∀ o, o < n → ∀ u, u ≤ t → dr o u < 64) : otN p dr b t n < 64 := by
  induction n with
  | zero => simp [otN]
  | succ n ih =>
    rw [otN]
    split
    · exact Nat.or_lt_two_pow (n := 6) (ih (fun o ho => h o (by omega))) (h n (by omega) _ (by omega))
    · exact ih (fun o ho => h o (by omega))
theorem bit_hi {a l : Nat} (h : a < 64) (hl : 6 ≤ l) : a.testBit l = false := Nat.testBit_lt_two_pow (Nat.lt_of_lt_of_le h (Nat.pow_le_pow_right (n := 2) (by omega) hl))
theorem apN_self (s : Nat → Nat) (b : Nat) : apN s b b = 0 := by unfold apN; omega
theorem se_eq {p : PP} (hp : POk p) {dr di : Nat → Nat → Nat} {b t : Nat} (hb : b < pN p) (hd : ∀ o, o < pN p → ∀ u, u ≤ t → dr o u < 64) : (dr b t ||| nan (nan (otN p dr b t (pN p)) (di b t)) (brN p)) ||| stN p = seF p dr di b t := by
  apply Nat.eq_of_testBit_eq
  intro l
  unfold seF stN brN
  rw [Nat.testBit_or, Nat.testBit_or, nan_bit, nan_bit, bsN_bit, bsN_bit, bsN_bit]
  by_cases hl : l < 6
  · have hL := hp.2.2.2.2.2.2.2.1 l hl
    simp only [hl, decide_true, Bool.true_and]
    unfold snN
    cases q1 : (dr b t).testBit l with
    | true => simp
    | false =>
      simp only [Bool.false_or]
      rw [otN_bit, exN_congr (n := pN p) (f := fun o => decide (o ≠ b) && (decide (apN (pS p) b o ≤ t) && (dr o (t - apN (pS p) b o)).testBit l)) (g := fun o => decide (apN (pS p) b o ≤ t) && (dr o (t - apN (pS p) b o)).testBit l) (fun i hi => by
        by_cases e : i = b
        · subst e
          rw [apN_self, Nat.sub_zero, q1]; simp
        · simp [e])]
      by_cases q2 : pL p l = 0
      · simp only [q2, if_true]
        simp [Bool.and_comm]
      · rw [if_neg q2]
        by_cases q3 : pL p l = 1
        · simp [q3]
        · have : pL p l = 2 := by omega
          simp [this]
  · have h0 := otN_lt (p := p) (b := b) (t := t) hd
    rw [bit_hi (hd b hb t (Nat.le_refl _)) (by omega), bit_hi h0 (by omega)]
    simp [hl]
theorem c_look {σ : St} {p : PP} (hp : POk p) (h : CPr σ p) (dr di : Nat → Nat → Nat) {b t : Nat} (hb : b < pN p) (ht : t < 401) (hd : ∀ o, o < pN p → ∀ u, u ≤ t → σ.1 14 o u = nI (dr o u) ∧ dr o u < 64) (hi : σ.1 22 b t = nI (di b t)) :
    fX1_look (nI b) (nI t) σ = some (nI (seF p dr di b t), σ) := by
  have hn := hp.1
  unfold fX1_look
  obtain ⟨s, hs, e⟩ := lp0 (fun m i (s : Int32) => LX1_look_5 (nI b) (nI t) (fun (x7 : Int32) (σ8 : St) => gi (nI b) 6 <| gi (nI t) 401 <| gi (nI b) 6 <| gi (nI t) 401 <| some (((σ8.1 14 (nI b).toNatClampNeg (nI t).toNatClampNeg) ||| ((x7 &&& ((σ8.1 22 (nI b).toNatClampNeg (nI t).toNatClampNeg) ^^^ (-1))) &&& ((σ8.1 1 0 10) ^^^ (-1)))) ||| (σ8.1 1 0 9), σ8)) m s (nI i) σ) (fun x7 => gi (nI b) 6 <| gi (nI t) 401 <| gi (nI b) 6 <| gi (nI t) 401 <| some (((σ.1 14 (nI b).toNatClampNeg (nI t).toNatClampNeg) ||| ((x7 &&& ((σ.1 22 (nI b).toNatClampNeg (nI t).toNatClampNeg) ^^^ (-1))) &&& ((σ.1 1 0 10) ^^^ (-1)))) ||| (σ.1 1 0 9), σ)) (pN p) (by omega) (fun i s => s = nI (otN p dr b t i)) 0 rfl
    (fun m s _ => by
      rw [LX1_look_5, h.1, if_pos (by rw [le_n (by omega) (by omega)]; exact Nat.le_refl _)])
    (fun m i s hi hI => by
      refine ⟨_, rfl, ?_⟩
      have ha := apN_lt hp hb hi
      rw [LX1_look_5, h.1, if_neg (by rw [le_n (by omega) (by omega)]; omega)]
      simp (disch := omega) only [gi_n, cl, ltD, jnD, add_n, h.2.2.2.2.1 b i hb hi]
      rw [hI, otN]
      by_cases q : apN (pS p) b i ≤ t
      · rw [if_pos q]
        simp (disch := omega) only [sub_n, lt_0n, if_false, lt_n, gi_n, cl, (hd i hi (t - apN (pS p) b i) (by omega)).1, or_n]
        rw [if_neg (by omega)]
      · rw [if_neg q, if_pos (pk_sneg (by omega) (by omega))])
  have h0 := otN_lt (p := p) (b := b) (t := t) (n := pN p) (fun o ho u hu => (hd o ho u hu).2)
  rw [hs] at e
  refine e.trans ?_
  have h1 := nan_le (otN p dr b t (pN p)) (di b t)
  simp (disch := omega) only [gi_n, cl, (hd b hb t (Nat.le_refl _)).1, hi, h.2.2.2.2.2.2.1, h.2.2.2.2.2.2.2, nan_n, or_n]
  rw [se_eq hp hb (fun o ho u hu => (hd o ho u hu).2)]
theorem c_filt {σ : St} {p : PP} (hp : POk p) (h : CPr σ p) (se : Nat → Nat → Nat) {b t : Nat} (hb : b < pN p) (ht : t < 401) (hs : ∀ u, u ≤ t → σ.1 16 b u = nI (se b u)) :
    fX1_filtered (nI b) (nI t) σ = some (nI (taF p se b t), σ) := by
  have hn := hp.1
  have hf := hp.2.2.2.1
  unfold fX1_filtered
  have hx : (if nI t ≤ σ.1 1 0 12 then 0 else nI t - σ.1 1 0 12) = nI (t - pF p) := by
    rw [h.2.2.1]
    by_cases q : t ≤ pF p
    · rw [if_pos (by rw [le_n (by omega) (by omega)]; exact q), show t - pF p = 0 by omega, nI_0]
    · rw [if_neg (by rw [le_n (by omega) (by omega)]; exact q), sub_n (by omega)]
  rw [hx, ltD]
  obtain ⟨s, hs', e⟩ := lpU (fun m i (s : Int32) => LX1_filtered_26 (nI b) (nI t) (fun (x7 : Int32) (σ8 : St) => some (x7, σ8)) m s (nI i) σ) (fun s => some (s, σ)) (t + 1) (fun i s => t - pF p ≤ i ∧ s = nI (orN (se b) (t - pF p) (i - (t - pF p))))
    (fun m s _ => by
      rw [LX1_filtered_26, if_pos (by rw [lt_n (by omega) (by omega)]; omega)])
    (fun m i s hi hI => by
      refine ⟨_, ⟨by omega, rfl⟩, ?_⟩
      rw [LX1_filtered_26, if_neg (by rw [lt_n (by omega) (by omega)]; omega)]
      simp (disch := omega) only [gi_n, cl, ltD, add_n, hs i (by omega)]
      rw [hI.2, or_n, show i + 1 - (t - pF p) = (i - (t - pF p)) + 1 by omega, orN, show t - pF p + (i - (t - pF p)) = i by omega]) (t + 1 - (t - pF p)) (t - pF p) 0 FU (by omega) (by have := FU_gt; omega) ⟨Nat.le_refl _, by rw [Nat.sub_self]; rfl⟩
  rw [hs'.2] at e
  exact e
theorem c_highL {σ : St} {g w : Nat} (hg : g < 64) : ∀ (n m : Nat), n ≤ 6 → n < m → LX1_highest_2 (nI (nan g w)) (fun (σ1 : St) => some ((-2), σ1)) m (nI n + (-1)) σ = some (wv (hiN g w n), σ) := by
  have h1 := nan_le g w
  intro n
  induction n with
  | zero =>
    intro m _ hm
    cases m with
    | zero => omega
    | succ m => rw [LX1_highest_2, if_pos (by decide)]; rfl
  | succ n ih =>
    intro m hn hm
    cases m with
    | zero => omega
    | succ m =>
      rw [LX1_highest_2, sb_m1 (by omega), Nat.add_sub_cancel, ih m (by omega) (by omega)]
      simp (disch := omega) only [lt_0n, if_false, bit_n, nan_bit]
      rw [hiN]
      by_cases q : (g.testBit n && !w.testBit n) = true
      · rw [if_neg (by rw [q]; decide), if_pos q, wv_some]
      · rw [if_pos (by simpa using q), if_neg q]
theorem c_high {σ : St} {g w : Nat} (hg : g < 64) : fX1_highest (nI (nan g w)) σ = some (wv (hiN g w 6), σ) := by
  unfold fX1_highest
  exact c_highL hg 6 FU (Nat.le_refl _) (by have := FU_gt; omega)
/-- the class's grids hold the tables below t -/
def CS (σ : St) (p : PP) (se ta : Nat → Nat → Nat) (ou : Nat → Nat → Option Nat) (t : Nat) : Prop := ∀ b, b < pN p → ∀ u, u < t → (σ.1 16 b u = nI (se b u) ∧ se b u < 64) ∧ (σ.1 18 b u = nI (ta b u) ∧ ta b u < 64) ∧ (σ.1 20 b u = wv (ou b u) ∧ ∀ l, ou b u = some l → l < 6)
theorem c_see {σ : St} {p : PP} (hp : POk p) (h : CPr σ p) {t : Nat} {dr di se ta : Nat → Nat → Nat} {ou : Nat → Nat → Option Nat} (ht : t < 401) (hd : ∀ o, o < pN p → ∀ u, u ≤ t → σ.1 14 o u = nI (dr o u) ∧ dr o u < 64) (hA : A22 σ (pN p) di)
    (hs : CS σ p se ta ou t) (se' ta' : Nat → Nat → Nat) (ou' : Nat → Nat → Option Nat) (h1 : se' = col se t (fun b => seF p dr di b t)) (h2 : ta' = col ta t (fun b => taF p se' b t)) (h3 : ou' = col ou t (fun b => ouF p ta' b t)) :
    ∃ σ', fX1_seeAll (nI t) σ = some ((), σ') ∧ Kp [(16, 0, 6), (18, 0, 6), (20, 0, 6)] σ σ' ∧ CS σ' p se' ta' ou' (t + 1) := by
  have hn := hp.1
  have hC := pC_lt hp
  have hse64 : ∀ b, b < pN p → ∀ u, u < t + 1 → se' b u < 64 := fun b hb u hu => by
    rw [h1]
    by_cases q : u = t
    · subst q; rw [col_eq]; exact bsN_64 (Nat.le_refl 6) _
    · rw [col_ne _ _ _ q]; exact ((hs b hb u (by omega)).1).2
  have hta64 : ∀ b, b < pN p → ∀ u, u < t + 1 → ta' b u < 64 := fun b hb u hu => by
    rw [h2]
    by_cases q : u = t
    · subst q
      rw [col_eq]
      exact orN_lt (fun v v1 v2 => hse64 b hb v (by omega))
    · rw [col_ne _ _ _ q]; exact ((hs b hb u (by omega)).2.1).2
  have hou6 : ∀ b, b < pN p → ∀ u, u < t + 1 → ∀ l, ou' b u = some l → l < 6 := fun b hb u hu l hl => by
    rw [h3] at hl
    by_cases q : u = t
    · subst q
      rw [col_eq] at hl
      unfold ouF at hl
      split at hl
      · exact hiN_lt hl
      · cases hl
    · rw [col_ne _ _ _ q] at hl; exact ((hs b hb u (by omega)).2.2).2 l hl
  unfold fX1_seeAll
  obtain ⟨s, ⟨g1, g2⟩, e⟩ := lp0 (fun m i (s : St) => LX1_seeAll_2 (nI t) (fun (σ17 : St) => some ((), σ17)) m (nI i) s) (fun s => some ((), s)) (pN p) (by omega)
    (fun i s => Kp [(16, 0, 6), (18, 0, 6), (20, 0, 6)] σ s ∧ ∀ b, b < pN p → ∀ u, u < t + 1 → (u < t ∨ b < i) → s.1 16 b u = nI (se' b u) ∧ s.1 18 b u = nI (ta' b u) ∧ s.1 20 b u = wv (ou' b u)) σ ⟨kp_rf, fun b hb u hu hq => by
      rcases hq with hq | hq
      · rw [h1, h2, h3, col_ne _ _ _ (by omega), col_ne _ _ _ (by omega), col_ne _ _ _ (by omega)]
        have := hs b hb u hq
        exact ⟨this.1.1, this.2.1.1, this.2.2.1⟩
      · omega⟩
    (fun m s hI => by
      have hM := h.kp hI.1 rfl rfl (fun j _ => by rw [kpc hI.1 1 0 rfl])
      rw [LX1_seeAll_2, hM.1, if_pos (by rw [le_n (by omega) (by omega)]; exact Nat.le_refl _)])
    (fun m i s hi hI => by
      have hM := h.kp hI.1 rfl rfl (fun j _ => by rw [kpc hI.1 1 0 rfl])
      have hse : se' i t = seF p dr di i t := by rw [h1, col_eq]
      have hta : ta' i t = taF p se' i t := by rw [h2, col_eq]
      have hou : ou' i t = if (pC p).testBit i = true then hiN (ta' i t) (pW p i) 6 else none := by rw [h3, col_eq]; rfl
      have e1 := c_look hp hM dr di hi ht (fun o ho u hu => by rw [kpc hI.1 14 o rfl]; exact hd o ho u hu) (by rw [kpc hI.1 22 i rfl]; exact (hA i hi t ht).1)
      rw [← hse] at e1
      have k1 : Kp [(16, 0, 6), (18, 0, 6), (20, 0, 6)] σ (wI s 16 i t (nI (se' i t))) := hI.1.wI (fr_m 0 rfl (Nat.zero_le _) (by omega))
      have hM1 := h.kp k1 rfl rfl (fun j _ => by rw [kpc k1 1 0 rfl])
      have e2 := c_filt hp hM1 se' hi ht (fun u hu => by
        rw [rI]
        by_cases q : u = t
        · rw [if_pos ⟨rfl, rfl, q⟩, q]
        · rw [if_neg (fun z => q z.2.2)]
          exact (hI.2 i hi u (by omega) (Or.inl (by omega))).1)
      rw [← hta] at e2
      have k2 : Kp [(16, 0, 6), (18, 0, 6), (20, 0, 6)] σ (wI (wI s 16 i t (nI (se' i t))) 18 i t (nI (ta' i t))) := k1.wI (fr_m 1 rfl (Nat.zero_le _) (by omega))
      have hM2 := h.kp k2 rfl rfl (fun j _ => by rw [kpc k2 1 0 rfl])
      have hta' := hta64 i hi t (by omega)
      have r18 : (wI (wI s 16 i t (nI (se' i t))) 18 i t (nI (ta' i t))).1 18 i t = nI (ta' i t) := by rw [rI, if_pos ⟨rfl, rfl, rfl⟩]
      rw [LX1_seeAll_2, hM.1, if_neg (by rw [le_n (by omega) (by omega)]; omega), e1]
      simp (disch := omega) only [gi_n, cl, bdS, ltD, e2, jnD, add_n, hM2.2.2.2.1, has7, r18, hM2.2.2.2.2.2.1 i hi, nan_n, c_high hta']
      have key : (if (if (pC p).testBit i = true then nI 1 else 0) = 0 then LX1_seeAll_2 (nI t) (fun (σ17 : St) => some ((), σ17)) m (nI (i + 1)) (wI (wI (wI s 16 i t (nI (se' i t))) 18 i t (nI (ta' i t))) 20 i t (-2)) else LX1_seeAll_2 (nI t) (fun (σ17 : St) => some ((), σ17)) m (nI (i + 1)) (wI (wI (wI s 16 i t (nI (se' i t))) 18 i t (nI (ta' i t))) 20 i t (wv (hiN (ta' i t) (pW p i) 6)))) = LX1_seeAll_2 (nI t) (fun (σ17 : St) => some ((), σ17)) m (nI (i + 1)) (wI (wI (wI s 16 i t (nI (se' i t))) 18 i t (nI (ta' i t))) 20 i t (wv (ou' i t))) := by
        rw [hou]
        by_cases q : (pC p).testBit i = true
        · rw [if_pos q, if_pos q, if_neg (by decide)]
        · rw [if_neg q, if_neg q, if_pos rfl, wv_none]
      refine ⟨_, ⟨k2.wI (fr_m 2 rfl (Nat.zero_le _) (by omega)), fun b hb u hu hq => ?_⟩, key⟩
      simp only [rI]
      by_cases e3 : b = i ∧ u = t
      · obtain ⟨rfl, rfl⟩ := e3
        simp
      · simp only [e3, and_false, if_false]
        have := hI.2 b hb u hu (by omega)
        refine ⟨by simp [this.1], by simp [this.2.1], by simp [this.2.2]⟩)
  exact ⟨s, e, g1, fun b hb u hu => ⟨⟨(g2 b hb u hu (Or.inr hb)).1, hse64 b hb u hu⟩, ⟨(g2 b hb u hu (Or.inr hb)).2.1, hta64 b hb u hu⟩, (g2 b hb u hu (Or.inr hb)).2.2, hou6 b hb u hu⟩⟩
