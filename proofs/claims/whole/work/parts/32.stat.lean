/-! ===== a quiet pass stays as it is ===== -/
theorem tb_D (p : PP) (b : Nat) {u t : Nat} (h : u < t) : tD (tb p (t + 1)) b u = tD (tb p t) b u := by
  show kD p (tb p t) t b u = _
  unfold kD
  exact col_ne _ _ _ (by omega)
theorem tb_S (p : PP) (b : Nat) {u t : Nat} (h : u < t) : tS (tb p (t + 1)) b u = tS (tb p t) b u := by
  show kS p (tb p t) t b u = _
  unfold kS
  exact col_ne _ _ _ (by omega)
theorem tb_T (p : PP) (b : Nat) {u t : Nat} (h : u < t) : tT (tb p (t + 1)) b u = tT (tb p t) b u := by
  show kT p (tb p t) t b u = _
  unfold kT
  exact col_ne _ _ _ (by omega)
theorem tb_O (p : PP) (b : Nat) {u t : Nat} (h : u < t) : tO (tb p (t + 1)) b u = tO (tb p t) b u := by
  show kO p (tb p t) t b u = _
  unfold kO
  exact col_ne _ _ _ (by omega)
theorem tb_Dt (p : PP) (b t : Nat) : tD (tb p (t + 1)) b t = drF p (tO (tb p t)) b t := by
  show kD p (tb p t) t b t = _
  unfold kD
  exact col_eq _ _ _ _
theorem tb_up (p : PP) (b : Nat) {u t : Nat} (h : u < t) : ∀ k, tD (tb p (t + k)) b u = tD (tb p t) b u ∧ tS (tb p (t + k)) b u = tS (tb p t) b u ∧ tT (tb p (t + k)) b u = tT (tb p t) b u ∧ tO (tb p (t + k)) b u = tO (tb p t) b u := by
  intro k
  induction k with
  | zero => exact ⟨rfl, rfl, rfl, rfl⟩
  | succ k ih =>
    have h' : u < t + k := by omega
    exact ⟨(tb_D p b h').trans ih.1, (tb_S p b h').trans ih.2.1, (tb_T p b h').trans ih.2.2.1, (tb_O p b h').trans ih.2.2.2⟩
theorem chT_mono (p : PP) (t : Nat) : ∀ k, chT p t ≤ chT p (t + k) := by
  intro k
  induction k with
  | zero => exact Nat.le_refl _
  | succ k ih =>
    refine Nat.le_trans ih ?_
    show chT p (t + k) ≤ chT p (t + k + 1)
    rw [chT]
    split
    · exact Nat.le_refl _
    · unfold chN
      split
      · cases q : t + k with
        | zero => omega
        | succ m => have := chT_le p m; omega
      · exact Nat.le_refl _
def seC (p : PP) (e : Nat → Nat) (b : Nat) : Nat := bsN 6 (fun l => (e b).testBit l || (if pL p l = 0 then exN (pN p) (fun o => decide (o ≠ b) && (e o).testBit l) else decide (pL p l = 1)))
def ouC (p : PP) (e : Nat → Nat) (b : Nat) : Option Nat := if (pC p).testBit b = true then hiN (seC p e b) (pW p b) 6 else none
theorem orN_const {f : Nat → Nat} {lo a : Nat} : ∀ m, (∀ u, lo ≤ u → u < lo + (m + 1) → f u = a) → orN f lo (m + 1) = a := by
  intro m
  induction m with
  | zero => intro h; rw [orN, orN, Nat.zero_or]; exact h _ (by omega) (by omega)
  | succ m ih => intro h; rw [orN, ih (fun u h1 h2 => h u h1 (by omega)), h (lo + (m + 1)) (by omega) (by omega), Nat.or_self]
theorem mkI_far {p : PP} (hp : POk p) {di : Nat → Nat → Nat} {b l t far o u : Nat} (hb : b < pN p) (ho : o < pN p) (hf : far < 10) (hu : t + 27 ≤ u) : mkI p di b l t far o u = di o u := by
  have := apN_lt hp hb ho
  unfold mkI
  rw [if_neg (fun z => by omega)]
theorem farN_lt {p : PP} (hp : POk p) (dr : Nat → Nat → Nat) {b : Nat} (hb : b < pN p) (t le l : Nat) : farN p dr b t le l < 10 := by
  unfold farN
  split
  · exact nrN_lt hp dr hb l t (pN p) (Nat.le_refl _)
  · omega
theorem dpL_far {p : PP} (hp : POk p) (dr : Nat → Nat → Nat) {b t le o u : Nat} (hb : b < pN p) (ho : o < pN p) (hu : t + 27 ≤ u) (x : (Nat → Nat → Nat) × Nat) : ∀ l, (dpL p dr b t le l x).1 o u = x.1 o u := by
  intro l
  induction l with
  | zero => rfl
  | succ l ih =>
    rw [dpL]
    split
    · exact ih
    · show mkI p (dpL p dr b t le l x).1 b l t (farN p dr b t le l) o u = _
      rw [mkI_far hp hb ho (farN_lt hp dr hb t le l) hu, ih]
theorem dpB_far {p : PP} (hp : POk p) (dr : Nat → Nat → Nat) {t o u : Nat} (ho : o < pN p) (hu : t + 27 ≤ u) (x : (Nat → Nat → Nat) × Nat) : ∀ n, n ≤ pN p → (dpB p dr t n x).1 o u = x.1 o u := by
  intro n
  induction n with
  | zero => intro _; rfl
  | succ n ih => intro h; rw [dpB, dpL_far hp dr (by omega) ho hu, ih (by omega)]
theorem tI_far {p : PP} (hp : POk p) {o : Nat} (ho : o < pN p) : ∀ t u, t + 26 ≤ u → tI (tb p t) o u = 0 := by
  intro t
  induction t with
  | zero => intro u _; rfl
  | succ t ih =>
    intro u hu
    show (dpB p (kD p (tb p t) t) t (pN p) (tI (tb p t), tK (tb p t))).1 o u = 0
    rw [dpB_far hp _ ho (by omega) _ (pN p) (Nat.le_refl _)]
    exact ih u (by omega)
theorem dpB_same (p : PP) {dr : Nat → Nat → Nat} {t : Nat} (x : (Nat → Nat → Nat) × Nat) : ∀ n, (∀ b, b < n → leN dr b t = 0) → dpB p dr t n x = x := by
  intro n
  induction n with
  | zero => intro _; rfl
  | succ n ih => intro h; rw [dpB, h n (by omega), dpL_0, ih (fun b hb => h b (by omega))]
/-- from tick c on nothing is driven otherwise, up to tick t -/
def QS (p : PP) (c : Nat) (e : Nat → Nat) (K t : Nat) : Prop := (∀ b, b < pN p → (∀ u, c ≤ u → u < t → tD (tb p t) b u = e b) ∧ (∀ u, c + 27 ≤ u → tI (tb p t) b u = 0) ∧ (∀ u, c + 27 ≤ u → u < t → tS (tb p t) b u = seC p e b) ∧ (∀ u, c + 47 ≤ u → u < t → tT (tb p t) b u = seC p e b) ∧ ∀ u, c + 47 ≤ u → u < t → tO (tb p t) b u = ouC p e b) ∧ tK (tb p t) = K ∧ chT p t = c
theorem qs_step {p : PP} (hp : POk p) {c K t : Nat} {e : Nat → Nat} (h : QS p c e K t) (hc : c < t) (hd : ∀ b, b < pN p → tD (tb p (t + 1)) b t = e b) : QS p c e K (t + 1) := by
  obtain ⟨h1, h2, h3⟩ := h
  have hf := hp.2.2.2.1
  have hD : ∀ b, b < pN p → ∀ u, c ≤ u → u < t + 1 → kD p (tb p t) t b u = e b := fun b hb u q1 q2 => by
    by_cases q : u = t
    · subst q; exact hd b hb
    · exact (tb_D p b (by omega)).trans ((h1 b hb).1 u q1 (by omega))
  have hI : kI p (tb p t) t = (tI (tb p t), tK (tb p t)) := dpB_same p _ _ (fun b hb => by
    unfold leN
    rw [if_neg (by omega), hD b hb t (by omega) (by omega), hD b hb (t - 1) (by omega) (by omega), nan_self])
  have hS : ∀ b, b < pN p → ∀ u, c + 27 ≤ u → u < t + 1 → kS p (tb p t) t b u = seC p e b := fun b hb u q1 q2 => by
    by_cases q : u = t
    · subst q
      unfold kS
      rw [col_eq, hI]
      unfold seF seC
      refine bsN_congr (fun l hl => ?_)
      unfold snN
      rw [hD b hb u (by omega) (by omega)]
      have hz : tI (tb p u) b u = 0 := (h1 b hb).2.1 u q1
      show ((_ || (if pL p l = 0 then (!(tI (tb p u) b u).testBit l && _) else _)) = _)
      rw [hz, Nat.zero_testBit, Bool.not_false, Bool.true_and]
      rw [exN_congr (fun o ho => by
        have ha := apN_lt hp hb ho
        rw [hD o ho (u - apN (pS p) b o) (by omega) (by omega), decide_eq_true (show apN (pS p) b o ≤ u by omega), Bool.true_and])]
    · exact (tb_S p b (by omega)).trans ((h1 b hb).2.2.1 u q1 (by omega))
  have hT : ∀ b, b < pN p → ∀ u, c + 47 ≤ u → u < t + 1 → kT p (tb p t) t b u = seC p e b := fun b hb u q1 q2 => by
    by_cases q : u = t
    · subst q
      unfold kT
      rw [col_eq]
      unfold taF
      rw [show u + 1 - (u - pF p) = pF p + 1 by omega]
      exact orN_const _ (fun v v1 v2 => hS b hb v (by omega) (by omega))
    · exact (tb_T p b (by omega)).trans ((h1 b hb).2.2.2.1 u q1 (by omega))
  refine ⟨fun b hb => ⟨fun u q1 q2 => hD b hb u q1 q2, fun u q1 => ?_, fun u q1 q2 => hS b hb u q1 q2, fun u q1 q2 => hT b hb u q1 q2, fun u q1 q2 => ?_⟩, ?_, ?_⟩
  · show (kI p (tb p t) t).1 b u = 0
    rw [hI]
    exact (h1 b hb).2.1 u q1
  · by_cases q : u = t
    · subst q
      show kO p (tb p u) u b u = _
      unfold kO
      rw [col_eq]
      unfold ouF ouC
      rw [hT b hb u q1 q2]
    · exact (tb_O p b (by omega)).trans ((h1 b hb).2.2.2.2 u q1 (by omega))
  · show (kI p (tb p t) t).2 = K
    rw [hI]
    exact h2
  · rw [chT, if_neg (by omega)]
    unfold chN
    rw [if_neg, h3]
    intro z
    obtain ⟨i, i1, i2⟩ := exN_iff.mp z
    have a1 := hD i i1 t (by omega) (by omega)
    have a2 := hD i i1 (t - 1) (by omega) (by omega)
    exact (of_decide_eq_true i2) (a1.trans a2.symm)
theorem qs_all {p : PP} (hp : POk p) {T : Nat} (hT : chT p (T + 1) + 50 ≤ T) : ∃ e K, ∀ t, T ≤ t → QS p (chT p (T + 1)) e K t := by
  have hg1 := hp.2.1
  have hg2 := hp.2.2.1
  generalize hc : chT p (T + 1) = c at hT
  refine ⟨fun b => tD (tb p (c + 1)) b c, tK (tb p (c + 1)), ?_⟩
  have hcc : chT p (c + 1) = c := by
    have h1 := chT_le p c
    rcases Nat.lt_or_ge (chT p (c + 1)) c with q | q
    · exfalso
      -- no tick after c changes, and c itself must have
      have : ∀ k, c + 1 + k ≤ T + 1 → chT p (c + 1 + k) < c ∨ c < chT p (c + 1 + k) := by
        intro k
        induction k with
        | zero => intro _; exact Or.inl q
        | succ k ih =>
          intro hk
          have h2 := ih (by omega)
          show chT p (c + 1 + k + 1) < c ∨ c < chT p (c + 1 + k + 1)
          rw [chT, if_neg (by omega)]
          unfold chN
          split
          · exact Or.inr (by omega)
          · exact h2
      have h3 := this (T - c) (by omega)
      rw [show c + 1 + (T - c) = T + 1 by omega, hc] at h3
      omega
    · omega
  have base : QS p c (fun b => tD (tb p (c + 1)) b c) (tK (tb p (c + 1))) (c + 1) := by
    refine ⟨fun b hb => ⟨fun u q1 q2 => ?_, fun u q1 => tI_far hp hb _ u (by omega), fun u q1 q2 => by omega, fun u q1 q2 => by omega, fun u q1 q2 => by omega⟩, rfl, hcc⟩
    rw [show u = c by omega]
  have ph1 : ∀ k, c + 1 + k ≤ T + 1 → QS p c (fun b => tD (tb p (c + 1)) b c) (tK (tb p (c + 1))) (c + 1 + k) := by
    intro k
    induction k with
    | zero => intro _; exact base
    | succ k ih =>
      intro hk
      have hq := ih (by omega)
      refine qs_step (t := c + 1 + k) hp hq (by omega) (fun b hb => ?_)
      have hm := chT_mono p (c + 1 + k + 1) (T + 1 - (c + 1 + k + 1))
      rw [show c + 1 + k + 1 + (T + 1 - (c + 1 + k + 1)) = T + 1 by omega, hc, chT, if_neg (by omega)] at hm
      unfold chN at hm
      have hne : ¬ exN (pN p) (fun b => decide (tD (tb p (c + 1 + k + 1)) b (c + 1 + k) ≠ tD (tb p (c + 1 + k + 1)) b (c + 1 + k - 1))) = true := fun z => by
        rw [if_pos z] at hm; omega
      have heq : tD (tb p (c + 1 + k + 1)) b (c + 1 + k) = tD (tb p (c + 1 + k + 1)) b (c + 1 + k - 1) := by
        by_cases q : tD (tb p (c + 1 + k + 1)) b (c + 1 + k) = tD (tb p (c + 1 + k + 1)) b (c + 1 + k - 1)
        · exact q
        · exact absurd (exN_of (f := fun b => decide (tD (tb p (c + 1 + k + 1)) b (c + 1 + k) ≠ tD (tb p (c + 1 + k + 1)) b (c + 1 + k - 1))) (decide_eq_true q) hb) hne
      rw [heq, tb_D p b (by omega)]
      exact (hq.1 b hb).1 _ (by omega) (by omega)
  have hT1 := ph1 (T - c) (by omega)
  rw [show c + 1 + (T - c) = T + 1 by omega] at hT1
  have hT0 := ph1 (T - c - 1) (by omega)
  rw [show c + 1 + (T - c - 1) = T by omega] at hT0
  have he : ∀ b, b < pN p → dvN (wdN p b) (ouC p (fun b => tD (tb p (c + 1)) b c) b) = tD (tb p (c + 1)) b c := fun b hb => by
    have h1 := (hT1.1 b hb).1 T (by omega) (by omega)
    have h2 : tD (tb p (T + 1)) b T = drF p (tO (tb p T)) b T := tb_Dt p b T
    have h3 := (hT0.1 b hb).2.2.2.2 (T - pG p) (by omega) (by omega)
    rw [h2] at h1
    unfold drF at h1
    rw [if_neg (by omega), h3] at h1
    exact h1
  have ph2 : ∀ k, QS p c (fun b => tD (tb p (c + 1)) b c) (tK (tb p (c + 1))) (T + 1 + k) := by
    intro k
    induction k with
    | zero => exact hT1
    | succ k ih =>
      refine qs_step (t := T + 1 + k) hp ih (by omega) (fun b hb => ?_)
      have h2 : tD (tb p (T + 1 + k + 1)) b (T + 1 + k) = drF p (tO (tb p (T + 1 + k))) b (T + 1 + k) := tb_Dt p b _
      have h3 := (ih.1 b hb).2.2.2.2 (T + 1 + k - pG p) (by omega) (by omega)
      rw [h2]
      unfold drF
      rw [if_neg (by omega), h3]
      exact he b hb
  intro t ht
  rcases Nat.lt_or_ge T t with q | q
  · have := ph2 (t - (T + 1))
    rw [show T + 1 + (t - (T + 1)) = t by omega] at this
    exact this
  · rw [show t = T by omega]
    exact hT0
/-- what is read of a pass played to T is what a pass played to the end shows -/
theorem st_read {p : PP} (hp : POk p) {T un : Nat} (hT : T ≤ un) (hu : un ≤ 400) (hs : T = un ∨ chT p (T + 1) + 50 ≤ T) {b u : Nat} (hb : b < pN p) (h : u ≤ un) : tD (tb p (T + 1)) b (min u T) = tD (tb p 401) b u ∧ tS (tb p (T + 1)) b (min u T) = tS (tb p 401) b u ∧ tT (tb p (T + 1)) b (min u T) = tT (tb p 401) b u ∧ tO (tb p (T + 1)) b (min u T) = tO (tb p 401) b u := by
  have key : ∀ v, v ≤ T → tD (tb p (T + 1)) b v = tD (tb p 401) b v ∧ tS (tb p (T + 1)) b v = tS (tb p 401) b v ∧ tT (tb p (T + 1)) b v = tT (tb p 401) b v ∧ tO (tb p (T + 1)) b v = tO (tb p 401) b v := fun v hv => by
    have := tb_up p b (u := v) (t := T + 1) (by omega) (400 - T)
    rw [show T + 1 + (400 - T) = 401 by omega] at this
    exact ⟨this.1.symm, this.2.1.symm, this.2.2.1.symm, this.2.2.2.symm⟩
  rcases Nat.lt_or_ge T u with q | q
  · rw [Nat.min_eq_right (by omega)]
    have hq : chT p (T + 1) + 50 ≤ T := hs.resolve_left (by omega)
    obtain ⟨e, K, hQ⟩ := qs_all hp hq
    have h1 := (hQ (T + 1) (by omega)).1 b hb
    have h2 := (hQ 401 (by omega)).1 b hb
    exact ⟨(h1.1 T (by omega) (by omega)).trans (h2.1 u (by omega) (by omega)).symm, (h1.2.2.1 T (by omega) (by omega)).trans (h2.2.2.1 u (by omega) (by omega)).symm, (h1.2.2.2.1 T (by omega) (by omega)).trans (h2.2.2.2.1 u (by omega) (by omega)).symm, (h1.2.2.2.2 T (by omega) (by omega)).trans (h2.2.2.2.2 u (by omega) (by omega)).symm⟩
  · rw [Nat.min_eq_left q]
    exact key u q
/-- dips and the latest change, of a pass played to the end -/
theorem st_end {p : PP} (hp : POk p) {T : Nat} (hT : T ≤ 400) (hs : T = 400 ∨ chT p (T + 1) + 50 ≤ T) : tK (tb p (T + 1)) = tK (tb p 401) ∧ chT p (T + 1) = chT p 401 := by
  rcases hs with rfl | hs
  · exact ⟨rfl, rfl⟩
  · obtain ⟨e, K, hQ⟩ := qs_all hp hs
    exact ⟨(hQ (T + 1) (by omega)).2.1.trans (hQ 401 (by omega)).2.1.symm, (hQ 401 (by omega)).2.2.symm⟩
