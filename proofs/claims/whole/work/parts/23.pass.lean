/-! ===== pure: a pass as tables, tick by tick ===== -/
/-- boards, gate, filter, contenders; slots, words, lines -/
abbrev PP : Type := Nat × Nat × Nat × Nat × (Nat → Nat) × (Nat → Nat) × (Nat → Nat)
abbrev pN (p : PP) : Nat := p.1
abbrev pG (p : PP) : Nat := p.2.1
abbrev pF (p : PP) : Nat := p.2.2.1
abbrev pC (p : PP) : Nat := p.2.2.2.1
abbrev pS (p : PP) : Nat → Nat := p.2.2.2.2.1
abbrev pW (p : PP) : Nat → Nat := p.2.2.2.2.2.1
abbrev pL (p : PP) : Nat → Nat := p.2.2.2.2.2.2
/-- what a pass is played with: bounds -/
def POk (p : PP) : Prop := pN p ≤ 6 ∧ 1 ≤ pG p ∧ pG p ≤ 3 ∧ pF p ≤ 20 ∧ pC p < 2 ^ pN p ∧ (∀ b, b < pN p → pS p b < 10) ∧ (∀ b, b < pN p → pW p b < 64) ∧ (∀ l, l < 6 → pL p l ≤ 2) ∧ ∀ a b, a < pN p → b < pN p → pS p a = pS p b → a = b
/-- drives, seen, taken, out, dips marked, how many dips -/
abbrev PT : Type := (Nat → Nat → Nat) × (Nat → Nat → Nat) × (Nat → Nat → Nat) × (Nat → Nat → Option Nat) × (Nat → Nat → Nat) × Nat
abbrev tD (x : PT) : Nat → Nat → Nat := x.1
abbrev tS (x : PT) : Nat → Nat → Nat := x.2.1
abbrev tT (x : PT) : Nat → Nat → Nat := x.2.2.1
abbrev tO (x : PT) : Nat → Nat → Option Nat := x.2.2.2.1
abbrev tI (x : PT) : Nat → Nat → Nat := x.2.2.2.2.1
abbrev tK (x : PT) : Nat := x.2.2.2.2.2
def apN (s : Nat → Nat) (b o : Nat) : Nat := (s b - s o) + (s o - s b)
def dvN (v : Nat) (x : Option Nat) : Nat := match x with
  | none => v
  | some l => (v >>> (l + 1)) <<< (l + 1)
def wdN (p : PP) (b : Nat) : Nat := if (pC p).testBit b = true then pW p b else 0
def drF (p : PP) (ou : Nat → Nat → Option Nat) (b t : Nat) : Nat := if t < pG p then wdN p b else dvN (wdN p b) (ou b (t - pG p))
def nrN (p : PP) (dr : Nat → Nat → Nat) (b l t : Nat) : Nat → Nat
  | 0 => 0
  | o + 1 => if o ≠ b ∧ (dr o t).testBit l = true ∧ (nrN p dr b l t o = 0 ∨ apN (pS p) b o < nrN p dr b l t o) then apN (pS p) b o else nrN p dr b l t o
def mkI (p : PP) (di : Nat → Nat → Nat) (b l t far : Nat) : Nat → Nat → Nat := fun o u => if t + apN (pS p) b o ≤ u ∧ u < t + apN (pS p) b o + 2 * far then di o u ||| 2 ^ l else di o u
def farN (p : PP) (dr : Nat → Nat → Nat) (b t le l : Nat) : Nat := if le.testBit l = true then nrN p dr b l t (pN p) else 0
def dpL (p : PP) (dr : Nat → Nat → Nat) (b t le : Nat) : Nat → (Nat → Nat → Nat) × Nat → (Nat → Nat → Nat) × Nat
  | 0, x => x
  | l + 1, x => if farN p dr b t le l = 0 then dpL p dr b t le l x else (mkI p (dpL p dr b t le l x).1 b l t (farN p dr b t le l), (dpL p dr b t le l x).2 + 1)
def leN (dr : Nat → Nat → Nat) (b t : Nat) : Nat := if t = 0 then 0 else nan (dr b (t - 1)) (dr b t)
def dpB (p : PP) (dr : Nat → Nat → Nat) (t : Nat) : Nat → (Nat → Nat → Nat) × Nat → (Nat → Nat → Nat) × Nat
  | 0, x => x
  | b + 1, x => dpL p dr b t (leN dr b t) 6 (dpB p dr t b x)
def exN : Nat → (Nat → Bool) → Bool
  | 0, _ => false
  | n + 1, f => exN n f || f n
def snN (p : PP) (dr di : Nat → Nat → Nat) (b t l : Nat) : Bool := (dr b t).testBit l || (if pL p l = 0 then !(di b t).testBit l && exN (pN p) (fun o => decide (o ≠ b) && (decide (apN (pS p) b o ≤ t) && (dr o (t - apN (pS p) b o)).testBit l)) else decide (pL p l = 1))
def seF (p : PP) (dr di : Nat → Nat → Nat) (b t : Nat) : Nat := bsN 6 (snN p dr di b t)
def orN (f : Nat → Nat) (lo : Nat) : Nat → Nat
  | 0 => 0
  | m + 1 => orN f lo m ||| f (lo + m)
def taF (p : PP) (se : Nat → Nat → Nat) (b t : Nat) : Nat := orN (se b) (t - pF p) (t + 1 - (t - pF p))
def hiN (a w : Nat) : Nat → Option Nat
  | 0 => none
  | l + 1 => if (a.testBit l && !w.testBit l) = true then some l else hiN a w l
def ouF (p : PP) (ta : Nat → Nat → Nat) (b t : Nat) : Option Nat := if (pC p).testBit b = true then hiN (ta b t) (pW p b) 6 else none
/-- a column is laid -/
def col {α : Type} (f : Nat → Nat → α) (t : Nat) (c : Nat → α) : Nat → Nat → α := fun b u => if u = t then c b else f b u
theorem col_eq {α : Type} (f : Nat → Nat → α) (t : Nat) (c : Nat → α) (b : Nat) : col f t c b t = c b := if_pos rfl
theorem col_ne {α : Type} (f : Nat → Nat → α) {t : Nat} (c : Nat → α) (b : Nat) {u : Nat} (h : u ≠ t) : col f t c b u = f b u := if_neg h
def kD (p : PP) (x : PT) (t : Nat) : Nat → Nat → Nat := col (tD x) t (fun b => drF p (tO x) b t)
def kI (p : PP) (x : PT) (t : Nat) : (Nat → Nat → Nat) × Nat := dpB p (kD p x t) t (pN p) (tI x, tK x)
def kS (p : PP) (x : PT) (t : Nat) : Nat → Nat → Nat := col (tS x) t (fun b => seF p (kD p x t) (kI p x t).1 b t)
def kT (p : PP) (x : PT) (t : Nat) : Nat → Nat → Nat := col (tT x) t (fun b => taF p (kS p x t) b t)
def kO (p : PP) (x : PT) (t : Nat) : Nat → Nat → Option Nat := col (tO x) t (fun b => ouF p (kT p x t) b t)
def tick (p : PP) (x : PT) (t : Nat) : PT := (kD p x t, kS p x t, kT p x t, kO p x t, (kI p x t).1, (kI p x t).2)
def tb (p : PP) : Nat → PT
  | 0 => (fun _ _ => 0, fun _ _ => 0, fun _ _ => 0, fun _ _ => none, fun _ _ => 0, 0)
  | t + 1 => tick p (tb p t) t
theorem shl_n {a k : Nat} (h : k < 32) (ha : a * 2 ^ k < 4294967296) : nI a <<< (nI k &&& 31) = nI (a <<< k) := by
  rw [pk_shlN _ k (sl_5 k h) ha, Nat.shiftLeft_eq]
theorem dvN_le (v : Nat) (x : Option Nat) : dvN v x ≤ v := by
  cases x with
  | none => exact Nat.le_refl _
  | some l =>
    show (v >>> (l + 1)) <<< (l + 1) ≤ v
    rw [Nat.shiftLeft_eq, Nat.shiftRight_eq_div_pow]
    exact Nat.div_mul_le_self v _
theorem apN_lt {p : PP} (h : POk p) {b o : Nat} (hb : b < pN p) (ho : o < pN p) : apN (pS p) b o < 10 := by
  have h1 := h.2.2.2.2.2.1 b hb
  have h2 := h.2.2.2.2.2.1 o ho
  unfold apN
  omega
theorem pC_lt {p : PP} (h : POk p) : pC p < 64 := Nat.lt_of_lt_of_le h.2.2.2.2.1 (Nat.pow_le_pow_right (by omega) h.1)
theorem wdN_lt {p : PP} (h : POk p) {b : Nat} (hb : b < pN p) : wdN p b < 64 := by
  unfold wdN
  split
  · exact h.2.2.2.2.2.2.1 b hb
  · omega
theorem drF_lt {p : PP} (h : POk p) (ou : Nat → Nat → Option Nat) {b : Nat} (t : Nat) (hb : b < pN p) : drF p ou b t < 64 := by
  have := wdN_lt h hb
  unfold drF
  split
  · exact this
  · exact Nat.lt_of_le_of_lt (dvN_le _ _) this
theorem nrN_lt {p : PP} (h : POk p) (dr : Nat → Nat → Nat) {b : Nat} (hb : b < pN p) (l t : Nat) : ∀ o, o ≤ pN p → nrN p dr b l t o < 10 := by
  intro o
  induction o with
  | zero => intro _; simp [nrN]
  | succ o ih =>
    intro ho
    rw [nrN]
    split
    · exact apN_lt h hb (by omega)
    · exact ih (by omega)
theorem orN_lt {f : Nat → Nat} {lo m : Nat} (h : ∀ u, lo ≤ u → u < lo + m → f u < 64) : orN f lo m < 64 := by
  induction m with
  | zero => simp [orN]
  | succ m ih => exact Nat.or_lt_two_pow (n := 6) (ih (fun u h1 h2 => h u h1 (by omega))) (h (lo + m) (by omega) (by omega))
theorem hiN_lt {a w : Nat} : ∀ {n l : Nat}, hiN a w n = some l → l < n := by
  intro n
  induction n with
  | zero => intro l h; cases h
  | succ n ih =>
    intro l h
    rw [hiN] at h
    split at h
    · cases h; omega
    · exact Nat.lt_succ_of_lt (ih h)
/-! ===== the model's arrays hold the tables ===== -/
/-- the model's numbers of a pass -/
def MPr (σ : St) (p : PP) : Prop := σ.1 44 0 3 = nI (pN p) ∧ σ.1 44 0 0 = nI (pG p) ∧ σ.1 44 0 1 = nI (pF p) ∧ σ.1 8 0 23 = nI (pC p) ∧ (∀ b, b < pN p → σ.1 44 0 (5 + b) = nI (pS p b)) ∧ (∀ b, b < pN p → σ.1 50 0 b = nI (pW p b)) ∧ ∀ l, l < 6 → σ.1 47 0 (12 + l) = nI (pL p l)
theorem m_apart {σ : St} {p : PP} (hp : POk p) (h : MPr σ p) {b o : Nat} (hb : b < pN p) (ho : o < pN p) : fX8_slotsApart (nI b) (nI o) σ = some (nI (apN (pS p) b o), σ) := by
  have h1 := hp.2.2.2.2.2.1 b hb
  have h2 := hp.2.2.2.2.2.1 o ho
  have hn := hp.1
  unfold fX8_slotsApart
  simp (disch := omega) only [add_n, gi_n, cl, ltD, h.2.2.2.2.1 b hb, h.2.2.2.2.1 o ho]
  unfold apN
  rcases Nat.lt_or_ge (pS p b) (pS p o) with q | q
  · have hneg := pk_sneg (a := pS p b) (b := pS p o) (by omega) q
    rw [if_neg (Int32.not_le.mpr hneg)]
    have e : -(nI (pS p b) - nI (pS p o)) = nI (pS p o) - nI (pS p b) := by rw [Int32.neg_sub]
    rw [e, sub_n (by omega)]
    rw [show pS p b - pS p o + (pS p o - pS p b) = pS p o - pS p b by omega]
  · rw [sub_n q, if_pos (by rw [ge_0 (by omega)]; trivial)]
    rw [show pS p b - pS p o + (pS p o - pS p b) = pS p b - pS p o by omega]
theorem m_drives {σ : St} {p : PP} (hp : POk p) (h : MPr σ p) (ou : Nat → Nat → Option Nat) {b t : Nat} (hb : b < pN p) (ht : t < 401) (ho : pG p ≤ t → σ.1 54 0 (401 * b + (t - pG p)) = wv (ou b (t - pG p))) (hol : pG p ≤ t → ∀ l, ou b (t - pG p) = some l → l < 6) :
    fX8_drivesAt (nI b) (nI t) σ = some ((), wI σ 51 0 (401 * b + t) (nI (drF p ou b t))) := by
  have hn := hp.1
  have hg := hp.2.2.1
  have hC := pC_lt hp
  have hv := wdN_lt hp hb
  have key : ∀ v : Nat, v = wdN p b → v < 64 → (gi 0 59 <| lt (σ.1 44 0 (0 : Int32).toNatClampNeg) fun (x3 : Int32) => (jn (fun (x5 : Int32) (σ4 : St) => gi (fX8_cell (nI b) (nI t)) 2406 <| lt (wI σ4 51 0 (fX8_cell (nI b) (nI t)).toNatClampNeg (if x5 = (-2) then nI v else ((nI v >>> ((x5 + (nI 1)) &&& 31)) <<< ((x5 + (nI 1)) &&& 31)))) fun (σ9 : St) => some ((), σ9)) fun j54 => if x3 ≤ nI t then gi (fX8_cell (nI b) (nI t - x3)) 2406 <| j54 (σ.1 54 0 (fX8_cell (nI b) (nI t - x3)).toNatClampNeg) σ else j54 (-2) σ)) = some ((), wI σ 51 0 (401 * b + t) (nI (drF p ou b t))) := by
    intro v hv1 hv2
    simp (disch := omega) only [gi_0, sb_cl0, h.2.1, ltD, jnD, cell8, gi_n, cl, le_n]
    unfold drF
    rw [← hv1]
    by_cases q : t < pG p
    · rw [if_neg (by omega), if_pos q, if_pos trivial]
    · rw [if_pos (by omega), if_neg q]
      simp (disch := omega) only [sub_n, cell8, gi_n, cl, ho (by omega)]
      cases e : ou b (t - pG p) with
      | none => simp only [wv_none, if_true, dvN]
      | some l =>
        have hl := hol (by omega) l e
        simp (disch := omega) only [wv_some, nm2, if_false, add_n, shr_n, dvN]
        have h1 := shr_le v (l + 1)
        rw [shl_n (by omega)]
        calc v >>> (l + 1) * 2 ^ (l + 1) ≤ 64 * 2 ^ 6 := Nat.mul_le_mul (by omega) (Nat.pow_le_pow_right (by omega) (by omega))
          _ < 4294967296 := by decide
  unfold fX8_drivesAt
  rw [h.2.2.2.1, has8 (by omega) (by omega), jnD]
  unfold wdN at hv key
  by_cases q : (pC p).testBit b = true
  · rw [if_pos q] at hv
    simp (disch := omega) only [q, if_true, eq_0, gi_n, cl, h.2.2.2.2.2.1 b hb]
    rw [if_neg (by omega)]
    exact key (pW p b) (by rw [if_pos q]) hv
  · simp only [q, if_false, if_true]
    have := key 0 (by rw [if_neg q]) (by omega)
    rw [nI_0] at this
    exact this
theorem m_nearest {σ : St} {p : PP} (hp : POk p) (h : MPr σ p) (dr : Nat → Nat → Nat) {b l t : Nat} (hb : b < pN p) (hl : l < 6) (ht : t < 401) (hd : ∀ o, o < pN p → σ.1 51 0 (401 * o + t) = nI (dr o t) ∧ dr o t < 64) :
    fX8_nearest (nI b) (nI l) (nI t) σ = some (nI (nrN p dr b l t (pN p)), σ) := by
  have hn := hp.1
  unfold fX8_nearest
  obtain ⟨s, hs, e⟩ := lp0 (fun m i (s : Int32) => LX8_nearest_6 (nI b) (nI l) (nI t) (fun (x7 : Int32) (σ8 : St) => some (x7, σ8)) m s (nI i) σ) (fun s => some (s, σ)) (pN p) (by omega) (fun i s => s = nI (nrN p dr b l t i)) 0 rfl
    (fun m s _ => by
      rw [LX8_nearest_6]
      simp (disch := omega) only [gi_n, cl, h.1, Nat.le_refl, le_n, if_true])
    (fun m i s hi hI => by
      refine ⟨_, rfl, ?_⟩
      have h10 := nrN_lt hp dr hb l t i (by omega)
      have ha := apN_lt hp hb hi
      obtain ⟨hd1, hd2⟩ := hd i hi
      rw [LX8_nearest_6, m_apart hp h hb hi, bdS]
      simp (disch := omega) only [gi_n, cl, h.1, le_n, jnD, add_n, cell8, hd1, has8, eq_n]
      rw [if_neg (by omega), hI, nrN]
      by_cases e1 : i = b
      · rw [if_pos e1, if_neg (fun z => z.1 e1)]
      · rw [if_neg e1]
        by_cases e2 : (dr i t).testBit l = true
        · simp (disch := omega) only [e2, if_true, eq_0, le_n]
          rw [if_neg (by omega)]
          by_cases e3 : nrN p dr b l t i = 0
          · rw [if_pos e3, if_pos ⟨e1, trivial, Or.inl e3⟩]
          · rw [if_neg e3]
            by_cases e4 : apN (pS p) b i < nrN p dr b l t i
            · rw [if_neg (by omega), if_pos ⟨e1, trivial, Or.inr e4⟩]
            · rw [if_pos (by omega), if_neg (fun z => z.2.2.elim e3 e4)]
        · rw [if_neg e2, if_pos rfl, if_neg (fun z => e2 z.2.1)])
  rw [hs] at e
  exact e
