/-! ===== the class side: drives and dips ===== -/
def stN (p : PP) : Nat := bsN 6 (fun l => decide (pL p l = 1))
def brN (p : PP) : Nat := bsN 6 (fun l => decide (pL p l = 2))
def CPr (σ : St) (p : PP) : Prop := σ.1 1 0 7 = nI (pN p) ∧ σ.1 1 0 8 = nI (pG p) ∧ σ.1 1 0 12 = nI (pF p) ∧ σ.1 1 0 11 = nI (pC p) ∧ (∀ a b, a < pN p → b < pN p → σ.1 12 a b = nI (apN (pS p) a b)) ∧ (∀ b, b < pN p → σ.1 10 0 b = nI (pW p b)) ∧ σ.1 1 0 9 = nI (stN p) ∧ σ.1 1 0 10 = nI (brN p)
theorem CPr.kp {S : List (Nat × Nat × Nat)} {σ σ' : St} {p : PP} (h : CPr σ p) (hk : Kp S σ σ') (h12 : S.all (fun e => !(e.1 == 12)) = true) (h10 : S.all (fun e => !(e.1 == 10)) = true) (h1 : ∀ j, j < 13 → σ'.1 1 0 j = σ.1 1 0 j) : CPr σ' p := by
  unfold CPr
  rw [kpc hk 10 0 h10, h1 7 (by omega), h1 8 (by omega), h1 9 (by omega), h1 10 (by omega), h1 11 (by omega), h1 12 (by omega)]
  refine ⟨h.1, h.2.1, h.2.2.1, h.2.2.2.1, fun a b ha hb => ?_, h.2.2.2.2.2⟩
  rw [kpc hk 12 a h12]
  exact h.2.2.2.2.1 a b ha hb
theorem c_above {v : Nat} {x : Option Nat} (hv : v < 64) (hx : ∀ l, x = some l → l < 6) : fX1_above (nI v) (wv x) = nI (dvN v x) := by
  unfold fX1_above
  cases x with
  | none => rw [wv_none, if_neg (by decide)]; rfl
  | some l =>
    have hl := hx l rfl
    rw [wv_some]
    simp (disch := omega) only [ge_0, if_true, add_n, shr_n, dvN]
    have h1 := shr_le v (l + 1)
    rw [shl_n (by omega)]
    calc v >>> (l + 1) * 2 ^ (l + 1) ≤ 64 * 2 ^ 6 := Nat.mul_le_mul (by omega) (Nat.pow_le_pow_right (by omega) (by omega))
      _ < 4294967296 := by decide
theorem c_drive {σ : St} {p : PP} (hp : POk p) (h : CPr σ p) (ou : Nat → Nat → Option Nat) {t : Nat} (ht : t < 401) (ho : ∀ b, b < pN p → pG p ≤ t → σ.1 20 b (t - pG p) = wv (ou b (t - pG p)) ∧ ∀ l, ou b (t - pG p) = some l → l < 6) :
    ∃ σ', fX1_driveAll (nI t) σ = some ((), σ') ∧ Kp [(14, 0, 6)] σ σ' ∧ ∀ b, b < pN p → ∀ u, σ'.1 14 b u = if u = t then nI (drF p ou b t) else σ.1 14 b u := by
  have hn := hp.1
  have hg := hp.2.2.1
  have hg1 := hp.2.1
  have hC := pC_lt hp
  unfold fX1_driveAll
  rw [ltD, h.2.1]
  obtain ⟨s, ⟨g1, g2⟩, e⟩ := lp0 (fun m i (s : St) => LX1_driveAll_9 (nI t) (nI t - nI (pG p)) (fun (σ11 : St) => some ((), σ11)) m (nI i) s) (fun s => some ((), s)) (pN p) (by omega)
    (fun i s => Kp [(14, 0, 6)] σ s ∧ ∀ b, b < pN p → ∀ u, s.1 14 b u = if b < i ∧ u = t then nI (drF p ou b t) else σ.1 14 b u) σ ⟨kp_rf, fun b hb u => by rw [if_neg (fun z => by omega)]⟩
    (fun m s hI => by
      have hM := h.kp hI.1 rfl rfl (fun j _ => by rw [kpc hI.1 1 0 rfl])
      rw [LX1_driveAll_9, hM.1, if_pos (by rw [le_n (by omega) (by omega)]; exact Nat.le_refl _)])
    (fun m i s hi hI => by
      have hM := h.kp hI.1 rfl rfl (fun j _ => by rw [kpc hI.1 1 0 rfl])
      have hv := wdN_lt hp hi
      have key : ∀ v : Nat, v = wdN p i → ∃ s', (Kp [(14, 0, 6)] σ s' ∧ ∀ b, b < pN p → ∀ u, s'.1 14 b u = if b < i + 1 ∧ u = t then nI (drF p ou b t) else σ.1 14 b u) ∧ (if nI t - nI (pG p) < 0 then LX1_driveAll_9 (nI t) (nI t - nI (pG p)) (fun (σ11 : St) => some ((), σ11)) m (nI (i + 1)) (wI s 14 i t (nI v)) else (if nI t ≤ nI t - nI (pG p) then LX1_driveAll_9 (nI t) (nI t - nI (pG p)) (fun (σ11 : St) => some ((), σ11)) m (nI (i + 1)) (wI s 14 i t (nI v)) else gi (nI t - nI (pG p)) 401 <| LX1_driveAll_9 (nI t) (nI t - nI (pG p)) (fun (σ11 : St) => some ((), σ11)) m (nI (i + 1)) (wI (wI s 14 i t (nI v)) 14 i t (fX1_above ((wI s 14 i t (nI v)).1 14 i t) ((wI s 14 i t (nI v)).1 20 i (nI t - nI (pG p)).toNatClampNeg))))) = LX1_driveAll_9 (nI t) (nI t - nI (pG p)) (fun (σ11 : St) => some ((), σ11)) m (nI (i + 1)) s' := by
        intro v hv1
        have fin : ∀ (s' : St) (w : Nat), w = drF p ou i t → Kp [(14, 0, 6)] σ s' → (∀ b u, s'.1 14 b u = if b = i ∧ u = t then nI w else s.1 14 b u) → (Kp [(14, 0, 6)] σ s' ∧ ∀ b, b < pN p → ∀ u, s'.1 14 b u = if b < i + 1 ∧ u = t then nI (drF p ou b t) else σ.1 14 b u) := by
          intro s' w hw k1 k2
          refine ⟨k1, fun b hb u => ?_⟩
          rw [k2, hw]
          by_cases q : b = i ∧ u = t
          · rw [if_pos q, if_pos ⟨by omega, q.2⟩, q.1]
          · rw [if_neg q, hI.2 b hb u]
            by_cases q2 : b < i ∧ u = t
            · rw [if_pos q2, if_pos ⟨by omega, q2.2⟩]
            · rw [if_neg q2, if_neg (fun z => by omega)]
        have k1 : Kp [(14, 0, 6)] σ (wI s 14 i t (nI v)) := hI.1.wI (fr_m 0 rfl (Nat.zero_le _) (by omega))
        by_cases q : t < pG p
        · rw [if_pos (pk_sneg (by omega) q)]
          refine ⟨_, fin _ v (by unfold drF; rw [if_pos q, hv1]) k1 (fun b u => by rw [rI]; simp), rfl⟩
        · rw [sub_n (by omega), if_neg (by rw [lt_0n (by omega)]; exact id), if_neg (by rw [le_n (by omega) (by omega)]; omega)]
          obtain ⟨o1, o2⟩ := ho i hi (by omega)
          rw [gi_n (by omega) (by omega), cl (by omega), rI, if_pos ⟨rfl, rfl, rfl⟩, rI, if_neg (fun z => by omega), kpc hI.1 20 i rfl, o1, c_above (by omega) o2]
          refine ⟨_, fin _ (dvN v (ou i (t - pG p))) (by unfold drF; rw [if_neg q, hv1]) (k1.wI (fr_m 0 rfl (Nat.zero_le _) (by omega))) (fun b u => ?_), rfl⟩
          rw [rI, rI]
          by_cases q3 : b = i ∧ u = t
          · rw [if_pos ⟨rfl, q3⟩, if_pos q3]
          · rw [if_neg (fun z => q3 z.2), if_neg (fun z => q3 z.2), if_neg q3]
      rw [LX1_driveAll_9, hM.1, if_neg (by rw [le_n (by omega) (by omega)]; omega), hM.2.2.2.1, has7 (by omega) (by omega)]
      simp (disch := omega) only [gi_n, cl, jnD, ltD, add_n, hM.2.2.2.2.2.1 i hi]
      unfold wdN at key
      by_cases q : (pC p).testBit i = true
      · obtain ⟨s', k1, k2⟩ := key (pW p i) (by rw [if_pos q])
        refine ⟨s', k1, ?_⟩
        simp (disch := omega) only [q, if_true, eq_0]
        rw [if_neg (by omega)]
        exact k2
      · obtain ⟨s', k1, k2⟩ := key 0 (by rw [if_neg q])
        refine ⟨s', k1, ?_⟩
        simp only [q, if_false, if_true, Bool.false_eq_true, eq_self]
        rw [nI_0] at k2
        exact k2)
  refine ⟨s, e, g1, fun b hb u => ?_⟩
  rw [g2 b hb u]
  by_cases q : u = t
  · rw [if_pos ⟨hb, q⟩, if_pos q]
  · rw [if_neg (fun z => q z.2), if_neg q]
theorem c_near {σ : St} {p : PP} (hp : POk p) (h : CPr σ p) (dr : Nat → Nat → Nat) {b l t : Nat} (hb : b < pN p) (hl : l < 6) (ht : t < 401) (hd : ∀ o, o < pN p → σ.1 14 o t = nI (dr o t) ∧ dr o t < 64) :
    fX1_nearestDriver (nI b) (nI l) (nI t) σ = some (nI (nrN p dr b l t (pN p)), σ) := by
  have hn := hp.1
  unfold fX1_nearestDriver
  obtain ⟨s, hs, e⟩ := lp0 (fun m i (s : Int32) => LX1_nearestDriver_6 (nI b) (nI l) (nI t) (fun (x10 : Int32) (σ11 : St) => some (x10, σ11)) m s (nI i) σ) (fun s => some (s, σ)) (pN p) (by omega) (fun i s => s = nI (nrN p dr b l t i)) 0 rfl
    (fun m s _ => by
      rw [LX1_nearestDriver_6, h.1, if_pos (by rw [le_n (by omega) (by omega)]; exact Nat.le_refl _)])
    (fun m i s hi hI => by
      refine ⟨_, rfl, ?_⟩
      have h10 := nrN_lt hp dr hb l t i (by omega)
      have ha := apN_lt hp hb hi
      obtain ⟨hd1, hd2⟩ := hd i hi
      rw [LX1_nearestDriver_6, h.1, if_neg (by rw [le_n (by omega) (by omega)]; omega)]
      simp (disch := omega) only [gi_n, cl, ltD, jnD, add_n, hd1, eq_n, bit_n, h.2.2.2.2.1 b i hb hi]
      rw [hI, nrN]
      have n1 : ¬ nI 1 = 0 := by decide
      by_cases e1 : i = b
      · rw [if_pos e1, if_pos trivial, if_neg (fun z => z.1 e1)]
      · rw [if_neg e1]
        by_cases e2 : (dr i t).testBit l = true
        · rw [if_neg (by rw [e2]; decide), if_neg n1]
          simp (disch := omega) only [eq_0, le_n]
          by_cases e3 : nrN p dr b l t i = 0
          · rw [if_pos e3, if_pos ⟨e1, e2, Or.inl e3⟩]
          · rw [if_neg e3]
            by_cases e4 : apN (pS p) b i < nrN p dr b l t i
            · rw [if_neg (by omega), if_pos ⟨e1, e2, Or.inr e4⟩]
            · rw [if_pos (by omega), if_neg (fun z => z.2.2.elim e3 e4)]
        · rw [if_pos (by simpa using e2), if_pos trivial, if_neg (fun z => e2 z.2.1)])
  rw [hs] at e
  exact e
/-- dimmed, as far as the class keeps it -/
def A22 (σ : St) (n : Nat) (di : Nat → Nat → Nat) : Prop := ∀ o, o < n → ∀ u, u < 401 → σ.1 22 o u = nI (di o u) ∧ di o u < 64
def D13 (σ : St) : Prop := ∃ d, d ≤ 401 ∧ σ.1 1 0 13 = nI d ∧ ∀ o, o < 6 → ∀ u, d ≤ u → u < 401 → σ.1 22 o u = 0
abbrev SD : List (Nat × Nat × Nat) := [(1, 0, 1), (22, 0, 6)]
theorem c_mark {σ : St} {n o l from_ len : Nat} {di : Nat → Nat → Nat} (a1 a3 : Int32) (ke : St → Option (Unit × St)) (hn : n ≤ 6) (ho : o < n) (hl : l < 6) (hf : from_ + len ≤ 461) (hA : A22 σ n di) (hD : D13 σ) :
    ∃ σ', (Kp SD σ σ' ∧ (∀ j, j ≠ 13 → σ'.1 1 0 j = σ.1 1 0 j) ∧ A22 σ' n (fun o' u => if o' = o ∧ from_ ≤ u ∧ u < from_ + len then di o' u ||| 2 ^ l else di o' u) ∧ D13 σ') ∧ LX1_dip_39 a1 (nI l) a3 (nI len) (nI o) (nI from_) ke FU (nI from_) σ = ke σ' := by
  obtain ⟨s, hs, e⟩ := lpU (fun m i (s : St) => LX1_dip_39 a1 (nI l) a3 (nI len) (nI o) (nI from_) ke m (nI i) s) (fun s => ke s) (max from_ (min (from_ + len) 401))
    (fun i s => from_ ≤ i ∧ Kp SD σ s ∧ (∀ j, j ≠ 13 → s.1 1 0 j = σ.1 1 0 j) ∧ A22 s n (fun o' u => if o' = o ∧ from_ ≤ u ∧ u < i then di o' u ||| 2 ^ l else di o' u) ∧ D13 s)
    (fun m s _ => by
      rw [LX1_dip_39]
      simp (disch := omega) only [add_n, le_n, lt_n]
      by_cases q : from_ + len ≤ max from_ (min (from_ + len) 401)
      · rw [if_pos q]
      · rw [if_neg q, if_pos (by omega)])
    (fun m i s hi hI => by
      obtain ⟨h0, h1, h2, h3, d, hd1, hd2, hd3⟩ := hI
      obtain ⟨h4, h5⟩ := h3 o ho i (by omega)
      have hd : (fun o' u => if o' = o ∧ from_ ≤ u ∧ u < i then di o' u ||| 2 ^ l else di o' u) o i = di o i := if_neg (fun z => by omega)
      rw [hd] at h4 h5
      rw [LX1_dip_39]
      simp (disch := omega) only [add_n, le_n, lt_n, gi_n, cl, ltD, shl_1, h4, or_n]
      rw [if_neg (by omega), if_neg (by omega)]
      rw [show (wI s 22 o i (nI (di o i ||| 2 ^ l))).1 1 0 13 = nI d by rw [rI, if_neg (fun z => by omega), hd2]]
      have hmx : (if nI d ≤ nI i then nI (i + 1) else nI d) = nI (max d (i + 1)) := by
        by_cases q : d ≤ i
        · rw [if_pos (by rw [le_n (by omega) (by omega)]; exact q)]; congr 1; omega
        · rw [if_neg (by rw [le_n (by omega) (by omega)]; exact q)]; congr 1; omega
      rw [hmx]
      refine ⟨_, ⟨by omega, (h1.wI (fr_m 1 rfl (Nat.zero_le _) (by omega))).wI (fr_m 0 rfl (Nat.le_refl _) (by omega)), fun j hj => ?_, fun o' ho' u hu => ?_, max d (i + 1), by omega, ?_, fun o' ho' u hu1 hu2 => ?_⟩, rfl⟩
      · rw [rI, if_neg (fun z => hj z.2.2), rI, if_neg (fun z => by omega)]
        exact h2 j hj
      · obtain ⟨h6, h7⟩ := h3 o' ho' u hu
        rw [rI, if_neg (fun z => by omega), rI]
        by_cases e1 : o' = o ∧ u = i
        · obtain ⟨rfl, rfl⟩ := e1
          rw [if_pos ⟨rfl, rfl, rfl⟩]
          show _ = nI (if o' = o' ∧ from_ ≤ u ∧ u < u + 1 then _ else _) ∧ (if o' = o' ∧ from_ ≤ u ∧ u < u + 1 then _ else _) < 64
          rw [if_pos ⟨rfl, h0, Nat.lt_succ_self _⟩]
          exact ⟨rfl, or64 h5 hl⟩
        · rw [if_neg (fun z => e1 z.2)]
          have : (fun o' u => if o' = o ∧ from_ ≤ u ∧ u < i + 1 then di o' u ||| 2 ^ l else di o' u) o' u = (fun o' u => if o' = o ∧ from_ ≤ u ∧ u < i then di o' u ||| 2 ^ l else di o' u) o' u := by
            show (if o' = o ∧ from_ ≤ u ∧ u < i + 1 then _ else _) = (if o' = o ∧ from_ ≤ u ∧ u < i then _ else _)
            by_cases q : o' = o ∧ from_ ≤ u ∧ u < i
            · rw [if_pos q, if_pos ⟨q.1, q.2.1, by omega⟩]
            · rw [if_neg q, if_neg (fun z => q ⟨z.1, z.2.1, by
                have h9 : u ≠ i := fun w => e1 ⟨z.1, w⟩
                omega⟩)]
          rw [this]
          exact ⟨h6, h7⟩
      · rw [rI, if_pos ⟨rfl, rfl, rfl⟩]
      · rw [rI, if_neg (fun z => by omega), rI, if_neg (fun z => by omega)]
        exact hd3 o' ho' u (by omega) hu2) (max from_ (min (from_ + len) 401) - from_) from_ σ FU (by omega) (by have := FU_gt; omega) ⟨Nat.le_refl _, kp_rf, fun _ _ => rfl, fun o' ho' u hu => by
          show _ = nI (if o' = o ∧ from_ ≤ u ∧ u < from_ then _ else _) ∧ (if o' = o ∧ from_ ≤ u ∧ u < from_ then _ else _) < 64
          rw [if_neg (fun z => by omega)]
          exact hA o' ho' u hu, hD⟩
  refine ⟨s, ⟨hs.2.1, hs.2.2.1, fun o' ho' u hu => ?_, hs.2.2.2.2⟩, e⟩
  have := hs.2.2.2.1 o' ho' u hu
  have hc : (fun o' u => if o' = o ∧ from_ ≤ u ∧ u < max from_ (min (from_ + len) 401) then di o' u ||| 2 ^ l else di o' u) o' u = (fun o' u => if o' = o ∧ from_ ≤ u ∧ u < from_ + len then di o' u ||| 2 ^ l else di o' u) o' u := by
    show (if o' = o ∧ from_ ≤ u ∧ u < max from_ (min (from_ + len) 401) then _ else _) = (if o' = o ∧ from_ ≤ u ∧ u < from_ + len then _ else _)
    by_cases q : o' = o ∧ from_ ≤ u ∧ u < from_ + len
    · rw [if_pos q, if_pos ⟨q.1, q.2.1, by omega⟩]
    · rw [if_neg q, if_neg (fun z => q ⟨z.1, z.2.1, by omega⟩)]
  rw [hc] at this
  exact this
