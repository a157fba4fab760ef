/-! ===== one elected becomes master; an arbitration begins; a tick ends ===== -/
theorem wI_comm {σ : St} {c1 k1 j1 c2 k2 j2 : Nat} {v1 v2 : Int32} (h : ¬ (c1 = c2 ∧ k1 = k2 ∧ j1 = j2)) : wI (wI σ c1 k1 j1 v1) c2 k2 j2 v2 = wI (wI σ c2 k2 j2 v2) c1 k1 j1 v1 := by
  refine Prod.ext (funext fun a => funext fun b => funext fun c => ?_) rfl
  rw [rI, rI, rI, rI]
  by_cases q : a = c2 ∧ b = k2 ∧ c = j2
  · rw [if_pos q, if_neg (by omega), if_pos q]
  · rw [if_neg q, if_neg q]
theorem c_count0 {σ : St} {k b : Nat} (hb : b < 6) : fX5_count k (nI b) 0 σ = some ((), wI σ 38 (6 * k + b) 0 (σ.1 38 (6 * k + b) 0 + nI 1)) := by
  have := c_count (σ := σ) (k := k) (b := b) (j := 0) hb (by omega)
  rw [nI_0] at this
  exact this
theorem s_hand {u : BU} {σ σm : St} {k t p s a b : Nat} (hu : UOk u) (ht : t < 1000000000) (hs : s < 1000000000) (h : TS u σ k σm t p s a) (hb : b < uN u) (h3e : σm.1 47 0 3 = nI b) :
    ∃ σ' σm', fX4_handOver k σ = some ((), σ') ∧ fX8_becomesMaster σm = some ((), σm') ∧ TS u σ' k σm' t p (s + 1) a ∧ M8 σm σm' := by
  have hn := hu.n6
  obtain ⟨⟨d, ⟨P, hP, hB, hPu⟩, h1, h2, h3, h4, h5, h6, h7, h8, h9, h10, h11⟩, hD, hM⟩ := h
  obtain ⟨⟨t1, t2⟩, ⟨m1, m2⟩, ⟨l1, l2⟩, ⟨e1, e2⟩, g4, g5, C, c1, c2, c3⟩ := h1
  obtain ⟨⟨va, a1, a2, a3⟩, vs, s1, s2, s3⟩ := h5 b hb
  obtain ⟨j9, c9, k9, k9'⟩ := h9 b hb
  have j0 := j9 0 (by omega)
  have j4 := j9 4 (by omega)
  rw [Nat.add_zero] at j0
  -- the pair without ledgers
  have cA : ∀ x y, ¬ (x = 4 ∨ x = 34) → (wI (wI (wI (wI σ 4 k 5 (-2)) 4 k 3 (nI b)) 4 k 4 (nI (t + va))) 34 k b 0).1 x y = σ.1 x y := fun x y z => by rw [wIc (by omega), wIc (by omega), wIc (by omega), wIc (by omega)]
  have c4 : ∀ j, ¬ (j = 3 ∨ j = 4 ∨ j = 5) → (wI (wI (wI (wI σ 4 k 5 (-2)) 4 k 3 (nI b)) 4 k 4 (nI (t + va))) 34 k b 0).1 4 k j = σ.1 4 k j := fun j z => by rw [wIj (by omega), wIj (by omega), wIj (by omega), wIj (by omega)]
  have cr : ∀ j, ¬ (j = 1 ∨ j = 2 ∨ j = 3 ∨ j = 18 + 12 * b) → (wI (wI (wI (wI σm 47 0 1 (nI b)) 47 0 2 (nI (t + va))) 47 0 3 (-2)) 47 0 (18 + 12 * b) 0).1 47 0 j = σm.1 47 0 j := fun j z => by rw [wIj (by omega), wIj (by omega), wIj (by omega), wIj (by omega)]
  have cm : ∀ x y, x ≠ 47 → (wI (wI (wI (wI σm 47 0 1 (nI b)) 47 0 2 (nI (t + va))) 47 0 3 (-2)) 47 0 (18 + 12 * b) 0).1 x y = σm.1 x y := fun x y z => by rw [wIc z, wIc z, wIc z, wIc z]
  have hA : TS u (wI (wI (wI (wI σ 4 k 5 (-2)) 4 k 3 (nI b)) 4 k 4 (nI (t + va))) 34 k b 0) k (wI (wI (wI (wI σm 47 0 1 (nI b)) 47 0 2 (nI (t + va))) 47 0 3 (-2)) 47 0 (18 + 12 * b) 0) t p s a := by
    have x3 : (wI (wI (wI (wI σ 4 k 5 (-2)) 4 k 3 (nI b)) 4 k 4 (nI (t + va))) 34 k b 0).1 4 k 3 = nI b := by rw [wIj (by omega), wIj (by omega), wIe (by omega)]
    have x4 : (wI (wI (wI (wI σ 4 k 5 (-2)) 4 k 3 (nI b)) 4 k 4 (nI (t + va))) 34 k b 0).1 4 k 4 = nI (t + va) := by rw [wIj (by omega), wIe (by omega)]
    have x5 : (wI (wI (wI (wI σ 4 k 5 (-2)) 4 k 3 (nI b)) 4 k 4 (nI (t + va))) 34 k b 0).1 4 k 5 = -2 := by rw [wIj (by omega), wIj (by omega), wIj (by omega), wIe (by omega)]
    have w1 : (wI (wI (wI (wI σm 47 0 1 (nI b)) 47 0 2 (nI (t + va))) 47 0 3 (-2)) 47 0 (18 + 12 * b) 0).1 47 0 1 = nI b := by rw [wIj (by omega), wIj (by omega), wIj (by omega), wIe (by omega)]
    have w2 : (wI (wI (wI (wI σm 47 0 1 (nI b)) 47 0 2 (nI (t + va))) 47 0 3 (-2)) 47 0 (18 + 12 * b) 0).1 47 0 2 = nI (t + va) := by rw [wIj (by omega), wIj (by omega), wIe (by omega)]
    have w3 : (wI (wI (wI (wI σm 47 0 1 (nI b)) 47 0 2 (nI (t + va))) 47 0 3 (-2)) 47 0 (18 + 12 * b) 0).1 47 0 3 = -2 := by rw [wIj (by omega), wIe (by omega)]
    refine ⟨⟨d, Q0.fr ⟨P, hP, hB, hPu⟩ (fun x y z => cA x y (by omega)) rfl, ?_, h2.fr (cA 5 k (by omega)) (fun j z1 z2 => cr j (by omega)) (Nat.le_refl _), h3.fr (cr 11 (by omega)), h4.fr (cA 33 k (by omega)) (fun j z1 z2 => cr j (by omega)), fun b' hb' => ?_, h6.fr (c4 8 (by omega)) (fun b' z => cr _ (by omega)), h7.fr (cA 36 k (by omega)) (fun b' z => cr _ (by omega)), h8.fr (cA 32 k (by omega)) (cr 4 (by omega)) (fun b' z j z1 z2 => cr _ (by omega)), h9.fr (fun b' z => cA 38 _ (by omega)) (fun b' z j z2 => cr _ (by omega)) (Nat.le_refl _), h10.fr (fun x z => cA 40 _ (by omega)) (fun j z1 z2 => cr _ (by omega)), h11.fr (cA 41 k (by omega)) (fun j z => cr _ (by omega))⟩, hD.fr (by rw [cA 1 0 (by omega)]) (fun o => cA 22 o (by omega)), hM.fr (cm 44 0 (by omega))⟩
    · refine ⟨⟨(c4 2 (by omega)).trans t1, (cr 0 (by omega)).trans t2⟩, ⟨x3.trans w1.symm, by rw [w1]; exact wn_b hb⟩, ⟨x4.trans w2.symm, fun z => ?_⟩, ⟨x5.trans w3.symm, by rw [w3]; exact wn_m2⟩, ?_⟩
      · rw [w1, nm2 (by omega)] at z; exact z.elim
      · rw [c4 6 (by omega), c4 7 (by omega), cr 4 (by omega), cr 5 (by omega)]
        exact ⟨g4, g5, C, c1, c2, c3⟩
    · by_cases e : b' = b
      · subst e
        refine ⟨⟨0, by rw [wIe (by omega), nI_0], by rw [wIe (by omega), nI_0], by omega⟩, vs, ?_, ?_, s3⟩
        · rw [cA 35 k (by omega)]; exact s1
        · rw [cr _ (by omega)]; exact s2
      · obtain ⟨⟨va', x1, x2, x3⟩, vs', y1, y2, y3⟩ := h5 b' hb'
        refine ⟨⟨va', ?_, ?_, x3⟩, vs', ?_, ?_, y3⟩
        · rw [wIj (by omega), wIj (by omega), wIj (by omega), wIj (by omega)]; exact x1
        · rw [cr _ (by omega)]; exact x2
        · rw [cA 35 k (by omega)]; exact y1
        · rw [cr _ (by omega)]; exact y2
  have hM8 : M8 σm (wI (wI (wI (wI σm 47 0 1 (nI b)) 47 0 2 (nI (t + va))) 47 0 3 (-2)) 47 0 (18 + 12 * b) 0) := M8.rf.w.w.w.w
  obtain ⟨hR, hD', hM'⟩ := hA
  have hR1 := (hR.up (s' := s + 1) (by omega)).led hu hb (show 0 < 6 by omega) (x := nI (c9 + 1)) (fun _ => ⟨c9 + 1, rfl, by omega, by omega⟩)
  have hR2 := hR1.led hu hb (show 4 < 6 by omega) (x := if σm.1 47 0 (18 + 12 * b + 6 + 4) < nI t - nI vs then nI t - nI vs else σm.1 47 0 (18 + 12 * b + 6 + 4)) (fun z => by omega)
  have ec : fX4_handOver k σ = some ((), wI (wI (wI (wI (wI (wI σ 4 k 5 (-2)) 4 k 3 (nI b)) 4 k 4 (nI (t + va))) 34 k b 0) 38 (6 * k + b) 0 (nI (c9 + 1))) 38 (6 * k + b) 4 (if σm.1 47 0 (18 + 12 * b + 6 + 4) < nI t - nI vs then nI t - nI vs else σm.1 47 0 (18 + 12 * b + 6 + 4))) := by
    unfold fX4_handOver
    rw [e1, h3e, ltD, ltD]
    have p1 : (wI σ 4 k 5 (-2)).2.2 4 k 1 = P := hP
    have p2 : (wI σ 4 k 5 (-2)).1 2 P 3 = nI (uN u) := (wIj (by omega)).trans hB.2.2.2.2.1
    rw [p1, gd_t hB.1, c_holds p2 hb hn, bdS, if_neg (by decide), ltD, gi_n (by omega) (by omega), cl (by omega)]
    have p3 : (wI (wI σ 4 k 5 (-2)) 4 k 3 (nI b)).1 4 k 2 = nI t := by rw [wIj (by omega), wIj (by omega)]; exact t1
    have p4 : (wI (wI σ 4 k 5 (-2)) 4 k 3 (nI b)).1 34 k b = nI va := by rw [wIj (by omega), wIj (by omega)]; exact a1
    rw [p3, p4, add_n, ltD, gi_n (by omega) (by omega)]
    have p5 : (wI (wI (wI σ 4 k 5 (-2)) 4 k 3 (nI b)) 4 k 4 (nI (t + va))).1 4 k 2 = nI t := by rw [wIj (by omega)]; exact p3
    have p6 : (wI (wI (wI σ 4 k 5 (-2)) 4 k 3 (nI b)) 4 k 4 (nI (t + va))).1 35 k b = nI vs := by rw [wIj (by omega), wIj (by omega), wIj (by omega)]; exact s1
    have p7 : (wI (wI (wI σ 4 k 5 (-2)) 4 k 3 (nI b)) 4 k 4 (nI (t + va))).1 38 (6 * k + b) 0 = nI c9 := by rw [wIj (by omega), wIj (by omega), wIj (by omega), j0]; exact k9
    have p8 : (wI (wI (wI σ 4 k 5 (-2)) 4 k 3 (nI b)) 4 k 4 (nI (t + va))).1 38 (6 * k + b) 4 = σm.1 47 0 (18 + 12 * b + 6 + 4) := by rw [wIj (by omega), wIj (by omega), wIj (by omega), j4]
    rw [p5, p6]
    unfold fX5_enthrone
    rw [isBelow_n (show b < 6 by omega) (by omega), if_neg (by decide), c_count0 (by omega), bdS, p7, add_n, gi_n (by omega) (by omega), gi_n (by omega) (by omega), gi_n (by omega) (by omega), gi_n (by omega) (by omega), cl (by omega), cl (by omega), wIj (by omega), p8, ltD, bdS, gi_n (by omega) (by omega), ltD, wI_comm (c1 := 38) (c2 := 34) (by omega), wI_comm (c1 := 38) (c2 := 34) (by omega)]
  have em : fX8_becomesMaster σm = some ((), wI (wI (wI (wI (wI (wI σm 47 0 1 (nI b)) 47 0 2 (nI (t + va))) 47 0 3 (-2)) 47 0 (18 + 12 * b) 0) 47 0 (18 + 12 * b + 6 + 0) (nI (c9 + 1))) 47 0 (18 + 12 * b + 6 + 4) (if σm.1 47 0 (18 + 12 * b + 6 + 4) < nI t - nI vs then nI t - nI vs else σm.1 47 0 (18 + 12 * b + 6 + 4))) := by
    unfold fX8_becomesMaster
    simp (disch := omega) only [gi_n, gi_0, cl, sb_cl0, ltD, jnD, h3e, at8, at8_0]
    have q1 : (wI σm 47 0 1 (nI b)).1 47 0 0 = nI t := (wIj (by omega)).trans t2
    have q2 : (wI σm 47 0 1 (nI b)).1 47 0 (18 + 12 * b) = nI va := (wIj (by omega)).trans a2
    rw [t2, s2, q1, q2, add_n]
    have q3 : (wI (wI (wI (wI σm 47 0 1 (nI b)) 47 0 2 (nI (t + va))) 47 0 3 (-2)) 47 0 (18 + 12 * b) 0).1 47 0 (18 + 12 * b + 6) = nI c9 := (cr _ (by omega)).trans k9
    rw [q3, add_n]
    have q4 : (wI (wI (wI (wI (wI σm 47 0 1 (nI b)) 47 0 2 (nI (t + va))) 47 0 3 (-2)) 47 0 (18 + 12 * b) 0) 47 0 (18 + 12 * b + 6) (nI (c9 + 1))).1 47 0 (18 + 12 * b + 10) = σm.1 47 0 (18 + 12 * b + 10) := (wIj (by omega)).trans (cr _ (by omega))
    rw [q4, Nat.add_zero, show 18 + 12 * b + 6 + 4 = 18 + 12 * b + 10 by omega]
    by_cases z : σm.1 47 0 (18 + 12 * b + 10) < nI t - nI vs
    · rw [if_pos z, if_neg (Int32.not_le.mpr z)]
    · rw [if_neg z, if_pos (Int32.not_lt.mp z)]
  refine ⟨_, _, ec, em, ⟨hR2, hD'.fr ((wIj (by omega)).trans (wIj (by omega))) (fun o => (wIc (by omega)).trans (wIc (by omega))), (hM'.fr (wIc (by omega))).fr (wIc (by omega))⟩, hM8.w.w⟩
theorem RR.past {u : BU} {σ σm : St} {k t p s a : Nat} (hu : UOk u) (h : RR u σ k (σm.1 47 0) t p s a) (hp : p + 1 = t) (v : Int32) : RR u (wI σ 41 k (t % 64) v) k ((wI σm 47 0 (187 + t % 64) v).1 47 0) t t s a := by
  have hn := hu.n6
  obtain ⟨d, h0, h1, h2, h3, h4, h5, h6, h7, h8, h9, h10, h11⟩ := h
  refine ⟨d, h0.fr (fun x y g => wIc (by omega)) rfl, h1.fr (fun j _ => wIj (by omega)) (fun j g => wIj (by omega)), h2.fr (wIc (by omega)) (fun j g1 g2 => wIj (by omega)) (Nat.le_refl _), h3.fr (wIj (by omega)), h4.fr (wIc (by omega)) (fun j g1 g2 => wIj (by omega)), h5.fr (fun x g => wIc (by omega)) (fun b' g j' g2 => wIj (by omega)) (Nat.le_refl _), h6.fr (wIj (by omega)) (fun b' g => wIj (by omega)), h7.fr (wIc (by omega)) (fun b' g => wIj (by omega)), h8.fr (wIc (by omega)) (wIj (by omega)) (fun b' g j' g1 g2 => wIj (by omega)), h9.fr (fun b' _ => wIc (by omega)) (fun b' g j' g2 => wIj (by omega)) (Nat.le_refl _), h10.fr (fun x _ => wIc (by omega)) (fun j g1 g2 => wIj (by omega)), fun j g1 g2 => ?_⟩
  by_cases q : j % 64 = t % 64
  · rw [wIe (by omega), wIe (by omega)]
  · rw [wIj (by omega), wIj (by omega)]
    exact h11 j g1 (by
      have : j ≠ t := fun z => q (by rw [z])
      omega)
/-- a tick ends -/
theorem s_end {u : BU} {σ σm : St} {k t p s a : Nat} (hu : UOk u) (ht : t < 1000000000) (h : TS u σ k σm t p s a) (hp : p + 1 = t) :
    ∃ σ' σm', fX5_endTick k (σ.1 4 k 2) (σ.1 4 k 3) σ = some ((), σ') ∧ (jn (fun (σ11 : St) => gi 0 251 <| gi (nI 1) 251 <| gi ((nI 187) + ((σ11.1 47 0 (0 : Int32).toNatClampNeg) - (σ11.1 47 0 (0 : Int32).toNatClampNeg) / (nI 64) * (nI 64))) 251 <| lt (wI σ11 47 0 ((nI 187) + ((σ11.1 47 0 (0 : Int32).toNatClampNeg) - (σ11.1 47 0 (0 : Int32).toNatClampNeg) / (nI 64) * (nI 64))).toNatClampNeg (σ11.1 47 0 (nI 1).toNatClampNeg)) fun (σ12 : St) => some ((), σ12)) fun j246 => if (σm.1 47 0 (nI 1).toNatClampNeg) = (-2) then j246 σm else gi (nI 1) 251 <| gi (fX8_at (σm.1 47 0 (nI 1).toNatClampNeg) (nI 7)) 251 <| gi (fX8_at (σm.1 47 0 (nI 1).toNatClampNeg) (nI 7)) 251 <| lt (wI σm 47 0 (fX8_at (σm.1 47 0 (nI 1).toNatClampNeg) (nI 7)).toNatClampNeg ((σm.1 47 0 (fX8_at (σm.1 47 0 (nI 1).toNatClampNeg) (nI 7)).toNatClampNeg) + (nI 1))) fun (σ13 : St) => j246 σ13) = some ((), σm') ∧ TS u σ' k σm' t t s a ∧ M8 σm σm' := by
  have hn := hu.n6
  have hm64 : t % 64 < 64 := Nat.mod_lt _ (by omega)
  obtain ⟨hR, hD, hM⟩ := h
  have hR' := hR
  obtain ⟨d, h0, h1, h2, h3, h4, h5, h6, h7, h8, h9, h10, h11⟩ := hR
  obtain ⟨⟨t1, t2⟩, ⟨m1, m2⟩, -⟩ := h1
  unfold fX5_endTick
  rw [t1, m1, c_fmod (by omega) (by omega) (by omega), bdS, gi_n hm64 (by omega), cl (by omega), ltD]
  simp (disch := omega) only [gi_n, gi_0, cl, sb_cl0, ltD, jnD]
  obtain ⟨o, o1, o2⟩ := m2
  cases o with
  | none =>
    rw [o1, wv_none, if_pos rfl, t2, rem_n (by omega) (by omega) (by omega), add_n, gi_n (by omega) (by omega), cl (by omega)]
    have e : fX5_count k (-2) (nI 1) (wI σ 41 k (t % 64) (-2)) = some ((), wI σ 41 k (t % 64) (-2)) := by
      unfold fX5_count
      rw [if_pos (by decide)]
    rw [e, bdS]
    refine ⟨_, _, rfl, rfl, ⟨hR'.past hu hp (-2), hD.fr (wIj (by omega)) (fun o => wIc (by omega)), hM.fr (wIc (by omega))⟩, M8.rf.w⟩
  | some b =>
    have hb := o2 b rfl
    have e := (h9 b hb).1 1 (by omega)
    rw [o1, wv_some, if_neg (by rw [nm2 (by omega)]; exact id), c_count (by omega) (by omega), bdS, at8, gi_n (by omega) (by omega), gi_n (by omega) (by omega), cl (by omega), wIj (by omega), e]
    have w0 : ∀ v, (wI σm 47 0 (18 + 12 * b + 7) v).1 47 0 0 = nI t := fun v => by rw [wIj (by omega)]; exact t2
    have w1 : ∀ v, (wI σm 47 0 (18 + 12 * b + 7) v).1 47 0 1 = nI b := fun v => by rw [wIj (by omega)]; exact o1
    rw [w0, w1, rem_n (by omega) (by omega) (by omega), add_n, gi_n (by omega) (by omega), cl (by omega), wI_comm (c1 := 41) (c2 := 38) (by omega), show 18 + 12 * b + 7 = 18 + 12 * b + 6 + 1 by omega]
    refine ⟨_, _, rfl, rfl, ⟨(hR'.led hu hb (by omega) (fun z => by omega)).past hu hp (nI b), hD.fr ((wIj (by omega)).trans (wIj (by omega))) (fun o => (wIc (by omega)).trans (wIc (by omega))), (hM.fr (wIc (by omega))).fr (wIc (by omega))⟩, M8.rf.w.w⟩
