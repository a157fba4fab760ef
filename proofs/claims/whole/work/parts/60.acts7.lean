/-! ===== acts: the log, the past, who waits, who has asked longest, sizes ===== -/
theorem minI {d : Nat} (hd : d < 2147483648) : (if nI 16 < nI d then nI 16 else nI d) = nI (min d 16) := by
  by_cases q : 16 < d
  · rw [if_pos (by rw [lt_n (by omega) hd]; exact q), Nat.min_eq_right (by omega)]
  · rw [if_neg (by rw [lt_n (by omega) hd]; exact q), Nat.min_eq_left (by omega)]
theorem act_log (p1 p2 : Int32) : Act (fX7_log p1 p2) (fX8_log p1 p2) := by
  intro σ N h hN
  rcases h.2.2.2.2 with hN | ⟨b1, b2, u, t, s, a, t1, t2, hT, -⟩
  · refine act_val (w := nI 1) (v := -1) h (Or.inr (Or.inl rfl)) ?_ ?_
    · unfold fX7_log
      rw [jnD, if_pos hN.1]; rfl
    · unfold fX8_log
      rw [jnD, jnD, e89, if_pos hN.2.1]
      exact m_no (by decide)
  · obtain ⟨hu, hP, hM, ⟨d, h0, h1, ⟨⟨y0, y1, y2, y3, y4⟩, yd, yds⟩, h3, h4, h5, h6, h7, h8, h9, ⟨l1, l2⟩, -⟩, -⟩ := hT
    have hd : d < 2147483648 := by omega
    have hlog : fX5_logged 0 σ = some (nI (min d 16), σ) := by unfold fX5_logged; rw [y1, yd, minI hd]
    have hin : fX8_in p1 0 (nI (min d 16) - nI 1) = fX7_isBelow p1 (nI (min d 16)) := (below_in (by omega)).symm
    have hc90 : (cR σ (nI 1)).1 47 0 90 = nI (min d 16) := by rw [cR_o (by omega)]; exact l1
    have no : fX7_isBelow p1 (nI (min d 16)) = 0 ∨ fX7_isBelow p2 (nI 6) = 0 → ∃ r σ1 σ2, fX7_log p1 p2 σ = some (r, σ1) ∧ fX8_log p1 p2 σ1 = some (r, σ2) ∧ Rel σ2 (N + 1) := fun hc => by
      refine act_val (w := nI 1) (v := -1) h (Or.inr (Or.inl rfl)) ?_ ?_
      · unfold fX7_log
        rw [jnD, if_neg (by rw [b1]; decide), hlog, bdS]
        by_cases q : fX7_isBelow p1 (nI (min d 16)) = 0
        · rw [if_pos q]; rfl
        · rw [if_neg q, if_pos (hc.resolve_left q)]; rfl
      · unfold fX8_log
        rw [jnD, jnD, e89, b2, if_neg (show ¬ nI 1 = 0 by decide), gi_n (by omega) (by omega), cl (by omega), hc90, hin, in_5]
        by_cases q : fX7_isBelow p1 (nI (min d 16)) = 0
        · rw [if_pos q]; exact m_no (by decide)
        · rw [if_neg q, if_pos (hc.resolve_left q)]; exact m_no (by decide)
    by_cases q : fX7_isBelow p1 (nI (min d 16)) = 0
    · exact no (Or.inl q)
    · by_cases q2 : fX7_isBelow p2 (nI 6) = 0
      · exact no (Or.inr q2)
      · obtain ⟨i, i1, rfl, i3⟩ := below_of (by omega) q
        obtain ⟨j, j1, rfl, j3⟩ := below_of (by omega) q2
        have e := l2 i (by omega) (by omega) j j1
        rw [Nat.mul_zero, Nat.zero_add] at e
        have hm : (d - 1 - i) % 16 < 16 := Nat.mod_lt _ (by omega)
        refine act_val (w := 0) (v := σ.1 40 ((d - 1 - i) % 16) j) h (Or.inl rfl) ?_ ?_
        · unfold fX7_log fX5_entry
          rw [jnD, if_neg (by rw [b1]; decide), hlog, bdS, if_neg q, if_neg q2, hlog, bdS, if_neg q, if_neg q2, y1, yd, sub_n (by omega), sub_n (by omega), c_fmod (by omega) (by omega) (by omega), bdS, gi_n hm (by omega), gi_n (by omega) (by omega), cl (by omega), cl (by omega), bdS, Nat.mul_zero, Nat.zero_add]; rfl
        · unfold fX8_log
          have hc90' : (cR σ 0).1 47 0 90 = nI (min d 16) := by rw [cR_o (by omega)]; exact l1
          rw [jnD, jnD, e89, b2, if_neg (show ¬ nI 1 = 0 by decide), gi_n (by omega) (by omega), cl (by omega), hc90', hin, in_5, if_neg q, if_neg q2]
          refine m_yes.trans ?_
          rw [mul_n, add_n, add_n, gi_n (by omega) (by omega), cl (by omega), e47, e]
theorem c_mast {σ : St} {t i : Nat} (ht : t < 2147483648) (hi : i < 64) : fX5_masterAt 0 (nI t - nI i) σ = some (if i < t then σ.1 41 0 ((t - i) % 64) else -2, σ) := by
  unfold fX5_masterAt
  have hm : (t - i) % 64 < 64 := Nat.mod_lt _ (by omega)
  by_cases q : i < t
  · rw [sub_n (by omega), if_neg (by rw [lt_n (by omega) (by omega)]; omega), c_fmod (by omega) (by omega) (by omega), bdS, gi_n hm (by omega), cl (by omega), if_pos q]
  · rw [if_neg q, if_pos]
    by_cases q2 : t < i
    · exact Int32.lt_trans (pk_sneg (a := t) (b := i) (by omega) q2) (by decide)
    · rw [show i = t by omega, sub_n (Nat.le_refl _), Nat.sub_self]; decide
theorem act_past (p1 : Int32) : Act (fX7_past p1) (fX8_past p1) := by
  intro σ N h hN
  rcases h.2.2.2.2 with hN | ⟨b1, b2, u, t, s, a, t1, t2, hT, -⟩
  · refine act_val (w := nI 1) (v := -1) h (Or.inr (Or.inl rfl)) ?_ ?_
    · exact (c_gate (w := nI 1) (by rw [if_pos hN.1])).trans (if_neg (by decide))
    · unfold fX8_past
      rw [e89, if_pos hN.2.1]
      exact m_no (by decide)
  · by_cases q : fX7_isBelow p1 (nI 64) = 0
    · refine act_val (w := nI 2) (v := -1) h (Or.inr (Or.inr (Or.inl rfl))) ?_ ?_
      · exact (c_gate (w := nI 2) (by rw [b1, if_neg (by decide), if_pos q])).trans (if_neg (by decide))
      · unfold fX8_past
        rw [e89, b2, if_neg (show ¬ nI 1 = 0 by decide), in_63, if_pos q]
        exact m_no (by decide)
    · obtain ⟨i, i1, rfl, i3⟩ := below_of (by omega) q
      obtain ⟨hu, hP, hM, ⟨d, h0, h1, h2, h3, h4, h5, h6, h7, h8, h9, h10, h11⟩, -⟩ := hT
      have hm : (t - i) % 64 < 64 := Nat.mod_lt _ (by omega)
      refine act_val (w := 0) (v := if i < t then σ.1 41 0 ((t - i) % 64) else -2) h (Or.inl rfl) ?_ ?_
      · refine (c_gate (w := 0) (by rw [b1, if_neg (by decide), if_neg q])).trans ((if_pos rfl).trans ?_)
        have e1 : (cR σ 0).1 4 0 2 = nI t := by rw [cR_o (by omega)]; exact h1.1.1
        rw [e1, c_mast (by omega) i1, bdS, cR_o (by omega)]
      · unfold fX8_past
        rw [e89, b2, if_neg (show ¬ nI 1 = 0 by decide), in_63, if_neg q]
        refine m_yes.trans ?_
        rw [gi_0 (by omega), sb_cl0, e47, h1.1.2]
        by_cases q2 : i < t
        · rw [if_neg (by rw [le_n (by omega) (by omega)]; omega), gi_0 (by omega), sub_n (by omega), rem_n (by omega) (by omega) (by omega), add_n, gi_n (by omega) (by omega), cl (by omega), if_pos q2, h11 (t - i) (by omega) (by omega)]
        · rw [if_pos (by rw [le_n (by omega) (by omega)]; omega), if_neg q2]
/-- how many of the first are so -/
def ctN (g : Nat → Bool) : Nat → Nat
  | 0 => 0
  | i + 1 => ctN g i + (if g i = true then 1 else 0)
theorem act_idle : Act fX7_idle fX8_idle := by
  intro σ N h hN
  rcases h.2.2.2.2 with hN | ⟨b1, b2, u, t, s, a, t1, t2, hT, -⟩
  · refine act_val (w := nI 1) (v := -1) h (Or.inr (Or.inl rfl)) ?_ ?_
    · unfold fX7_idle
      rw [if_pos hN.1]; rfl
    · unfold fX8_idle
      rw [e89, hN.2.1, un_0]
      exact m_no (by decide)
  · obtain ⟨hu, hP, hM, ⟨d, h0, h1, h2, h3, h4, h5, h6, h7, h8, h9, h10, h11⟩, -⟩ := hT
    obtain ⟨s1, i1, e1⟩ := lp0 (fun m i (s : Int32) => LX5_idleTicks_4 0 (nI t) (fun (x5 : Int32) (σ6 : St) => some (x5, σ6)) m s (nI i) σ) (fun s => some (s, σ)) (min 64 t) (by omega) (fun i s => s = nI (ctN (fun i => decide (σ.1 47 0 (187 + (t - i) % 64) = -2)) i)) 0 rfl
      (fun m s _ => by
        rw [LX5_idleTicks_4]
        by_cases q : 64 ≤ min 64 t
        · rw [if_pos (by rw [le_n (by omega) (by omega)]; exact q)]
        · rw [if_neg (by rw [le_n (by omega) (by omega)]; exact q), if_pos (by rw [le_n (by omega) (by omega)]; omega)])
      (fun m i s hi hI => by
        refine ⟨_, rfl, ?_⟩
        rw [LX5_idleTicks_4, if_neg (by rw [le_n (by omega) (by omega)]; omega), if_neg (by rw [le_n (by omega) (by omega)]; omega), c_mast (by omega) (by omega), if_pos (show i < t by omega), bdS, jnD, h11 (t - i) (by omega) (by omega), hI, add_n, add_n, ctN]
        by_cases q : σ.1 47 0 (187 + (t - i) % 64) = -2
        · rw [if_pos q, if_pos (decide_eq_true q)]
        · rw [if_neg q, if_neg (fun z => q (of_decide_eq_true z)), Nat.add_zero (ctN _ _)])
    obtain ⟨s2, i2, e2⟩ := lp0 (fun m i (s : Int32) => LX8_idle_20 (fun (x7 : Int32) (σ8 : St) => some (x7, σ8)) m s (nI i) (mR (cR σ 0) 0)) (fun s => some (s, mR (cR σ 0) 0)) (min 64 t) (by omega) (fun i s => s = nI (ctN (fun i => decide (σ.1 47 0 (187 + (t - i) % 64) = -2)) i)) 0 rfl
      (fun m s _ => by
        rw [LX8_idle_20, gi_0 (by omega), sb_cl0, e47, h1.1.2]
        by_cases q : 64 ≤ min 64 t
        · rw [if_pos (by rw [le_n (by omega) (by omega)]; exact q)]
        · rw [if_neg (by rw [le_n (by omega) (by omega)]; exact q), if_pos (by rw [le_n (by omega) (by omega)]; omega)])
      (fun m i s hi hI => by
        have hm : (t - i) % 64 < 64 := Nat.mod_lt _ (by omega)
        refine ⟨_, rfl, ?_⟩
        rw [LX8_idle_20, gi_0 (by omega), sb_cl0, e47, h1.1.2, if_neg (by rw [le_n (by omega) (by omega)]; omega), if_neg (by rw [le_n (by omega) (by omega)]; omega), gi_0 (by omega), sub_n (by omega), rem_n (by omega) (by omega) (by omega), add_n, gi_n (by omega) (by omega), cl (by omega), ltD, hI, add_n, ctN]
        by_cases q : σ.1 47 0 (187 + (t - i) % 64) = -2
        · rw [if_pos q, if_pos (decide_eq_true q), add_n]
        · rw [if_neg q, if_neg (fun z => q (of_decide_eq_true z)), Nat.add_zero (ctN _ _), add_0])
    rw [nI_0] at e1 e2
    refine act_val (w := 0) (v := s1) h (Or.inl rfl) ?_ ?_
    · unfold fX7_idle fX5_idleTicks
      rw [if_neg (by rw [b1]; decide), h1.1.1, e1, bdS]; rfl
    · unfold fX8_idle
      rw [e89, b2, un_1]
      refine m_yes.trans ?_
      rw [e2, i1, i2]
theorem act_waiting (p1 : Int32) : Act (fX7_waiting p1) (fX8_waiting p1) := by
  intro σ N h hN
  have no : fX7_hasBoard p1 σ = some (0, σ) → (∀ σ1, Sm8 σ σ1 → fX8_isBoard p1 σ1 = some (0, σ1)) → ∃ r σ1 σ2, fX7_waiting p1 σ = some (r, σ1) ∧ fX8_waiting p1 σ1 = some (r, σ2) ∧ Rel σ2 (N + 1) := fun k1 k2 => by
    refine act_val (w := nI 1) (v := -1) h (Or.inr (Or.inl rfl)) ?_ ?_
    · unfold fX7_waiting
      rw [k1, bdS, if_pos rfl]; rfl
    · unfold fX8_waiting
      rw [k2 _ Sm8.cR, bdS, un_0]; exact m_no (by decide)
  rcases h.2.2.2.2 with hN | ⟨b1, b2, u, t, s, a, t1, t2, hT, -⟩
  · exact no (k_boardN hN p1).1 (k_boardN hN p1).2
  · rcases k_board b1 b2 hT p1 with ⟨b, q1, rfl, q3, q4⟩ | ⟨q3, q4⟩
    · obtain ⟨hu, hP, hM, ⟨d, ⟨P, hP', hB, hPu⟩, h1, h2, h3, h4, h5, h6, ⟨w, μ, w1, w2, w3⟩, -⟩, -⟩ := hT
      have hn := hu.n6
      have cw := c_waiters σ 0 (uN u) b w μ q1 ⟨by rw [hP']; exact hB.1, by rw [hP']; exact hB.2.2.2.2.1, hn⟩ w1 w2 (fun o ho => (w3 o ho).1)
      obtain ⟨s2, i2, em⟩ := lp0 (fun m i (s : Int32) => LX8_waiting_21 (nI b) (fun (x11 : Int32) (σ12 : St) => some (x11, σ12)) m s (nI i) (mR (cR σ 0) 0)) (fun s => some (s, mR (cR σ 0) 0)) (uN u) (by omega) (fun i s => s = nI (bsN i (fun o => decide (o ≠ b) && dw 6 w o b))) 0 rfl
        (fun m s _ => by
          rw [LX8_waiting_21, gi_n (by omega) (by omega), cl (by omega), e44, hM.2.2.2.1, if_pos (by rw [le_n (by omega) (by omega)]; exact Nat.le_refl _)])
        (fun m i s hi hI => by
          refine ⟨_, rfl, ?_⟩
          have mw := m_waits (mR (cR σ 0) 0) w (uN u) μ hn w1 (fun b hb => by have := w2 b hb; omega) (fun o ho => by rw [e47]; exact (w3 o ho).2) hi q1
          rw [LX8_waiting_21, gi_n (by omega) (by omega), cl (by omega), e44, hM.2.2.2.1, if_neg (by rw [le_n (by omega) (by omega)]; omega), jnD, jnD, mw, bdS, add_n, shl_1 (by omega)]
          simp only [ltD]
          rw [hI, or_n, or_0, bsN]
          by_cases z : i = b
          · rw [if_pos (by rw [z]), if_neg (by simp [z]), Nat.or_zero]
          · rw [if_neg (by rw [eq_n (by omega) (by omega)]; exact z)]
            by_cases z2 : dw 6 w i b = true
            · rw [if_pos z2, if_neg (by decide), if_pos (by simp [z, z2])]
            · rw [if_neg z2, if_pos rfl, if_neg (by simp [z2]), Nat.or_zero])
      rw [nI_0] at em
      refine act_val (w := 0) (v := nI (bsN (uN u) (fun o => decide (o ≠ b) && dw 6 w o b))) h (Or.inl rfl) ?_ ?_
      · unfold fX7_waiting
        rw [q3, bdS, if_neg (by decide), cw, bdS]; rfl
      · unfold fX8_waiting
        rw [q4 _ Sm8.cR, bdS, un_1]
        refine m_yes.trans ?_
        rw [em, i2]
    · exact no q3 q4
theorem cnt6 : ∀ a b c d e f : Bool, 6 - pop6 ((((((0 ||| (if a = true then 2 ^ 0 else 0)) ||| (if b = true then 2 ^ 1 else 0)) ||| (if c = true then 2 ^ 2 else 0)) ||| (if d = true then 2 ^ 3 else 0)) ||| (if e = true then 2 ^ 4 else 0)) ||| (if f = true then 2 ^ 5 else 0)) = ((((((0 + (if (!a) = true then 1 else 0)) + (if (!b) = true then 1 else 0)) + (if (!c) = true then 1 else 0)) + (if (!d) = true then 1 else 0)) + (if (!e) = true then 1 else 0)) + (if (!f) = true then 1 else 0)) := by decide
theorem cnt6' (g : Nat → Bool) : 6 - pop6 (bsN 6 g) = ctN (fun i => !g i) 6 := cnt6 (g 0) (g 1) (g 2) (g 3) (g 4) (g 5)
/-- lines that are not whole: the model's count -/
theorem m_hurt {σ : St} {g : Nat → Bool} (a1 : Int32) (ke : Int32 → St → Option (Int32 × St)) (hg : ∀ l, l < 6 → (σ.1 47 0 (12 + l) = 0 ↔ g l = true)) : LX8_size_9 a1 ke FU 0 0 σ = ke (nI (ctN (fun l => !g l) 6)) σ := by
  obtain ⟨s2, i2, em⟩ := lp0 (fun m i (s : Int32) => LX8_size_9 a1 ke m s (nI i) σ) (fun s => ke s σ) 6 (by omega) (fun i s => s = nI (ctN (fun l => !g l) i)) 0 rfl
    (fun m s _ => by
      rw [LX8_size_9, if_pos (by rw [le_n (by omega) (by omega)]; exact Nat.le_refl _)])
    (fun m i s hi hI => by
      refine ⟨_, rfl, ?_⟩
      rw [LX8_size_9, if_neg (by rw [le_n (by omega) (by omega)]; omega), add_n, gi_n (by omega) (by omega), cl (by omega), ltD, hI, add_n, ctN]
      by_cases q : g i = true
      · rw [if_pos ((hg i hi).mpr q), add_0, if_neg (by simp [q]), Nat.add_zero (ctN _ _)]
      · rw [if_neg (fun z => q ((hg i hi).mp z)), add_n, if_pos (by simp [q])])
  rw [nI_0] at em
  rw [em, i2]
theorem act_size (p1 : Int32) : Act (fX7_size p1) (fX8_size p1) := by
  intro σ N h hN
  have hR0 : ∀ a b, a ≠ 8 → (wI σ 8 0 0 0).1 a b = σ.1 a b := fun a b z => wIc z
  have h8 : ∀ j, j ≠ 0 → (wI σ 8 0 0 0).1 8 0 j = σ.1 8 0 j := fun j z => wIj (by omega)
  have hg : ∃ g : Nat → Bool, (∀ l, l < 6 → ((wI σ 8 0 0 0).1 47 0 (12 + l) = 0 ↔ g l = true)) ∧ ((σ.1 7 0 8 = 0 ∧ ctN (fun l => !g l) 6 = 0) ∨ (σ.1 7 0 8 = nI 1 ∧ fX4_hurtLines 0 σ = some (nI (ctN (fun l => !g l) 6), σ))) := by
    rcases h.2.2.2.2 with hN | ⟨b1, b2, u, t, s, a, t1, t2, hT, -⟩
    · refine ⟨fun _ => true, fun l hl => ?_, Or.inl ⟨hN.1, rfl⟩⟩
      rw [hR0 47 0 (by omega)]
      exact ⟨fun _ => rfl, fun _ => hN.2.2.2.2 l hl⟩
    · obtain ⟨hu, hP, hM, ⟨d, h0, h1, h2, h3, h4, -⟩, -⟩ := hT
      have hL : ∀ l, l < 6 → σ.1 33 0 l = nI ((σ.1 33 0 l).toNatClampNeg) ∧ (σ.1 33 0 l).toNatClampNeg ≤ 2 ∧ σ.1 47 0 (12 + l) = σ.1 33 0 l := fun l hl => by
        obtain ⟨v, v1, v2, v3⟩ := h4 l hl
        rw [v1, cl (by omega)]
        exact ⟨rfl, v3, v2⟩
      refine ⟨fun l => decide ((σ.1 33 0 l).toNatClampNeg = 0), fun l hl => ?_, Or.inr ⟨b1, ?_⟩⟩
      · rw [hR0 47 0 (by omega), (hL l hl).2.2]
        have hl2 := (hL l hl).2.1
        constructor
        · intro z
          refine decide_eq_true ?_
          rw [z]; rfl
        · intro z
          rw [(hL l hl).1, of_decide_eq_true z, nI_0]
      · have hcl := c_lines (σ := σ) (k := 0) (v := 0) (L := fun l => (σ.1 33 0 l).toNatClampNeg) (by omega) (fun l hl => ⟨(hL l hl).1, (hL l hl).2.1⟩)
        rw [nI_0] at hcl
        unfold fX4_hurtLines
        have h64 : thL (fun l => (σ.1 33 0 l).toNatClampNeg) 0 < 64 := bsN_64 (Nat.le_refl _) _
        have hp6 := pop6_le _ h64
        rw [hcl, bdS, c_bits σ h64, bdS, sub_n hp6]
        unfold thL
        rw [cnt6']
  obtain ⟨g, g1, g2⟩ := hg
  have eG : fX8_size p1 σ = (if p1 = 0 then some (σ.1 8 0 5, wI σ 8 0 0 0) else if p1 = nI 1 then (if (σ.1 8 0 9) = 0 then some (0, wI σ 8 0 0 0) else some ((σ.1 44 0 4) - (σ.1 47 0 11), wI σ 8 0 0 0)) else if p1 = nI 2 then some (if (σ.1 8 0 21) = 0 then 0 else (nI 1), wI σ 8 0 0 0) else if p1 = nI 3 then some (nI (ctN (fun l => !g l) 6), wI σ 8 0 0 0) else some ((-1), wI σ 8 0 0 0)) := by
    unfold fX8_size
    rw [ltD, m_hurt _ _ g1, h8 5 (by omega), h8 9 (by omega), h8 21 (by omega), gi_n (by omega) (by omega), gi_n (by omega) (by omega), cl (by omega), cl (by omega), hR0 44 0 (by omega), hR0 47 0 (by omega)]
  have hc7 : σ.1 7 0 9 = σ.1 8 0 21 := by
    rcases h.2.2.2.2 with hN | ⟨b1, b2, u, t, s, a, t1, t2, hT, hK⟩
    · rw [hN.2.2.1, hN.2.2.2.1]
    · rcases hK with z | ⟨z1, z2, -⟩
      · rw [z.1, z.2]
      · rw [z1, z2]
  have fin : ∀ v : Int32, fX7_size p1 σ = some (v, σ) → fX8_size p1 σ = some (v, wI σ 8 0 0 0) → ∃ r σ1 σ2, fX7_size p1 σ = some (r, σ1) ∧ fX8_size p1 σ1 = some (r, σ2) ∧ Rel σ2 (N + 1) := fun v k1 k2 => ⟨v, σ, _, k1, k2, h.w0 0⟩
  obtain ⟨c, c1, c2, c3, c4⟩ := h.2.1
  by_cases q0 : p1 = 0
  · refine fin (nI c) ?_ ?_
    · unfold fX7_size; rw [if_pos q0, c2]
    · rw [eG, if_pos q0, c3]
  by_cases q1 : p1 = nI 1
  · rcases h.2.2.2.2 with hN | ⟨b1, b2, u, t, s, a, t1, t2, hT, hK⟩
    · refine fin 0 ?_ ?_
      · unfold fX7_size; rw [if_neg q0, if_pos q1, if_pos hN.1]
      · rw [eG, if_neg q0, if_pos q1, if_pos hN.2.1]
    · obtain ⟨hu, hP, hM, ⟨d, ⟨P, hP', hB, hPu⟩, h1, h2, h3, -⟩, ⟨k1, k2⟩⟩ := hT
      have h12 := hu.a
      have h3' : σ.1 47 0 11 = nI a := h3
      obtain ⟨s1, i1, e1⟩ := lp0 (fun m i (s : Int32) => LX4_asksToCome_4 0 (fun (x5 : Int32) (σ6 : St) => some (x5, σ6)) m s (nI i) σ) (fun s => some (s, σ)) (uA u) (by omega) (fun i s => s = nI (i - a)) 0 (by rw [Nat.zero_sub, nI_0])
        (fun m s _ => by
          rw [LX4_asksToCome_4, hP', gd_t hB.1, hB.2.2.2.2.2.1, if_pos (by rw [le_n (by omega) (by omega)]; exact Nat.le_refl _)])
        (fun m i s hi hI => by
          refine ⟨_, rfl, ?_⟩
          have hti := (hu.t i hi).2
          have hk := k2 i hi
          rw [LX4_asksToCome_4, hP', gd_t hB.1, hB.2.2.2.2.2.1, if_neg (by rw [le_n (by omega) (by omega)]; omega), if_neg (by rw [le_n (by omega) (by omega)]; omega), gd_t hB.1, gi_n (by omega) (by omega), cl (by omega), jnD, (hB.2.2.2.2.2.2.2 i hi).1, h1.1.1, hI, add_n, add_n]
          by_cases q : i < a
          · rw [if_pos (by rw [le_n (by omega) (by omega)]; exact hk.mp q), show i - a = 0 by omega, show i + 1 - a = 0 by omega]
          · rw [if_neg (by rw [le_n (by omega) (by omega)]; exact fun z => q (hk.mpr z)), show i - a + 1 = i + 1 - a by omega])
      rw [nI_0] at e1
      refine fin (nI (uA u - a)) ?_ ?_
      · unfold fX7_size fX4_asksToCome; rw [if_neg q0, if_pos q1, if_neg (by rw [b1]; decide), e1, bdS, i1]
      · rw [eG, if_neg q0, if_pos q1, if_neg (by rw [b2]; decide), hM.2.2.2.2.1, h3', sub_n k1]
  by_cases q2 : p1 = nI 2
  · refine fin (if (σ.1 8 0 21) = 0 then 0 else (nI 1)) ?_ ?_
    · unfold fX7_size; rw [if_neg q0, if_neg q1, if_pos q2, hc7]
    · rw [eG, if_neg q0, if_neg q1, if_pos q2]
  by_cases q3 : p1 = nI 3
  · refine fin (nI (ctN (fun l => !g l) 6)) ?_ ?_
    · unfold fX7_size
      rw [if_neg q0, if_neg q1, if_neg q2, if_pos q3]
      rcases g2 with ⟨z1, z2⟩ | ⟨z1, z2⟩
      · rw [if_pos z1, z2, nI_0]
      · rw [if_neg (by rw [z1]; decide), z2, bdS]
    · rw [eG, if_neg q0, if_neg q1, if_neg q2, if_pos q3]
  · refine fin (-1) ?_ ?_
    · unfold fX7_size; rw [if_neg q0, if_neg q1, if_neg q2, if_neg q3]
    · rw [eG, if_neg q0, if_neg q1, if_neg q2, if_neg q3]
