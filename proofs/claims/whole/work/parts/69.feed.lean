/-! ===== act: feed ===== -/
theorem byte_eq (a : Int32) (s : Nat) (hs : s ≤ 24) : ((((a.toUInt32 >>> ((nI s).toUInt32 &&& Int32.toUInt32 31)).toInt32).toInt8.toInt32).toInt8.toInt32) &&& nI 255 = (a >>> (nI s &&& 31)) &&& nI 255 := by
  show _ &&& (255 : Int32) = _ &&& (255 : Int32)
  rw [bp_b, bp_b]
  apply b_ext
  intro i hi
  rw [b_and, b_and, b_ushr s (by omega), b_sshr s (by omega) a hi, b_255]
  by_cases q : i < 8
  · rw [if_pos (by omega)]
  · rw [decide_eq_false q, Bool.and_false, Bool.and_false]
theorem byte_v (x : Int32) : ∃ v, v < 256 ∧ x &&& nI 255 = nI v := by
  refine ⟨x.toBitVec.toNat &&& 255, Nat.lt_succ_of_le Nat.and_le_right, ?_⟩
  apply Int32.toBitVec_inj.mp
  apply BitVec.eq_of_toNat_eq
  have h : x.toBitVec.toNat &&& 255 ≤ 255 := Nat.and_le_right
  show (x.toBitVec &&& BitVec.ofNat 32 255).toNat = (BitVec.ofNat 32 (x.toBitVec.toNat &&& 255)).toNat
  rw [BitVec.toNat_and, BitVec.toNat_ofNat, BitVec.toNat_ofNat, Nat.mod_eq_of_lt (show 255 < 2 ^ 32 by omega), Nat.mod_eq_of_lt (by omega)]
/-- a tape, one word more -/
def exF (f : Nat → Int32) (c : Nat) (a : Int32) (i : Nat) : Int32 := if i < c then f i else (a >>> (nI (24 - 8 * (i - c)) &&& 31)) &&& nI 255
def CT (σ : St) (c : Nat) (f : Nat → Int32) : Prop := σ.1 6 0 1 = nI c ∧ ∀ i, i < c → σ.1 42 0 i &&& nI 255 = f i
def MT (σ : St) (c : Nat) (f : Nat → Int32) : Prop := σ.1 8 0 5 = nI c ∧ ∀ i, i < c → σ.1 43 0 i = f i
theorem m8_n {s : Nat} (h : 8 ≤ s) : nI s + (-8) = nI (s - 8) := by
  obtain ⟨b, rfl⟩ : ∃ b, s = b + 8 := ⟨s - 8, by omega⟩
  rw [← add_n, Int32.add_assoc, show nI 8 + (-8) = 0 from by decide, add_0, Nat.add_sub_cancel]
theorem c_app1 {σ : St} {c s : Nat} {a : Int32} (hc : c < 700) (h : σ.1 6 0 1 = nI c) (hs : s ≤ 24) (ke : St → Option (Unit × St)) (m : Nat) : ∃ v, v &&& nI 255 = (a >>> (nI s &&& 31)) &&& nI 255 ∧ LX6_append_3 a ke (m + 1) (nI s) σ = LX6_append_3 a ke m (nI s + (-8)) (wI (wI σ 42 0 c v) 6 0 1 (nI (c + 1))) := by
  refine ⟨_, byte_eq a s hs, ?_⟩
  rw [LX6_append_3, if_neg (by rw [lt_0n (by omega)]; exact id), h, if_neg (by rw [le_n (by omega) (by omega)]; omega), gi_n (by omega) (by omega), cl (by omega), ltD, ltD, wIj (by omega), h, add_n]
theorem c_app {σ : St} {c : Nat} {f : Nat → Int32} (a : Int32) (hc : c + 4 ≤ 700) (h : CT σ c f) : ∃ σ', fX6_append a σ = some ((), σ') ∧ CT σ' (c + 4) (exF f c a) ∧ (∀ x y, x ≠ 6 → x ≠ 42 → σ'.1 x y = σ.1 x y) ∧ σ'.2 = σ.2 := by
  obtain ⟨m, hm⟩ : ∃ m, FU = m + 1 + 1 + 1 + 1 + 1 := ⟨FU - 5, by have := FU_gt; omega⟩
  unfold fX6_append
  rw [hm]
  have e6 : ∀ (τ : St) (i : Nat) (v w : Int32), (wI (wI τ 42 0 i v) 6 0 1 w).1 6 0 1 = w := fun τ i v w => wIe ⟨rfl, rfl, rfl⟩
  have e42 : ∀ (τ : St) (i j : Nat) (v w : Int32), (wI (wI τ 42 0 i v) 6 0 1 w).1 42 0 j = if j = i then v else τ.1 42 0 j := fun τ i j v w => by
    rw [wIj (by omega), rI]
    by_cases q : j = i
    · rw [if_pos ⟨rfl, rfl, q⟩, if_pos q]
    · rw [if_neg (fun z => q z.2.2), if_neg q]
  obtain ⟨v0, p0, q0⟩ := c_app1 (a := a) (σ := σ) (s := 24) (c := c) (by omega) h.1 (by omega) (fun (σ3 : St) => some ((), σ3)) (m + 1 + 1 + 1 + 1)
  rw [q0, m8_n (by omega)]
  obtain ⟨v1, p1, q1⟩ := c_app1 (a := a) (σ := wI (wI σ 42 0 c v0) 6 0 1 (nI (c + 1))) (s := 24 - 8) (c := c + 1) (by omega) (e6 _ _ _ _) (by omega) (fun (σ3 : St) => some ((), σ3)) (m + 1 + 1 + 1)
  rw [q1, m8_n (by omega)]
  obtain ⟨v2, p2, q2⟩ := c_app1 (a := a) (σ := wI (wI (wI (wI σ 42 0 c v0) 6 0 1 (nI (c + 1))) 42 0 (c + 1) v1) 6 0 1 (nI (c + 1 + 1))) (s := 24 - 8 - 8) (c := c + 1 + 1) (by omega) (e6 _ _ _ _) (by omega) (fun (σ3 : St) => some ((), σ3)) (m + 1 + 1)
  rw [q2, m8_n (by omega)]
  obtain ⟨v3, p3, q3⟩ := c_app1 (a := a) (σ := wI (wI (wI (wI (wI (wI σ 42 0 c v0) 6 0 1 (nI (c + 1))) 42 0 (c + 1) v1) 6 0 1 (nI (c + 1 + 1))) 42 0 (c + 1 + 1) v2) 6 0 1 (nI (c + 1 + 1 + 1))) (s := 24 - 8 - 8 - 8) (c := c + 1 + 1 + 1) (by omega) (e6 _ _ _ _) (by omega) (fun (σ3 : St) => some ((), σ3)) (m + 1)
  rw [q3, LX6_append_3, if_pos (by decide)]
  refine ⟨_, rfl, ⟨e6 _ _ _ _, fun i hi => ?_⟩, fun x y g1 g2 => ?_, rfl⟩
  · rw [e42, e42, e42, e42]
    unfold exF
    by_cases g : i < c
    · rw [if_neg (by omega), if_neg (by omega), if_neg (by omega), if_neg (by omega), if_pos g]; exact h.2 i g
    · rw [if_neg g]
      have hk : i = c ∨ i = c + 1 ∨ i = c + 1 + 1 ∨ i = c + 1 + 1 + 1 := by omega
      rcases hk with rfl | rfl | rfl | rfl
      · rw [if_neg (by omega), if_neg (by omega), if_neg (by omega), if_pos rfl, p0, show 24 - 8 * (i - i) = 24 by omega]
      · rw [if_neg (by omega), if_neg (by omega), if_pos rfl, p1, show 24 - 8 * (c + 1 - c) = 24 - 8 by omega]
      · rw [if_neg (by omega), if_pos rfl, p2, show 24 - 8 * (c + 1 + 1 - c) = 24 - 8 - 8 by omega]
      · rw [if_pos rfl, p3, show 24 - 8 * (c + 1 + 1 + 1 - c) = 24 - 8 - 8 - 8 by omega]
  · rw [wIc g1, wIc g2, wIc g1, wIc g2, wIc g1, wIc g2, wIc g1, wIc g2]
theorem m_app {σ : St} {c : Nat} {f : Nat → Int32} (a : Int32) (hc : c + 4 ≤ 700) (h : MT σ c f) : ∃ σ', fX8_laysWord a σ = some ((), σ') ∧ MT σ' (c + 4) (exF f c a) ∧ (∀ x y, x ≠ 8 → x ≠ 43 → σ'.1 x y = σ.1 x y) ∧ (∀ j, j ≠ 5 → σ'.1 8 0 j = σ.1 8 0 j) ∧ σ'.2 = σ.2 := by
  unfold fX8_laysWord
  obtain ⟨s, ⟨i1, i2, i3⟩, e⟩ := lp0 (fun m i (s : St) => LX8_laysWord_2 a (fun (σ2 : St) => lt (wI σ2 8 0 5 ((σ2.1 8 0 5) + (nI 4))) fun (σ3 : St) => some ((), σ3)) m (nI i) s) (fun s => some ((), wI s 8 0 5 (nI (c + 4)))) 4 (by omega)
    (fun i s => (∀ j, j < c + i → s.1 43 0 j = exF f c a j) ∧ (∀ x y, x ≠ 43 → s.1 x y = σ.1 x y) ∧ s.2 = σ.2) σ ⟨fun j hj => by rw [h.2 j (by omega)]; unfold exF; rw [if_pos (by omega)], fun _ _ _ => rfl, rfl⟩
    (fun m s hI => by
      rw [LX8_laysWord_2, if_pos (by rw [le_n (by omega) (by omega)]; exact Nat.le_refl _), ltD, hI.2.1 8 0 (by omega), h.1, add_n])
    (fun m i s hi hI => by
      obtain ⟨j1, j2, j3⟩ := hI
      rw [LX8_laysWord_2, if_neg (by rw [le_n (by omega) (by omega)]; omega), j2 8 0 (by omega), h.1, add_n, gi_n (by omega) (by omega), cl (by omega), ltD, mul_n, sub_n (by omega), add_n]
      refine ⟨_, ⟨fun j hj => ?_, fun x y g => (wIc g).trans (j2 x y g), ?_⟩, rfl⟩
      · by_cases q : j = c + i
        · subst q
          rw [wIe (by omega)]
          unfold exF
          rw [if_neg (by omega), show c + i - c = i by omega]
        · rw [wIj (by omega)]; exact j1 j (by omega)
      · exact j3)
  rw [nI_0] at e
  refine ⟨_, e, ⟨wIe (by omega), fun i hi => by rw [wIc (by omega)]; exact i1 i hi⟩, fun x y g1 g2 => by rw [wIc g1]; exact i2 x y g2, fun j g => by rw [wIj (by omega)]; rw [i2 8 0 (by omega)], i3⟩
theorem act_feed (p1 p2 p3 p4 p5 : Int32) : Act (fX7_feed p1 p2 p3 p4 p5) (fX8_feed p1 p2 p3 p4 p5) := by
  intro σ N h hN
  have hT := h.2.1
  obtain ⟨c, c1, c2, c3, c4⟩ := hT
  by_cases q : c ≤ 680
  · -- the bytes as they are
    have hCT : CT σ c (fun i => σ.1 43 0 i) := ⟨c2, fun i hi => by obtain ⟨v, -, v2, v3⟩ := c4 i hi; show σ.1 42 0 i &&& nI 255 = σ.1 43 0 i; rw [v2, v3]⟩
    obtain ⟨σ1, e1, t1, f1, g1⟩ := c_app p1 (by omega) hCT
    obtain ⟨σ2, e2, t2, f2, g2⟩ := c_app p2 (by omega) t1
    obtain ⟨σ3, e3, t3, f3, g3⟩ := c_app p3 (by omega) t2
    obtain ⟨σ4, e4, t4, f4, g4⟩ := c_app p4 (by omega) t3
    obtain ⟨σ5, e5, t5, f5, g5⟩ := c_app p5 (by omega) t4
    have cf : ∀ x y, x ≠ 6 → x ≠ 42 → σ5.1 x y = σ.1 x y := fun x y z1 z2 => by rw [f5 x y z1 z2, f4 x y z1 z2, f3 x y z1 z2, f2 x y z1 z2, f1 x y z1 z2]
    have cg : σ5.2 = σ.2 := by rw [g5, g4, g3, g2, g1]
    have hMT : MT (wI σ5 8 0 0 0) c (fun i => σ.1 43 0 i) := ⟨by rw [wIj (by omega), cf 8 0 (by omega) (by omega)]; exact c3, fun i hi => by rw [wIj (by omega), cf 43 0 (by omega) (by omega)]⟩
    obtain ⟨μ1, d1, u1, k1, l1, n1⟩ := m_app p1 (by omega) hMT
    obtain ⟨μ2, d2, u2, k2, l2, n2⟩ := m_app p2 (by omega) u1
    obtain ⟨μ3, d3, u3, k3, l3, n3⟩ := m_app p3 (by omega) u2
    obtain ⟨μ4, d4, u4, k4, l4, n4⟩ := m_app p4 (by omega) u3
    obtain ⟨μ5, d5, u5, k5, l5, n5⟩ := m_app p5 (by omega) u4
    have mf : ∀ x y, x ≠ 8 → x ≠ 43 → μ5.1 x y = σ5.1 x y := fun x y z1 z2 => by rw [k5 x y z1 z2, k4 x y z1 z2, k3 x y z1 z2, k2 x y z1 z2, k1 x y z1 z2, wIc z1]
    have ml : ∀ j, j ≠ 0 → j ≠ 5 → μ5.1 8 0 j = σ.1 8 0 j := fun j z1 z2 => by rw [l5 j z2, l4 j z2, l3 j z2, l2 j z2, l1 j z2, wIj (by omega), cf 8 0 (by omega) (by omega)]
    have mg : μ5.2 = σ.2 := by rw [n5, n4, n3, n2, n1]; exact cg
    have all : ∀ x y, x ≠ 6 → x ≠ 42 → x ≠ 8 → x ≠ 43 → μ5.1 x y = σ.1 x y := fun x y z1 z2 z3 z4 => by rw [mf x y z3 z4, cf x y z1 z2]
    refine ⟨nI (c + 4 + 4 + 4 + 4 + 4), σ5, μ5, ?_, ?_, ?_⟩
    · unfold fX7_feed fX6_hasRoom
      rw [c2, add_n, if_neg (by rw [lt_n (by omega) (by omega)]; omega), rz_1, bdS, if_neg (by decide), e1, bdS, e2, bdS, e3, bdS, e4, bdS, e5, bdS, t5.1]
    · unfold fX8_feed
      rw [ltD, hMT.1, if_pos (by rw [le_n (by omega) (by omega)]; exact q), d1, bdS, d2, bdS, d3, bdS, d4, bdS, d5, bdS, u5.1]
    · obtain ⟨⟨a1, a2, a3⟩, -, hD, ⟨b1, b2, b3⟩, hB⟩ := h
      refine ⟨⟨?_, ?_, fun z => ?_⟩, ⟨c + 4 + 4 + 4 + 4 + 4, by omega, ?_, u5.1, fun i hi => ?_⟩, hD.fr (by rw [all 1 0 (by omega) (by omega) (by omega) (by omega)]) (fun o => all 22 o (by omega) (by omega) (by omega) (by omega)), ⟨by rw [mg]; exact b1, by rw [mg]; exact b2, by rw [mg]; exact b3⟩, ?_⟩
      · rw [all 7 0 (by omega) (by omega) (by omega) (by omega), ml 1 (by omega) (by omega)]; exact a1
      · rw [all 7 0 (by omega) (by omega) (by omega) (by omega), ml 2 (by omega) (by omega)]; exact a2
      · rw [ml 1 (by omega) (by omega)] at z
        rw [all 7 0 (by omega) (by omega) (by omega) (by omega), ml 3 (by omega) (by omega)]; exact a3 z
      · rw [mf 6 0 (by omega) (by omega)]; exact t5.1
      · have x1 := u5.2 i hi
        have x2 : μ5.1 42 0 i &&& nI 255 = μ5.1 43 0 i := by rw [mf 42 0 (by omega) (by omega), t5.2 i hi, x1]
        by_cases z : i < c
        · obtain ⟨v, v1, v2, v3⟩ := c4 i z
          have e : μ5.1 43 0 i = nI v := by
            rw [x1]
            unfold exF
            rw [if_pos (by omega), if_pos (by omega), if_pos (by omega), if_pos (by omega), if_pos z]
            exact v2
          exact ⟨v, v1, e, by rw [x2, e]⟩
        · have hx : ∃ y : Int32, μ5.1 43 0 i = y &&& nI 255 := by
            rw [x1]
            unfold exF
            split
            · split
              · split
                · split
                  · exact ⟨_, rfl⟩
                  · exact ⟨_, rfl⟩
                · exact ⟨_, rfl⟩
              · exact ⟨_, rfl⟩
            · exact ⟨_, rfl⟩
          obtain ⟨y, hy⟩ := hx
          obtain ⟨v, v1, v2⟩ := byte_v y
          exact ⟨v, v1, by rw [hy, v2], by rw [x2, hy, v2]⟩
      · rcases hB with ⟨z1, z2, z3, z4, z5⟩ | ⟨z1, z2, u, t, s, a, z3, z4, z5, z6⟩
        · exact Or.inl ⟨by rw [all 7 0 (by omega) (by omega) (by omega) (by omega)]; exact z1, by rw [ml 9 (by omega) (by omega)]; exact z2, by rw [all 7 0 (by omega) (by omega) (by omega) (by omega)]; exact z3, by rw [ml 21 (by omega) (by omega)]; exact z4, fun l hl => by rw [all 47 0 (by omega) (by omega) (by omega) (by omega)]; exact z5 l hl⟩
        · obtain ⟨k1, k2, k3, k4, k5⟩ := z5
          refine Or.inr ⟨by rw [all 7 0 (by omega) (by omega) (by omega) (by omega)]; exact z1, by rw [ml 9 (by omega) (by omega)]; exact z2, u, t, s, a, by omega, by omega, ⟨k1, by rw [mg]; exact k2, k3.fr (all 44 0 (by omega) (by omega) (by omega) (by omega)), ?_, k5⟩, ?_⟩
          · rw [all 47 0 (by omega) (by omega) (by omega) (by omega)]
            exact k4.fr (fun x y g => all x y (by omega) (by omega) (by omega) (by omega)) (by rw [mg])
          · unfold KpT
            rw [all 7 0 (by omega) (by omega) (by omega) (by omega), ml 21 (by omega) (by omega)]
            rcases z6 with y | ⟨y1, y2, t', s', a', y3, y4, y5, y6, y7⟩
            · exact Or.inl y
            · refine Or.inr ⟨y1, y2, t', s', a', by omega, by omega, by rw [mg]; exact y5, ?_, y7⟩
              rw [all 49 0 (by omega) (by omega) (by omega) (by omega)]
              exact y6.fr (fun x y g => all x y (by omega) (by omega) (by omega) (by omega)) (by rw [mg])
  · refine ⟨-1, σ, wI σ 8 0 0 0, ?_, ?_, h.w0 0⟩
    · unfold fX7_feed fX6_hasRoom
      rw [c2, add_n, if_pos (by rw [lt_n (by omega) (by omega)]; omega), rz_0, bdS, if_pos rfl]
    · unfold fX8_feed
      rw [ltD, wIj (by omega), c3, if_neg (by rw [le_n (by omega) (by omega)]; exact q)]
