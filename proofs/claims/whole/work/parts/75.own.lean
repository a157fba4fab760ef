/-! ===== names of boards; a number that no board has yet ===== -/
theorem vB_32 {l : List Nat} (h : Lt l) (hl : l.length ≤ 6) : vB 32 l < 2 ^ 31 := by
  have h1 := vB_lt (B := 32) (by omega) h
  have h2 : 32 ^ l.length ≤ 32 ^ 6 := Nat.pow_le_pow_right (by omega) hl
  have h3 : 32 ^ 6 < 2 ^ 31 := by decide
  omega
theorem m_spelt {σ : St} {T : Nat → Nat} {n q : Nat} (hX : MX σ T n) (h : MK σ T n q) (hk : tkK T n q = 1) : fX8_spelt σ = some (lN (vB 32 (wr T q (tkE T n q - q))), σ) := by
  obtain ⟨h12, h11, h13, h14⟩ := h
  obtain ⟨w1, w2, w3, w4, w5⟩ := tk_word hk
  have hn := hX.n7
  unfold fX8_spelt
  rw [ltD, ltD, h11]
  obtain ⟨x, i1, e⟩ := lp0 (fun m i (x : Int64) => LX8_spelt_7 (fun (y4 : Int64) (σ5 : St) => some (y4, σ5)) m x (nI (q + i)) σ) (fun x => some (x, σ)) (tkE T n q - q) (by omega) (fun i x => x = lN (vB 32 (wr T q i))) 0 rfl
    (fun m x _ => by
      rw [LX8_spelt_7, h12, if_pos (by rw [le_n (by omega) (by omega)]; omega)])
    (fun m i x hi hI => by
      obtain ⟨x1, x2⟩ := hX.2.2 (q + i) (by omega)
      have hL := of_decide_eq_true (w5 i hi)
      refine ⟨_, rfl, ?_⟩
      rw [LX8_spelt_7, h12, if_neg (by rw [le_n (by omega) (by omega)]; omega), gi_n (by omega) (by omega), cl (by omega), x1, ltD, hI, nI_l (by omega), show (32 : Int64) = lN 32 from rfl, show (96 : Int64) = lN 96 from rfl, lN_mul, lN_add, lN_sub (by omega), add_n, wr, vB, Nat.add_assoc q i 1, Nat.mul_comm 32, Nat.add_sub_assoc (by omega)])
  rw [Nat.add_zero q] at e
  rw [e, i1]
/-- which board has this name -/
def hasW (Ws : Nat → List Nat) (W : List Nat) (b : Nat) : Bool := decide (Ws b = W)
theorem m_here {σ : St} {T : Nat → Nat} {n q nb : Nat} {Ws : Nat → List Nat} (hX : MX σ T n) (h : MK σ T n q) (hk : tkK T n q = 1) (h3 : σ.1 45 0 3 = nI nb) (hn : nb ≤ 6) (hW : WOk Ws nb) (h46 : ∀ b, b < nb → σ.2.1 46 0 b = lN (vB 32 (Ws b))) : fX8_boardHere σ = some (ov (fsN (hasW Ws (wr T q (tkE T n q - q))) nb), σ) := by
  obtain ⟨w1, w2, w3, w4, w5⟩ := tk_word hk
  have hWt := wr_lt _ w5
  have hsp := m_spelt hX h hk
  unfold fX8_boardHere
  have := lpF (fun m i => LX8_boardHere_2 (fun (σ3 : St) => some ((-1), σ3)) m (nI i) σ) (some (-1, σ)) (fun i => some (nI i, σ)) (hasW Ws (wr T q (tkE T n q - q))) nb (by omega)
    (fun m => by
      rw [LX8_boardHere_2, gi_n (by omega) (by omega), cl (by omega), h3, if_pos (by rw [le_n (by omega) (by omega)]; exact Nat.le_refl _)])
    (fun m i hi => by
      obtain ⟨l1, l2⟩ := hW i hi
      rw [LX8_boardHere_2, gi_n (by omega) (by omega), cl (by omega), h3, if_neg (by rw [le_n (by omega) (by omega)]; omega), gi_n (by omega) (by omega), hsp, bdS, cl (by omega), h46 i hi, add_n]
      by_cases z : Ws i = wr T q (tkE T n q - q)
      · rw [if_pos ((lg_cmp_eq _ _).mpr (by rw [z])), if_pos (show hasW Ws _ i = true from decide_eq_true z)]
      · rw [if_neg (fun y => z (vB_inj (by omega) l1 hWt ((lN_eq (vB_32 l1 l2) (vB_32 hWt (by rw [wr_len]; exact w4))).mp ((lg_cmp_eq _ _).mp y)))), if_neg (show ¬ hasW Ws _ i = true from fun y => z (of_decide_eq_true y))])
  rw [nI_0] at this
  rw [this]
  cases fsN (hasW Ws (wr T q (tkE T n q - q))) nb <;> rfl
theorem c_here {σ : St} {T : Nat → Nat} {n q nb P : Nat} {Ws : Nat → List Nat} (h : CK σ T n q) (hk : tkK T n q = 1) (h3 : σ.1 2 P 3 = nI nb) (hn : nb ≤ 6) (hW : WOk Ws nb) (h23 : ∀ b, b < nb → σ.1 23 P b = nI (vB 27 (Ws b))) : fX2_boardOfName P (σ.1 3 0 8) σ = some (ov (fsN (hasW Ws (wr T q (tkE T n q - q))) nb), σ) := by
  obtain ⟨w1, w2, w3, w4, w5⟩ := tk_word hk
  have hWt := wr_lt _ w5
  unfold fX2_boardOfName
  rw [c_find (f := hasW Ws (wr T q (tkE T n q - q))) h3 hn rfl (fun b hb => ?_), bdS]
  obtain ⟨l1, l2⟩ := hW b hb
  rw [h23 b hb, h.2.2.2.1 hk, eq_n (vB_31 l1 l2) (vB_31 hWt (by rw [wr_len]; exact w4))]
  exact ⟨fun z => decide_eq_true (vB_inj (by omega) l1 hWt z), fun z => by rw [of_decide_eq_true z]⟩
theorem ov_ne {f : Nat → Bool} {n b : Nat} (hn : n ≤ 6) (h : fsN f n = some b) : ¬ ov (fsN f n) = -1 := by
  rw [h]
  have := (fsN_spec h).1
  have key : ∀ b, b < 6 → ¬ nI b = -1 := by decide
  exact key b (by omega)
/-- a keyword and a number that no board has yet -/
theorem k_own {P : Nat} {σ0 σm0 σ σm : St} {T : Nat → Nat} {n p s lo hi at_ nb c1 : Nat} {V : Nat → Nat} {lo' a' : Int32} (hs : s < 9) (hlo : lo' = nI lo) (ha' : a' = nI at_) (h1 : lo < 2147483648) (h2 : hi < 1000) (ha : at_ + nb < 59) (hn : nb ≤ 6) (hc1 : aln c1 = 6) (hc3 : ¬ c1 = 3) (h : SY σ σm T n p) (hc : FC P σ0 σ) (hm : FM σm0 σm) (h3 : σ.1 2 P 3 = nI nb) (hV : ∀ b, b < nb → σ.1 c1 P b = nI (V b) ∧ lo ≤ V b ∧ V b ≤ hi) (m3 : σm.1 45 0 3 = nI nb) (mV : ∀ b, b < nb → σm.1 45 0 (at_ + b) = nI (V b)) :
    (∃ σf σmf, FlS P σ0 σm0 σf σmf ∧ fX8_laysOwn s a' lo' (nI hi) σm = some (0, σmf) ∧ (fX3_keyword s σ = some (0, σf) ∨ ∃ σ1, fX3_keyword s σ = some (nI 1, σ1) ∧ (fX3_whole lo' (nI hi) σ1 = some (0, σf) ∨ ∃ σ2 x, fX3_whole lo' (nI hi) σ1 = some (nI 1, σ2) ∧ F3 σ σ2 ∧ fX2_find P c1 P (σ2.1 3 0 8) σ2 = some (x, σ2) ∧ ¬ x = -1 ∧ fX3_fail (nI 3) σ2 = some (0, σf)))) ∨
    ∃ σ1 σ' σm' v p', fX3_keyword s σ = some (nI 1, σ1) ∧ fX3_whole lo' (nI hi) σ1 = some (nI 1, σ') ∧ fX2_find P c1 P (σ'.1 3 0 8) σ' = some (-1, σ') ∧ fX8_laysOwn s a' lo' (nI hi) σm = some (nI 1, σm') ∧ lo ≤ v ∧ v ≤ hi ∧ (∀ b, b < nb → V b ≠ v) ∧ F3 σ σ' ∧ σ'.1 3 0 8 = nI v ∧ G45 σm σm' (at_ + nb) v ∧ SY σ' σm' T n p' ∧ p ≤ p' := by
  subst ha'
  unfold fX8_laysOwn
  rcases k_key hs h hc hm with ⟨g1, r, g2, g3⟩ | ⟨σ1, g1, g2, g3, g4⟩
  · left
    obtain ⟨σf, σmf, x1, x2, x3⟩ := g3.s
    cases x1
    refine ⟨r, σmf, x3, ?_, Or.inl g2⟩
    rw [g1, bdS, if_pos rfl, x2, bdS, rz_0]
  · obtain ⟨σm1, y1, y2, y3⟩ := sk_go g3
    have tE : ∀ q, q ≤ tkE T n q := fun q => by
      unfold tkE
      split
      · omega
      · split
        · exact runN_ge _ _ _
        · split
          · exact runN_ge _ _ _
          · omega
    have hp := tE (tkQ T n p)
    have hp2 := tkQ_ge T n p
    have e3 : σm1.1 45 0 3 = nI nb := by rw [y2.1 45 0 (by omega)]; exact m3
    have eV : ∀ b, b < nb → σm1.1 45 0 (at_ + b) = nI (V b) := fun b hb => by rw [y2.1 45 0 (by omega)]; exact mV b hb
    rw [g4, bdS, if_neg (show ¬ nI 1 = 0 by decide), y1, bdS]
    have L := lpF (fun m i => LX8_laysOwn_21 (nI at_) lo' (nI hi) (fun (σ7 : St) => gi (nI 3) 59 <| bd (fX8_lays (nI at_ + (σ7.1 45 0 (nI 3).toNatClampNeg)) lo' (nI hi) σ7) fun (r9 : Int32) (σ8 : St) => rz r9 σ8) m (nI i) σm1) (bd (fX8_lays (nI (at_ + nb)) lo' (nI hi) σm1) fun (r9 : Int32) (σ8 : St) => rz r9 σ8) (fun _ => some (0, wI (wI σm1 8 0 15 (nI 3)) 8 0 16 (σm1.1 8 0 11))) (fun b => decide (σm1.1 8 0 13 = nI 3 ∧ nI (V b) = σm1.1 8 0 14)) nb (by omega)
      (fun m => by
        rw [LX8_laysOwn_21, gi_n (by omega) (by omega), cl (by omega), e3, if_pos (by rw [le_n (by omega) (by omega)]; exact Nat.le_refl _), gi_n (by omega) (by omega), add_n])
      (fun m i hi' => by
        rw [LX8_laysOwn_21, gi_n (by omega) (by omega), cl (by omega), e3, if_neg (by rw [le_n (by omega) (by omega)]; omega)]
        simp only [jnD]
        rw [add_n, gi_n (by omega) (by omega), cl (by omega), eV i hi', m_fail, bdS, rz_0, add_n]
        by_cases z1 : σm1.1 8 0 13 = nI 3
        · rw [if_pos z1]
          by_cases z2 : nI (V i) = σm1.1 8 0 14
          · rw [if_pos z2, if_pos (decide_eq_true ⟨z1, z2⟩)]
          · rw [if_neg z2, if_neg (fun y => z2 (of_decide_eq_true y).2)]
        · rw [if_neg z1, if_neg (fun y => z1 (of_decide_eq_true y).1)])
    rw [nI_0] at L
    rw [L]
    obtain ⟨σ2, f2, s2, r2⟩ := c_whole (hi := hi) hlo h1 (by omega) y3
    have hk := kM_eq _ (tkK_le T n (tkQ T n (tkE T n (tkQ T n p))))
    have h13 := s2.2.2.2.2.2.2.2.1
    have fF := g2.tr f2
    have hfind : ∀ v, v < 1000 → σ2.1 3 0 8 = nI v → fX2_find P c1 P (σ2.1 3 0 8) σ2 = some (ov (fsN (fun b => decide (V b = v)) nb), σ2) := fun v hv e8 => by
      refine c_find (f := fun b => decide (V b = v)) (by rw [fF.1 2 P (by omega)]; exact h3) hn hc1 (fun b hb => ?_)
      rw [fF.1 c1 P (by omega), (hV b hb).1, e8, eq_n (by have := (hV b hb).2.2; omega) (by omega)]
      exact ⟨fun z => decide_eq_true z, fun z => of_decide_eq_true z⟩
    cases hF : fsN (fun b => decide (σm1.1 8 0 13 = nI 3 ∧ nI (V b) = σm1.1 8 0 14)) nb with
    | some b =>
      left
      obtain ⟨hb, hbt⟩ := fsN_spec hF
      obtain ⟨t1, t2⟩ := of_decide_eq_true hbt
      have t3 : tkK T n (tkQ T n (tkE T n (tkQ T n p))) = 2 := hk.2.1.mp (h13.symm.trans t1)
      rcases r2 with ⟨g1', -⟩ | ⟨v, -, v1, v2, v3, v4⟩
      · exact absurd t3 g1'
      · have hVb := hV b hb
        have ev : V b = v := by
          rw [v3, eq_n (by omega) (by omega)] at t2
          exact t2
        rcases v4 with ⟨b1, b2, b3⟩ | ⟨b1, -⟩
        · obtain ⟨σf, σmf, x1, x2, x3⟩ := (sk_fail (k := 3) s2 ((hc.tr g2.fc).tr f2.fc) (hm.tr y2.fm) (by omega)).s
          refine ⟨σf, σmf, x3, x2, Or.inr ⟨σ1, g1, Or.inr ⟨σ2, _, b3, fF, hfind v v1 v2, ?_, by rw [c_fail]; exact x1⟩⟩⟩
          cases hG : fsN (fun b => decide (V b = v)) nb with
          | none => exact absurd (decide_eq_true ev) (fsN_no hG b hb)
          | some b' => rw [← hG]; exact ov_ne hn hG
        · exact absurd ⟨by omega, by omega⟩ b1
    | none =>
      rcases k_whole (hi := hi) hlo rfl h1 (by omega) ha y3 (hc.tr g2.fc) (hm.tr y2.fm) with z | ⟨σ', σm', v, z1, z2, z3, z4, z5, z6, z7, z8, z9⟩
      · left
        obtain ⟨σf, σmf, x1, x2, x3⟩ := z.s
        refine ⟨σf, σmf, x3, ?_, Or.inr ⟨σ1, g1, Or.inl x1⟩⟩
        show bd (fX8_lays (nI (at_ + nb)) lo' (nI hi) σm1) _ = _
        rw [x2, bdS, rz_0]
      · right
        rcases r2 with ⟨-, g2'⟩ | ⟨v', t3, v1, v2, v3, v4⟩
        · rw [g2'] at z1
          exact absurd (congrArg Prod.fst (Option.some.inj z1)) (show ¬ (0 : Int32) = nI 1 by decide)
        · rcases v4 with ⟨b1, b2, b3⟩ | ⟨b1, b3⟩
          · have es : σ2 = σ' := congrArg Prod.snd (Option.some.inj (b3.symm.trans z1))
            subst es
            have ev : v' = v := by
              have := v2.symm.trans z7
              rw [eq_n (by omega) (by omega)] at this
              exact this
            subst ev
            have hno : ∀ b, b < nb → V b ≠ v' := fun b hb e => fsN_no hF b hb (decide_eq_true ⟨by rw [h13]; exact hk.2.1.mpr t3, by rw [v3, e]⟩)
            refine ⟨σ1, σ2, σm', v', _, g1, z1, ?_, ?_, z3, z4, hno, fF, z7, g45_of y2 z8, z9, ?_⟩
            · rw [hfind v' v1 v2]
              cases hG : fsN (fun b => decide (V b = v')) nb with
              | none => rfl
              | some b' => exact absurd (of_decide_eq_true (fsN_spec hG).2) (hno b' (fsN_spec hG).1)
            · show bd (fX8_lays (nI (at_ + nb)) lo' (nI hi) σm1) _ = _
              rw [z2, bdS, rz_1]
            · have a1 := tkQ_ge T n (tkE T n (tkQ T n p))
              have a2 := tE (tkQ T n (tkE T n (tkQ T n p)))
              omega
          · rw [b3] at z1
            exact absurd (congrArg Prod.fst (Option.some.inj z1)) (show ¬ (0 : Int32) = nI 1 by decide)
