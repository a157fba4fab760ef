/-! ===== never, on both sides ===== -/
/-- never was master -/
def nvB (r : Nat → Int32) (b : Nat) : Bool := decide (r (18 + 12 * b + 6) = 0)
theorem neg1 {x : Nat} (h : 1 ≤ x) : nI x + (-1) = nI (x - 1) := by
  obtain ⟨b, rfl⟩ : ∃ b, x = b + 1 := ⟨x - 1, by omega⟩
  rw [← add_n, Int32.add_assoc, show nI 1 + (-1) = 0 from by decide, add_0, Nat.add_sub_cancel]
theorem c_acc {σ : St} {b : Nat} (hb : b < 6) : fX5_account 0 (nI b) 0 σ = some (σ.1 38 b 0, σ) := by
  have key : ∀ b, b < 6 → ¬ fX5_isAccount (nI b) 0 = 0 := by decide
  unfold fX5_account
  rw [if_neg (key b hb), gi_n hb (by omega), gi_0 (by omega), cl (by omega), show 6 * 0 + b = b by omega]
  rfl
theorem c_nevers {u : BU} {σ : St} {t s a i : Nat} (hT : Told u σ t s a) (hi : i < 2147483648) : ∃ o, NvS (uN u) (uS u) (nvB (σ.1 47 0)) i o ∧ fX4_neverMaster 0 (nI i) σ = some (ov o, σ) := by
  obtain ⟨hu, hP, hM, ⟨d, ⟨P, hP', hB, hPu⟩, h1, h2, h3, h4, h5, h6, h7, h8, h9, -⟩, -⟩ := hT
  have hn := hu.n6
  unfold fX4_neverMaster
  have L := lpE0 (fun m j (s : Int32) => LX4_neverMaster_4 0 (fun (σ11 : St) => some ((-1), σ11)) m s (nI j) σ) 10 (by omega)
    (fun j s => bl (uN u) (uS u) (nvB (σ.1 47 0)) j ≤ i ∧ s = nI (i - bl (uN u) (uS u) (nvB (σ.1 47 0)) j))
    (fun x => ∃ o, NvS (uN u) (uS u) (nvB (σ.1 47 0)) i o ∧ x = some (ov o, σ)) (nI i)
    (by
      have h0 : bl (uN u) (uS u) (nvB (σ.1 47 0)) 0 = 0 := by
        have : ∀ m, cN (fun c => nvB (σ.1 47 0) c && decide (uS u c < 0)) m = 0 := by
          intro m
          induction m with
          | zero => rfl
          | succ m ih => rw [cN, ih, if_neg (by simp)]
        exact this _
      rw [h0]
      exact ⟨by omega, by rw [Nat.sub_zero]⟩)
    (fun m s hI => by
      rw [LX4_neverMaster_4, if_pos (by rw [le_n (by omega) (by omega)]; exact Nat.le_refl _)]
      refine ⟨none, Or.inl ⟨rfl, ?_⟩, rfl⟩
      have := hI.1
      refine Nat.le_trans (cN_le (fun c hc z => ?_)) this
      simp only [Bool.and_eq_true, decide_eq_true_eq]
      exact ⟨z, hu.s c hc⟩)
    (fun m j s hj hI => by
      obtain ⟨j1, rfl⟩ := hI
      have hf := c_find (σ := σ) (P := P) (c1 := 24) (k1 := P) (n := uN u) (p := nI j) (f := fun b => decide (uS u b = j)) hB.2.2.2.2.1 hn rfl (fun b hb => by
        have := hu.s b hb
        rw [(hB.2.2.2.2.2.2.1 b hb).1, eq_n (by omega) (by omega)]
        exact ⟨fun z => decide_eq_true z, fun z => of_decide_eq_true z⟩)
      have hsl : fX2_boardOfSlot P (nI j) σ = some (ov (fsN (fun b => decide (uS u b = j)) (uN u)), σ) := by unfold fX2_boardOfSlot; rw [hf, bdS]
      rw [LX4_neverMaster_4, if_neg (by rw [le_n (by omega) (by omega)]; omega), hP', gd_t hB.1, hsl, bdS, hP', gd_t hB.1]
      cases hh : fsN (fun b => decide (uS u b = j)) (uN u) with
      | none =>
        have hno := fsN_no hh
        have e0 : fX2_holds P (-1) σ = some (0, σ) := by unfold fX2_holds; rw [if_pos m1_lt0]; rfl
        rw [ov_none, e0, bdS, jnD, if_pos rfl, add_n]
        left
        refine ⟨_, ?_, rfl⟩
        rw [bl_no (fun c hc _ y => hno c hc (decide_eq_true y))]
        exact ⟨j1, rfl⟩
      | some b =>
        obtain ⟨hb, hbs⟩ := fsN_spec hh
        have hbs := of_decide_eq_true hbs
        have h38 : σ.1 38 b 0 = σ.1 47 0 (18 + 12 * b + 6) := by
          have := (h9 b hb).1 0 (by omega)
          rw [show 6 * 0 + b = b by omega] at this
          exact this
        rw [ov_some, c_holds hB.2.2.2.2.1 hb hn, bdS, jnD, if_neg (by decide), c_acc (by omega), bdS, h38, add_n]
        by_cases z : σ.1 47 0 (18 + 12 * b + 6) = 0
        · have hv : nvB (σ.1 47 0) b = true := decide_eq_true z
          have hy := bl_yes (S := uS u) hu.sd hb hv
          rw [hbs] at hy
          rw [if_pos z]
          by_cases y : bl (uN u) (uS u) (nvB (σ.1 47 0)) j = i
          · right
            rw [if_pos (by rw [y, Nat.sub_self, nI_0])]
            exact ⟨some b, Or.inr ⟨b, rfl, hb, hv, by rw [hbs]; exact y⟩, rfl⟩
          · left
            rw [if_neg (by rw [← nI_0, eq_n (by omega) (by omega)]; omega), neg1 (by omega)]
            exact ⟨_, ⟨by omega, by rw [hy]; congr 1⟩, rfl⟩
        · left
          rw [if_neg z]
          have hno : bl (uN u) (uS u) (nvB (σ.1 47 0)) (j + 1) = bl (uN u) (uS u) (nvB (σ.1 47 0)) j := bl_no (fun c hc hv y => z (by
            have : c = b := hu.sd c b hc hb (by omega)
            rw [this] at hv
            exact of_decide_eq_true hv))
          exact ⟨_, by rw [hno]; exact ⟨j1, rfl⟩, rfl⟩)
  rw [nI_0] at L
  obtain ⟨o, o1, o2⟩ := L
  exact ⟨o, o1, o2⟩
/-- the board of a rank -/
theorem m_bySlot {u : BU} {σ : St} {r : Nat} (hu : UOk u) (hM : BM σ u) (hr : r < uN u) : ∃ b, b < uN u ∧ bl (uN u) (uS u) (fun _ => true) (uS u b) = r ∧ fX8_bySlot (nI r) σ = some (nI b, σ) := by
  have hn := hu.n6
  obtain ⟨m1, m2, m3, m4, m5, m6, m7⟩ := hM
  have inner : ∀ (b : Nat), b < uN u → ∀ ke : Int32 → St → Option (Int32 × St), LX8_bySlot_17 (nI r) (nI b) ke FU 0 0 σ = ke (nI (bl (uN u) (uS u) (fun _ => true) (uS u b))) σ := fun b hb ke => by
    obtain ⟨x, i1, e⟩ := lp0 (fun m i (x : Int32) => LX8_bySlot_17 (nI r) (nI b) ke m x (nI i) σ) (fun x => ke x σ) (uN u) (by omega) (fun i x => x = nI (cN (fun c => (fun _ => true) c && decide (uS u c < uS u b)) i)) 0 nI_0.symm
      (fun m x _ => by
        rw [LX8_bySlot_17, gi_n (by omega) (by omega), cl (by omega), m4, if_pos (by rw [le_n (by omega) (by omega)]; exact Nat.le_refl _)])
      (fun m i x hi hI => by
        have sb := hu.s b hb
        have si := hu.s i hi
        refine ⟨_, rfl, ?_⟩
        rw [LX8_bySlot_17, gi_n (by omega) (by omega), cl (by omega), m4, if_neg (by rw [le_n (by omega) (by omega)]; omega), add_n, add_n, gi_n (by omega) (by omega), gi_n (by omega) (by omega), ltD, cl (by omega), cl (by omega), (m6 b hb).1, (m6 i hi).1, add_n, hI, cN]
        by_cases z : uS u i < uS u b
        · rw [if_neg (by rw [le_n (by omega) (by omega)]; omega), if_pos (by simp [z]), add_n]
        · rw [if_pos (by rw [le_n (by omega) (by omega)]; omega), if_neg (by simp [z]), add_0, Nat.add_zero (cN _ _)])
    rw [nI_0] at e
    rw [e, i1]
    rfl
  have L := lpF (fun m i => LX8_bySlot_2 (nI r) (fun (σ7 : St) => some ((-1), σ7)) m (nI i) σ) (some (-1, σ)) (fun i => some (nI i, σ)) (fun b => decide (bl (uN u) (uS u) (fun _ => true) (uS u b) = r)) (uN u) (by omega)
    (fun m => by
      rw [LX8_bySlot_2, gi_n (by omega) (by omega), cl (by omega), m4, if_pos (by rw [le_n (by omega) (by omega)]; exact Nat.le_refl _)])
    (fun m i hi => by
      have hk := cN_n (fun c => (fun _ => true) c && decide (uS u c < uS u i)) (uN u)
      have hk' : bl (uN u) (uS u) (fun _ => true) (uS u i) ≤ uN u := hk
      rw [LX8_bySlot_2, gi_n (by omega) (by omega), cl (by omega), m4, if_neg (by rw [le_n (by omega) (by omega)]; omega), inner i hi, add_n]
      by_cases z : bl (uN u) (uS u) (fun _ => true) (uS u i) = r
      · rw [if_pos (by rw [z]), if_pos (decide_eq_true z)]
      · rw [if_neg (by rw [eq_n (by omega) (by omega)]; exact z), if_neg (fun y => z (of_decide_eq_true y))])
  rw [nI_0] at L
  cases hF : fsN (fun b => decide (bl (uN u) (uS u) (fun _ => true) (uS u b) = r)) (uN u) with
  | none =>
    obtain ⟨b, b1, b2⟩ := rk_ex (S := uS u) hu.sd hu.s hr
    exact absurd (decide_eq_true b2) (fsN_no hF b b1)
  | some b =>
    obtain ⟨hb, hbt⟩ := fsN_spec hF
    refine ⟨b, hb, of_decide_eq_true hbt, ?_⟩
    unfold fX8_bySlot
    rw [L, hF]
/-- what the model answers -/
def nvR (σ : St) (o : Option Nat) : Option (Int32 × St) := match o with
  | none => some (0, wI (wI σ 8 0 0 0) 8 0 0 (nI 1))
  | some b => some (nI b, wI σ 8 0 0 0)
theorem m_nevers {u : BU} {σ : St} {t s a : Nat} {p : Int32} (hT : Told u σ t s a) (h9 : σ.1 8 0 9 = nI 1) : (∀ i, p = nI i → i < 2147483648 → ∃ o, NvS (uN u) (uS u) (nvB (σ.1 47 0)) i o ∧ fX8_never p σ = nvR σ o) ∧ (p < 0 → fX8_never p σ = nvR σ none) := by
  obtain ⟨hu, hP, hM, -, -⟩ := hT
  have hn := hu.n6
  have hM1 : BM (wI σ 8 0 0 0) u := hM.fr (wIc (by omega))
  have e9 : (wI σ 8 0 0 0).1 8 0 9 = nI 1 := (wIj (by omega)).trans h9
  have e47 : (wI σ 8 0 0 0).1 47 0 = σ.1 47 0 := wIc (by omega)
  have hmr : ∀ b c, b < uN u → c < uN u → (bl (uN u) (uS u) (fun _ => true) (uS u c) < bl (uN u) (uS u) (fun _ => true) (uS u b) ↔ uS u c < uS u b) := fun b c hb hc => by
    constructor
    · intro z
      by_cases q : uS u c < uS u b
      · exact q
      · have := bl_mono (n := uN u) (S := uS u) (f := fun _ => true) (show uS u b ≤ uS u c by omega)
        omega
    · exact fun z => bl_lt hu.sd hc rfl z
  -- the count before a rank
  have hcnt : ∀ r b, b < uN u → bl (uN u) (uS u) (fun _ => true) (uS u b) = r → cN (fun c => nvB (σ.1 47 0) c && decide (bl (uN u) (uS u) (fun _ => true) (uS u c) < r)) (uN u) = bl (uN u) (uS u) (nvB (σ.1 47 0)) (uS u b) := fun r b hb e => cN_eq (fun c hc => by
    simp only [Bool.and_eq_true, decide_eq_true_eq]
    rw [← e, hmr b c hb hc])
  have hstep : ∀ r b, b < uN u → bl (uN u) (uS u) (fun _ => true) (uS u b) = r → cN (fun c => nvB (σ.1 47 0) c && decide (bl (uN u) (uS u) (fun _ => true) (uS u c) < r + 1)) (uN u) = cN (fun c => nvB (σ.1 47 0) c && decide (bl (uN u) (uS u) (fun _ => true) (uS u c) < r)) (uN u) + if nvB (σ.1 47 0) b = true then 1 else 0 := fun r b hb e => by
    have hne : ∀ c, c < uN u → c ≠ b → bl (uN u) (uS u) (fun _ => true) (uS u c) ≠ r := fun c hc hcb z => by
      by_cases q : uS u c < uS u b
      · have := (hmr b c hb hc).mpr q; omega
      · by_cases q' : uS u b < uS u c
        · have := (hmr c b hc hb).mpr q'; omega
        · exact hcb (hu.sd c b hc hb (by omega))
    by_cases v : nvB (σ.1 47 0) b = true
    · rw [if_pos v]
      refine cN_one hb ?_ ?_ (fun c hc hcb => ?_)
      · simp [e]
      · simp [v, e]
      · simp only [Bool.and_eq_true, decide_eq_true_eq]
        have := hne c hc hcb
        exact ⟨fun z => ⟨z.1, by omega⟩, fun z => ⟨z.1, by omega⟩⟩
    · rw [if_neg v, Nat.add_zero (cN _ _)]
      refine cN_eq (fun c hc => ?_)
      simp only [Bool.and_eq_true, decide_eq_true_eq]
      by_cases q : c = b
      · subst q
        exact ⟨fun z => absurd z.1 v, fun z => absurd z.1 v⟩
      · have := hne c hc q
        exact ⟨fun z => ⟨z.1, by omega⟩, fun z => ⟨z.1, by omega⟩⟩
  have hz : cN (fun c => nvB (σ.1 47 0) c && decide (bl (uN u) (uS u) (fun _ => true) (uS u c) < 0)) (uN u) = 0 := by
    have : ∀ m, cN (fun c => nvB (σ.1 47 0) c && decide (bl (uN u) (uS u) (fun _ => true) (uS u c) < 0)) m = 0 := by
      intro m
      induction m with
      | zero => rfl
      | succ m ih => rw [cN, ih, if_neg (by simp)]
    exact this _
  have hend : cN (nvB (σ.1 47 0)) (uN u) ≤ cN (fun c => nvB (σ.1 47 0) c && decide (bl (uN u) (uS u) (fun _ => true) (uS u c) < uN u)) (uN u) := cN_le (fun c hc z => by
    simp only [Bool.and_eq_true, decide_eq_true_eq]
    refine ⟨z, ?_⟩
    have h1 := bl_lt (f := fun _ => true) hu.sd hc rfl (show uS u c < uS u c + 1 by omega)
    have h2 := cN_n (fun d => (fun _ => true) d && decide (uS u d < uS u c + 1)) (uN u)
    have h2' : bl (uN u) (uS u) (fun _ => true) (uS u c + 1) ≤ uN u := h2
    omega)
  have hle : ∀ r, cN (fun c => nvB (σ.1 47 0) c && decide (bl (uN u) (uS u) (fun _ => true) (uS u c) < r)) (uN u) ≤ 6 := fun r => Nat.le_trans (cN_n _ _) hn
  have loop : ∀ (R : Option (Int32 × St) → Prop) (I : Nat → Prop), I 0 → (I (uN u) → R (nvR σ none)) → (∀ r b, r < uN u → b < uN u → I r → bl (uN u) (uS u) (fun _ => true) (uS u b) = r → nvB (σ.1 47 0) b = true → nI (cN (fun c => nvB (σ.1 47 0) c && decide (bl (uN u) (uS u) (fun _ => true) (uS u c) < r)) (uN u)) = p → R (nvR σ (some b))) → (∀ r b, r < uN u → b < uN u → I r → bl (uN u) (uS u) (fun _ => true) (uS u b) = r → (nvB (σ.1 47 0) b = true → ¬ nI (cN (fun c => nvB (σ.1 47 0) c && decide (bl (uN u) (uS u) (fun _ => true) (uS u c) < r)) (uN u)) = p) → I (r + 1)) → R (fX8_never p σ) := fun R I i0 ie iy is => by
    unfold fX8_never
    rw [ltD]
    have L := lpE0 (fun m j (s : Int32) => LX8_never_9 p (fun (σ6 : St) => lt (wI σ6 8 0 0 (nI 1)) fun (σ7 : St) => some (0, σ7)) m s (nI j) (wI σ 8 0 0 0)) (uN u) (by omega)
      (fun j s => I j ∧ s = nI (cN (fun c => nvB (σ.1 47 0) c && decide (bl (uN u) (uS u) (fun _ => true) (uS u c) < j)) (uN u))) R 0 ⟨i0, by rw [hz, nI_0]⟩
      (fun m s hI => by
        rw [LX8_never_9, e9, if_neg (show ¬ nI 1 = 0 by decide), gi_n (by omega) (by omega), cl (by omega), hM1.2.2.2.1, if_pos (by rw [le_n (by omega) (by omega)]; exact Nat.le_refl _), ltD]
        exact ie hI.1)
      (fun m j s hj hI => by
        obtain ⟨j1, rfl⟩ := hI
        obtain ⟨b, hb, hbr, hbe⟩ := m_bySlot hu hM1 hj
        rw [LX8_never_9, e9, if_neg (show ¬ nI 1 = 0 by decide), gi_n (by omega) (by omega), cl (by omega), hM1.2.2.2.1, if_neg (by rw [le_n (by omega) (by omega)]; omega), hbe, bdS, at_n, gi_n (by omega) (by omega), cl (by omega), e47]
        simp only [jnD]
        rw [add_n, add_n]
        have st := hstep j b hb hbr
        by_cases z : σ.1 47 0 (18 + 12 * b + 6) = 0
        · have hv : nvB (σ.1 47 0) b = true := decide_eq_true z
          rw [if_pos hv] at st
          rw [if_pos z]
          by_cases y : nI (cN (fun c => nvB (σ.1 47 0) c && decide (bl (uN u) (uS u) (fun _ => true) (uS u c) < j)) (uN u)) = p
          · right
            rw [if_pos y]
            exact iy j b hj hb j1 hbr hv y
          · left
            rw [if_neg y]
            exact ⟨_, ⟨is j b hj hb j1 hbr (fun _ => y), by rw [st]⟩, rfl⟩
        · have hv : ¬ nvB (σ.1 47 0) b = true := fun y => z (of_decide_eq_true y)
          rw [if_neg hv, Nat.add_zero (cN _ _)] at st
          left
          rw [if_neg z]
          exact ⟨_, ⟨is j b hj hb j1 hbr (fun y => absurd y hv), by rw [st]⟩, rfl⟩)
    rw [nI_0] at L
    exact L
  refine ⟨fun i hp hi => ?_, fun hp => ?_⟩
  · subst hp
    refine loop (fun x => ∃ o, NvS (uN u) (uS u) (nvB (σ.1 47 0)) i o ∧ x = nvR σ o) (fun r => cN (fun c => nvB (σ.1 47 0) c && decide (bl (uN u) (uS u) (fun _ => true) (uS u c) < r)) (uN u) ≤ i) (by rw [hz]; omega) (fun h => ⟨none, Or.inl ⟨rfl, Nat.le_trans hend h⟩, rfl⟩) (fun r b hr hb h e v y => ?_) (fun r b hr hb h e y => ?_)
    · have := hle r
      rw [eq_n (by omega) (by omega)] at y
      exact ⟨some b, Or.inr ⟨b, rfl, hb, v, by rw [← hcnt r b hb e]; exact y⟩, rfl⟩
    · show cN _ _ ≤ i
      rw [hstep r b hb e]
      have := hle r
      by_cases v : nvB (σ.1 47 0) b = true
      · have := y v
        rw [eq_n (by omega) (by omega)] at this
        rw [if_pos v]
        omega
      · rw [if_neg v]; omega
  · refine loop (fun x => x = nvR σ none) (fun _ => True) trivial (fun _ => rfl) (fun r b hr hb _ e v y => ?_) (fun _ _ _ _ _ _ _ => trivial)
    rw [← y] at hp
    exact absurd hp (by have := hle r; rw [lt_0n (by omega)]; exact id)
/-- never: what the class finds, what the model answers -/
theorem act_never (p : Int32) {σ : St} {N : Nat} (h : Rel σ N) : ∃ o : Option Nat, (∀ b, o = some b → b < 6) ∧
    ((σ.1 7 0 8 = 0 ∧ o = none) ∨ (σ.1 7 0 8 = nI 1 ∧ p < 0 ∧ o = none) ∨ (σ.1 7 0 8 = nI 1 ∧ ¬ p < 0 ∧ fX4_neverMaster 0 p σ = some (ov o, σ))) ∧ fX8_never p σ = nvR σ o := by
  rcases h.2.2.2.2 with hN | ⟨b1, b2, u, t, s, a, t1, t2, hT, -⟩
  · refine ⟨none, fun b z => (nomatch z), Or.inl ⟨hN.1, rfl⟩, ?_⟩
    unfold fX8_never
    obtain ⟨m, hm⟩ : ∃ m, FU = m + 1 := ⟨FU - 1, by have := FU_gt; omega⟩
    rw [ltD, hm, LX8_never_9, wIj (by omega), hN.2.1, if_pos rfl, ltD]
    rfl
  · obtain ⟨m1, m2⟩ := m_nevers (p := p) hT b2
    by_cases q : p < 0
    · exact ⟨none, fun b z => (nomatch z), Or.inr (Or.inl ⟨b1, q, rfl⟩), m2 q⟩
    · obtain ⟨i, hi, rfl⟩ := nat_of q
      obtain ⟨o, o1, o2⟩ := c_nevers hT hi
      obtain ⟨o', o3, o4⟩ := m1 i rfl hi
      have e := nvS_eq hT.1.sd o1 o3
      subst e
      refine ⟨o, fun b z => ?_, Or.inr (Or.inr ⟨b1, q, o2⟩), o4⟩
      rcases o1 with ⟨y, -⟩ | ⟨b', y, hb', -⟩
      · rw [y] at z; cases z
      · rw [y] at z
        cases z
        have := hT.1.n6
        omega
theorem rel_8 {σ : St} {N : Nat} (h : Rel σ N) (v : Int32) : Rel (wI σ 8 0 0 v) (N + 1) := by
  obtain ⟨⟨a1, a2, a3⟩, hT, hD, hP, hB⟩ := h
  have q : Qt σ (wI σ 8 0 0 v) := ⟨fun a b z => wIc (by omega), fun a b z y => wIc (by omega), fun b z => wIc (by omega), fun b z => wIc (by omega), fun _ => rfl, ⟨rfl, rfl⟩, fun j z => by rw [wIc (by omega)], fun j z => wIj (by omega)⟩
  refine Rel.qt ⟨⟨a1, a2, a3⟩, hT, hD, hP, hB⟩ q ?_ (fun z => ?_) (hD.fr (by rw [wIc (by omega)]) (fun o => wIc (by omega)))
  · rw [wIc (by omega), wIj (by omega)]; exact a1
  · rw [wIj (by omega)] at z
    rw [wIc (by omega), wIj (by omega)]; exact a3 z
/-- what the law keeps of its own does not matter -/
theorem rel_L {σ : St} {N j : Nat} (v : Int64) (h : Rel σ N) : Rel (wL σ 56 0 j v) N := h
theorem Rel.up {σ : St} {N : Nat} (h : Rel σ N) : Rel σ (N + 1) := h.qt Qt.rf h.1.1 h.1.2.2 h.2.2.1
