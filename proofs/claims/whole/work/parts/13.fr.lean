/-! ===== frames: which cells a pure reading may change ===== -/
/-- what is outside the listed cells (class, first number, behind the last) stays -/
def Kp (S : List (Nat × Nat × Nat)) (σ σ' : St) : Prop := ∀ ci k, (∀ e ∈ S, ¬ (e.1 = ci ∧ e.2.1 ≤ k ∧ k < e.2.2)) → σ'.1 ci k = σ.1 ci k ∧ σ'.2.1 ci k = σ.2.1 ci k ∧ σ'.2.2 ci k = σ.2.2 ci k
def Fr {R : Type} (S : List (Nat × Nat × Nat)) (σ : St) (res : Option (R × St)) : Prop := ∀ r σ', res = some (r, σ') → Kp S σ σ'
/-- each of the one lies in the other -/
def Cv (S1 S : List (Nat × Nat × Nat)) : Prop := ∀ e ∈ S1, ∃ f ∈ S, f.1 = e.1 ∧ f.2.1 ≤ e.2.1 ∧ e.2.2 ≤ f.2.2
section FRM
variable {R : Type} {S S1 : List (Nat × Nat × Nat)} {σ0 σ τ : St} {ci k : Nat}
theorem fr_m {lo hi : Nat} (p : Nat) (h : S[p]? = some (ci, lo, hi)) (h1 : lo ≤ k) (h2 : k < hi) : ∃ e ∈ S, e.1 = ci ∧ e.2.1 ≤ k ∧ k < e.2.2 := ⟨_, List.mem_of_getElem? h, rfl, h1, h2⟩
theorem fr_h {lo hi : Nat} (hs : ∀ e ∈ S1, e ∈ S) (p : Nat) (h : S1[p]? = some (ci, lo, hi)) (h1 : lo ≤ k) (h2 : k < hi) : ∃ e ∈ S, e.1 = ci ∧ e.2.1 ≤ k ∧ k < e.2.2 := ⟨_, hs _ (List.mem_of_getElem? h), rfl, h1, h2⟩
theorem kp_rf : Kp S σ σ := fun _ _ _ => ⟨rfl, rfl, rfl⟩
theorem Kp.wA {f : Nat → Int32} (h : Kp S σ0 σ) (hm : ∃ e ∈ S, e.1 = ci ∧ e.2.1 ≤ k ∧ k < e.2.2) : Kp S σ0 (wA σ ci k f) := by
  intro a b hab
  obtain ⟨e, he, h1, h2, h3⟩ := hm
  have hne : ¬ (a = ci ∧ b = k) := fun z => hab e he ⟨by rw [h1, z.1], by rw [z.2]; exact h2, by rw [z.2]; exact h3⟩
  exact ⟨(wA_ne hne).trans (h a b hab).1, (h a b hab).2⟩
theorem Kp.wI {j : Nat} {v : Int32} (h : Kp S σ0 σ) (hm : ∃ e ∈ S, e.1 = ci ∧ e.2.1 ≤ k ∧ k < e.2.2) : Kp S σ0 (wI σ ci k j v) := h.wA hm
theorem Kp.wL {j : Nat} {v : Int64} (h : Kp S σ0 σ) (hm : ∃ e ∈ S, e.1 = ci ∧ e.2.1 ≤ k ∧ k < e.2.2) : Kp S σ0 (wL σ ci k j v) := by
  intro a b hab
  obtain ⟨e, he, h1, h2, h3⟩ := hm
  have hne : ¬ (a = ci ∧ b = k) := fun z => hab e he ⟨by rw [h1, z.1], by rw [z.2]; exact h2, by rw [z.2]; exact h3⟩
  refine ⟨(h a b hab).1, ?_, (h a b hab).2.2⟩
  show (if a = ci ∧ b = k then _ else σ.2.1 a b) = _
  rw [if_neg hne]
  exact (h a b hab).2.1
theorem Kp.wR {j v : Nat} (h : Kp S σ0 σ) (hm : ∃ e ∈ S, e.1 = ci ∧ e.2.1 ≤ k ∧ k < e.2.2) : Kp S σ0 (wR σ ci k j v) := by
  intro a b hab
  obtain ⟨e, he, h1, h2, h3⟩ := hm
  have hne : ¬ (a = ci ∧ b = k) := fun z => hab e he ⟨by rw [h1, z.1], by rw [z.2]; exact h2, by rw [z.2]; exact h3⟩
  refine ⟨(h a b hab).1, (h a b hab).2.1, ?_⟩
  funext x
  show (if a = ci ∧ b = k ∧ x = j then v else σ.2.2 a b x) = _
  rw [if_neg (fun z => hne ⟨z.1, z.2.1⟩), (h a b hab).2.2]
theorem Kp.tr (h : Kp S σ0 σ) (h1 : Kp S1 σ τ) (hs : ∀ e ∈ S1, e ∈ S) : Kp S σ0 τ := fun a b hab =>
  have q := h1 a b (fun e he => hab e (hs e he))
  have p := h a b hab
  ⟨q.1.trans p.1, q.2.1.trans p.2.1, q.2.2.trans p.2.2⟩
theorem Kp.tc (h : Kp S σ0 σ) (h1 : Kp S1 σ τ) (hs : Cv S1 S) : Kp S σ0 τ := fun a b hab =>
  have q := h1 a b (fun e he z => by
    obtain ⟨f, hf, g1, g2, g3⟩ := hs e he
    exact hab f hf ⟨g1.trans z.1, Nat.le_trans g2 z.2.1, Nat.lt_of_lt_of_le z.2.2 g3⟩)
  have p := h a b hab
  ⟨q.1.trans p.1, q.2.1.trans p.2.1, q.2.2.trans p.2.2⟩
theorem kp_pick (ps : List Nat) (h : S1 = ps.filterMap (fun i => S[i]?)) : ∀ e ∈ S1, e ∈ S := by
  intro e he
  rw [h] at he
  obtain ⟨i, -, hi⟩ := List.mem_filterMap.mp he
  exact List.mem_of_getElem? hi
theorem kp_sub {S2 : List (Nat × Nat × Nat)} (hs : ∀ e ∈ S1, e ∈ S) (h : ∀ e ∈ S2, e ∈ S1) : ∀ e ∈ S2, e ∈ S := fun e he => hs e (h e he)
theorem kp_cov {S2 : List (Nat × Nat × Nat)} (hs : ∀ e ∈ S1, e ∈ S) (h : Cv S2 S1) : Cv S2 S := fun e he => by
  obtain ⟨f, hf, g⟩ := h e he
  exact ⟨f, hs f hf, g⟩
theorem fr_none : Fr S σ0 (none : Option (R × St)) := fun _ _ h => by cases h
theorem fr_some {r : R} (h : Kp S σ0 σ) : Fr S σ0 (some (r, σ)) := fun _ _ e => by cases e; exact h
theorem fr_rz {x : Int32} (h : Kp S σ0 σ) : Fr S σ0 (rz x σ) := by
  unfold rz
  split
  · exact fr_some h
  · exact fr_none
theorem fr_gi {i : Int32} {n : Nat} {x : Option (R × St)} (h : i.toNatClampNeg < n → Fr S σ0 x) : Fr S σ0 (gi i n x) := fun r τ e => by
  obtain ⟨h1, h2⟩ := gi_s e
  exact h (Nat.not_le.mp fun q => h1 (Or.inr q)) r τ h2
theorem fr_gd {c : Prop} [Decidable c] {x : Option (R × St)} (h : c → Fr S σ0 x) : Fr S σ0 (gd c x) := fun r τ e => by
  obtain ⟨h1, h2⟩ := gd_s e
  exact h h1 r τ h2
theorem fr_ltv {α : Type} {v : α} {kk : α → Option (R × St)} (h : ∀ z, Fr S σ0 (kk z)) : Fr S σ0 (lt v kk) := h v
theorem fr_lts {τ0 : St} {kk : St → Option (R × St)} (h1 : Kp S σ0 τ0) (h : ∀ t, Kp S σ0 t → Fr S σ0 (kk t)) : Fr S σ0 (lt τ0 kk) := h τ0 h1
theorem fr_bd {R1 : Type} {fy : Option (R1 × St)} {kk : R1 → St → Option (R × St)} (h1 : ∀ r t, fy = some (r, t) → Kp S σ0 t) (h : ∀ r t, Kp S σ0 t → Fr S σ0 (kk r t)) : Fr S σ0 (bd fy kk) := fun r τ e => by
  obtain ⟨r1, t1, e1, e2⟩ := bd_s e
  exact h r1 t1 (h1 r1 t1 e1) r τ e2
theorem fr_if {c : Prop} [Decidable c] {a b : Option (R × St)} (h1 : c → Fr S σ0 a) (h2 : ¬ c → Fr S σ0 b) : Fr S σ0 (if c then a else b) := by
  by_cases q : c
  · rw [if_pos q]; exact h1 q
  · rw [if_neg q]; exact h2 q
theorem fr_jn {α : Type} {K : α} {B : α → Option (R × St)} (Q : α → Prop) (hJ : Q K) (hB : ∀ j, Q j → Fr S σ0 (B j)) : Fr S σ0 (jn K B) := hB K hJ
end FRM
theorem fr_fJ6_bitCount_0f7a4 (p0 : Int32) (σ : St) : Fr ([] : List (Nat × Nat × Nat)) σ (fJ6_bitCount_0f7a4 p0 σ) := by
  unfold fJ6_bitCount_0f7a4
  refine fr_ltv (fun x1 => ?_)
  refine fr_ltv (fun x2 => ?_)
  refine fr_ltv (fun x3 => ?_)
  refine fr_ltv (fun x4 => ?_)
  refine fr_ltv (fun x5 => ?_)
  exact fr_some kp_rf
theorem fr_LJ7_fill_53178_5 {S : List (Nat × Nat × Nat)} {σ0 : St} (c0 : Nat) (k0 : Nat) (a1 : Int32) (a3 : Int32) (hs : ∀ e ∈ [(c0, k0, k0 + 1)], e ∈ S) (ke : St → Option (Unit × St)) (hke : ∀ (τ : St), Kp S σ0 τ → Fr S σ0 (ke τ)) : ∀ (n : Nat) (b2 : Int32) (σ : St), Kp S σ0 σ → Fr S σ0 (LJ7_fill_53178_5 c0 k0 a1 a3 ke n b2 σ) := by
  intro n
  induction n with
  | zero => intros; exact fr_none
  | succ n ih =>
    intro b2 σ hK0
    rw [LJ7_fill_53178_5]
    refine fr_if (fun _ => ?_) (fun _ => ?_)
    · skip
      exact hke _ hK0
    · skip
      refine fr_gi (fun hv1 => ?_)
      refine fr_lts (hK0.wI (fr_h hs 0 rfl (by omega) (by omega))) (fun σ2 hK2 => ?_)
      exact ih _ _ hK2
theorem fr_fJ7_fill_53178 (c0 : Nat) (k0 : Nat) (p1 : Int32) (σ : St) : Fr [(c0, k0, k0 + 1)] σ (fJ7_fill_53178 c0 k0 p1 σ) := by
  unfold fJ7_fill_53178
  refine fr_ltv (fun x1 => ?_)
  refine fr_LJ7_fill_53178_5 (S := [(c0, k0, k0 + 1)]) _ _ _ _ (kp_pick [0] rfl) _ (fun σ3 hK1 => ?_) FU _ _ kp_rf
  exact fr_some hK1
theorem fr_fJ9_floorMod_7cf53 (p0 : Int32) (p1 : Int32) (σ : St) : Fr ([] : List (Nat × Nat × Nat)) σ (fJ9_floorMod_7cf53 p0 p1 σ) := by
  unfold fJ9_floorMod_7cf53
  refine fr_gd (fun _ => ?_)
  refine fr_ltv (fun x1 => ?_)
  refine fr_if (fun _ => ?_) (fun _ => ?_)
  · skip
    exact fr_some kp_rf
  · skip
    refine fr_if (fun _ => ?_) (fun _ => ?_)
    · skip
      exact fr_some kp_rf
    · skip
      exact fr_some kp_rf
theorem fr_fX8_thrown (σ : St) : Fr ([] : List (Nat × Nat × Nat)) σ (fX8_thrown σ) := by
  unfold fX8_thrown
  exact fr_some kp_rf
theorem fr_fX8_no (p1 : Int32) (σ : St) : Fr [(8, 0, 1)] σ (fX8_no p1 σ) := by
  unfold fX8_no
  refine fr_lts (kp_rf.wI (fr_m 0 rfl (by omega) (by omega))) (fun σ1 hK1 => ?_)
  exact fr_some hK1
theorem fr_fX8_isRefused (p1 : Int32) (σ : St) : Fr [(8, 0, 1)] σ (fX8_isRefused p1 σ) := by
  unfold fX8_isRefused
  refine fr_lts (kp_rf.wI (fr_m 0 rfl (by omega) (by omega))) (fun σ1 hK1 => ?_)
  refine fr_lts (hK1.wI (fr_m 0 rfl (by omega) (by omega))) (fun σ2 hK2 => ?_)
  refine fr_lts (hK2.wI (fr_m 0 rfl (by omega) (by omega))) (fun σ3 hK3 => ?_)
  exact fr_rz hK3
theorem fr_LX8_laysWord_2 {S : List (Nat × Nat × Nat)} {σ0 : St} (a1 : Int32) (hs : ∀ e ∈ [(43, 0, 1)], e ∈ S) (ke : St → Option (Unit × St)) (hke : ∀ (τ : St), Kp S σ0 τ → Fr S σ0 (ke τ)) : ∀ (n : Nat) (b2 : Int32) (σ : St), Kp S σ0 σ → Fr S σ0 (LX8_laysWord_2 a1 ke n b2 σ) := by
  intro n
  induction n with
  | zero => intros; exact fr_none
  | succ n ih =>
    intro b2 σ hK0
    rw [LX8_laysWord_2]
    refine fr_if (fun _ => ?_) (fun _ => ?_)
    · skip
      exact hke _ hK0
    · skip
      refine fr_gi (fun hv1 => ?_)
      refine fr_lts (hK0.wI (fr_h hs 0 rfl (by omega) (by omega))) (fun σ1 hK2 => ?_)
      exact ih _ _ hK2
theorem fr_fX8_laysWord (p1 : Int32) (σ : St) : Fr [(43, 0, 1), (8, 0, 1)] σ (fX8_laysWord p1 σ) := by
  unfold fX8_laysWord
  refine fr_LX8_laysWord_2 (S := [(43, 0, 1), (8, 0, 1)]) _ (kp_pick [0] rfl) _ (fun σ2 hK1 => ?_) FU _ _ kp_rf
  refine fr_lts (hK1.wI (fr_m 1 rfl (by omega) (by omega))) (fun σ3 hK2 => ?_)
  exact fr_some hK2
theorem fr_fX8_feed (p1 : Int32) (p2 : Int32) (p3 : Int32) (p4 : Int32) (p5 : Int32) (σ : St) : Fr [(8, 0, 1), (43, 0, 1)] σ (fX8_feed p1 p2 p3 p4 p5 σ) := by
  unfold fX8_feed
  refine fr_lts (kp_rf.wI (fr_m 0 rfl (by omega) (by omega))) (fun σ1 hK1 => ?_)
  refine fr_if (fun _ => ?_) (fun _ => ?_)
  · skip
    refine fr_bd (fun r τ hh => hK1.tr (fr_fX8_laysWord _ _ r τ hh) (kp_pick [1, 0] rfl)) (fun _ σ2 hK2 => ?_)
    refine fr_bd (fun r τ hh => hK2.tr (fr_fX8_laysWord _ _ r τ hh) (kp_pick [1, 0] rfl)) (fun _ σ3 hK3 => ?_)
    refine fr_bd (fun r τ hh => hK3.tr (fr_fX8_laysWord _ _ r τ hh) (kp_pick [1, 0] rfl)) (fun _ σ4 hK4 => ?_)
    refine fr_bd (fun r τ hh => hK4.tr (fr_fX8_laysWord _ _ r τ hh) (kp_pick [1, 0] rfl)) (fun _ σ5 hK5 => ?_)
    refine fr_bd (fun r τ hh => hK5.tr (fr_fX8_laysWord _ _ r τ hh) (kp_pick [1, 0] rfl)) (fun _ σ6 hK6 => ?_)
    exact fr_some hK6
  · skip
    exact fr_some hK1
theorem fr_fX8_see (p1 : Int32) (σ : St) : Fr ([] : List (Nat × Nat × Nat)) σ (fX8_see p1 σ) := by
  unfold fX8_see
  refine fr_if (fun _ => ?_) (fun _ => ?_)
  · skip
    exact fr_some kp_rf
  · skip
    refine fr_gi (fun hv1 => ?_)
    exact fr_some kp_rf
theorem fr_LX8_goesOn_0 {S : List (Nat × Nat × Nat)} {σ0 : St} (hs : ∀ e ∈ [(8, 0, 1)], e ∈ S) (ke : St → Option (Unit × St)) (hke : ∀ (τ : St), Kp S σ0 τ → Fr S σ0 (ke τ)) : ∀ (n : Nat) (σ : St), Kp S σ0 σ → Fr S σ0 (LX8_goesOn_0 ke n σ) := by
  intro n
  induction n with
  | zero => intros; exact fr_none
  | succ n ih =>
    intro σ hK0
    rw [LX8_goesOn_0]
    refine fr_bd (fun r τ hh => hK0.tr (fr_fX8_see _ _ r τ hh) (kp_sub hs (kp_pick [] rfl))) (fun r2 σ1 hK1 => ?_)
    refine fr_if (fun _ => ?_) (fun _ => ?_)
    · skip
      refine fr_lts (hK1.wI (fr_h hs 0 rfl (by omega) (by omega))) (fun σ3 hK2 => ?_)
      exact ih _ hK2
    · skip
      exact hke _ hK1
theorem fr_LX8_goesOn_136 {S : List (Nat × Nat × Nat)} {σ0 : St} (hs : ∀ e ∈ [(8, 0, 1)], e ∈ S) (ke : St → Option (Unit × St)) (hke : ∀ (τ : St), Kp S σ0 τ → Fr S σ0 (ke τ)) : ∀ (n : Nat) (σ : St), Kp S σ0 σ → Fr S σ0 (LX8_goesOn_136 ke n σ) := by
  intro n
  induction n with
  | zero => intros; exact fr_none
  | succ n ih =>
    intro σ hK0
    rw [LX8_goesOn_136]
    refine fr_bd (fun r τ hh => hK0.tr (fr_fX8_see _ _ r τ hh) (kp_sub hs (kp_pick [] rfl))) (fun r15 σ14 hK1 => ?_)
    refine fr_if (fun _ => ?_) (fun _ => ?_)
    · skip
      exact hke _ hK1
    · skip
      refine fr_jn (fun j194 => ∀ (x17 : Int32) (σ16 : St), Kp S σ0 σ16 → Fr S σ0 (j194 x17 σ16)) ?_ ?_
      · intro x17 σ16 hK2
        refine fr_lts (hK2.wI (fr_h hs 0 rfl (by omega) (by omega))) (fun σ18 hK3 => ?_)
        refine fr_lts (hK3.wI (fr_h hs 0 rfl (by omega) (by omega))) (fun σ19 hK4 => ?_)
        exact ih _ hK4
      · intro j194 hj194
        refine fr_if (fun _ => ?_) (fun _ => ?_)
        · skip
          exact hj194 _ _ hK1
        · skip
          refine fr_bd (fun r τ hh => hK1.tr (fr_fX8_see _ _ r τ hh) (kp_sub hs (kp_pick [] rfl))) (fun r21 σ20 hK5 => ?_)
          exact hj194 _ _ hK5
theorem fr_LX8_goesOn_65 {S : List (Nat × Nat × Nat)} {σ0 : St} (hs : ∀ e ∈ [(8, 0, 1)], e ∈ S) (ke : St → Option (Unit × St)) (hke : ∀ (τ : St), Kp S σ0 τ → Fr S σ0 (ke τ)) : ∀ (n : Nat) (σ : St), Kp S σ0 σ → Fr S σ0 (LX8_goesOn_65 ke n σ) := by
  intro n
  induction n with
  | zero => intros; exact fr_none
  | succ n ih =>
    intro σ hK0
    rw [LX8_goesOn_65]
    refine fr_bd (fun r τ hh => hK0.tr (fr_fX8_see _ _ r τ hh) (kp_sub hs (kp_pick [] rfl))) (fun r28 σ27 hK1 => ?_)
    refine fr_if (fun _ => ?_) (fun _ => ?_)
    · skip
      exact hke _ hK1
    · skip
      refine fr_lts (hK1.wI (fr_h hs 0 rfl (by omega) (by omega))) (fun σ29 hK2 => ?_)
      exact ih _ hK2
theorem fr_fX8_goesOn (σ : St) : Fr [(8, 0, 1)] σ (fX8_goesOn σ) := by
  unfold fX8_goesOn
  refine fr_LX8_goesOn_0 (S := [(8, 0, 1)])  (kp_pick [0] rfl) _ (fun σ4 hK1 => ?_) FU _ kp_rf
  refine fr_lts (hK1.wI (fr_m 0 rfl (by omega) (by omega))) (fun σ5 hK2 => ?_)
  refine fr_bd (fun r τ hh => hK2.tr (fr_fX8_see _ _ r τ hh) (kp_pick [] rfl)) (fun r7 σ6 hK3 => ?_)
  refine fr_if (fun _ => ?_) (fun _ => ?_)
  · skip
    refine fr_lts (hK3.wI (fr_m 0 rfl (by omega) (by omega))) (fun σ35 hK4 => ?_)
    exact fr_some hK4
  · skip
    refine fr_if (fun _ => ?_) (fun _ => ?_)
    · skip
      refine fr_if (fun _ => ?_) (fun _ => ?_)
      · skip
        refine fr_lts (hK3.wI (fr_m 0 rfl (by omega) (by omega))) (fun σ8 hK5 => ?_)
        refine fr_lts (hK5.wI (fr_m 0 rfl (by omega) (by omega))) (fun σ12 hK6 => ?_)
        exact fr_some hK6
      · skip
        refine fr_lts (hK3.wI (fr_m 0 rfl (by omega) (by omega))) (fun σ13 hK7 => ?_)
        refine fr_LX8_goesOn_136 (S := [(8, 0, 1)])  (kp_pick [0] rfl) _ (fun σ22 hK8 => ?_) FU _ hK7
        refine fr_lts (hK8.wI (fr_m 0 rfl (by omega) (by omega))) (fun σ26 hK9 => ?_)
        exact fr_some hK9
    · skip
      refine fr_LX8_goesOn_65 (S := [(8, 0, 1)])  (kp_pick [0] rfl) _ (fun σ30 hK10 => ?_) FU _ hK3
      refine fr_lts (hK10.wI (fr_m 0 rfl (by omega) (by omega))) (fun σ34 hK11 => ?_)
      exact fr_some hK11
theorem fr_fX8_errs (p1 : Int32) (σ : St) : Fr [(8, 0, 1)] σ (fX8_errs p1 σ) := by
  unfold fX8_errs
  refine fr_lts (kp_rf.wI (fr_m 0 rfl (by omega) (by omega))) (fun σ1 hK1 => ?_)
  refine fr_lts (hK1.wI (fr_m 0 rfl (by omega) (by omega))) (fun σ2 hK2 => ?_)
  exact fr_some hK2
theorem fr_fX8_lays (p1 : Int32) (p2 : Int32) (p3 : Int32) (σ : St) : Fr [(8, 0, 1), (45, 0, 1)] σ (fX8_lays p1 p2 p3 σ) := by
  unfold fX8_lays
  refine fr_if (fun _ => ?_) (fun _ => ?_)
  · skip
    refine fr_if (fun _ => ?_) (fun _ => ?_)
    · skip
      refine fr_bd (fun r τ hh => kp_rf.tr (fr_fX8_errs _ _ r τ hh) (kp_pick [0] rfl)) (fun r4 σ3 hK1 => ?_)
      exact fr_rz hK1
    · skip
      refine fr_gi (fun hv2 => ?_)
      refine fr_lts (kp_rf.wI (fr_m 1 rfl (by omega) (by omega))) (fun σ1 hK3 => ?_)
      refine fr_bd (fun r τ hh => hK3.tr (fr_fX8_goesOn _ r τ hh) (kp_pick [0] rfl)) (fun _ σ2 hK4 => ?_)
      exact fr_some hK4
  · skip
    refine fr_bd (fun r τ hh => kp_rf.tr (fr_fX8_errs _ _ r τ hh) (kp_pick [0] rfl)) (fun r6 σ5 hK5 => ?_)
    exact fr_rz hK5
theorem fr_fX8_begins (p1 : Int32) (σ : St) : Fr [(8, 0, 1)] σ (fX8_begins p1 σ) := by
  unfold fX8_begins
  refine fr_if (fun _ => ?_) (fun _ => ?_)
  · skip
    refine fr_bd (fun r τ hh => kp_rf.tr (fr_fX8_errs _ _ r τ hh) (kp_pick [0] rfl)) (fun r5 σ4 hK1 => ?_)
    exact fr_rz hK1
  · skip
    refine fr_if (fun _ => ?_) (fun _ => ?_)
    · skip
      refine fr_bd (fun r τ hh => kp_rf.tr (fr_fX8_errs _ _ r τ hh) (kp_pick [0] rfl)) (fun r3 σ2 hK2 => ?_)
      exact fr_rz hK2
    · skip
      refine fr_bd (fun r τ hh => kp_rf.tr (fr_fX8_goesOn _ r τ hh) (kp_pick [0] rfl)) (fun _ σ1 hK3 => ?_)
      exact fr_some hK3
theorem fr_LX8_spelt_7 {S : List (Nat × Nat × Nat)} {σ0 : St} (hs : ∀ e ∈ ([] : List (Nat × Nat × Nat)), e ∈ S) (ke : Int64 → St → Option (Int64 × St)) (hke : ∀ (e0 : Int64) (τ : St), Kp S σ0 τ → Fr S σ0 (ke e0 τ)) : ∀ (n : Nat) (b1 : Int64) (b3 : Int32) (σ : St), Kp S σ0 σ → Fr S σ0 (LX8_spelt_7 ke n b1 b3 σ) := by
  intro n
  induction n with
  | zero => intros; exact fr_none
  | succ n ih =>
    intro b1 b3 σ hK0
    rw [LX8_spelt_7]
    refine fr_if (fun _ => ?_) (fun _ => ?_)
    · skip
      exact hke _ _ hK0
    · skip
      refine fr_gi (fun hv1 => ?_)
      refine fr_ltv (fun x3 => ?_)
      exact ih _ _ _ hK0
theorem fr_fX8_spelt (σ : St) : Fr ([] : List (Nat × Nat × Nat)) σ (fX8_spelt σ) := by
  unfold fX8_spelt
  refine fr_ltv (fun x1 => ?_)
  refine fr_ltv (fun x2 => ?_)
  refine fr_LX8_spelt_7 (S := [])  (kp_pick [] rfl) _ (fun y4 σ5 hK1 => ?_) FU _ _ _ kp_rf
  exact fr_some hK1
theorem fr_LX8_boardHere_2 {S : List (Nat × Nat × Nat)} {σ0 : St} (hs : ∀ e ∈ ([] : List (Nat × Nat × Nat)), e ∈ S) (ke : St → Option (Int32 × St)) (hke : ∀ (τ : St), Kp S σ0 τ → Fr S σ0 (ke τ)) : ∀ (n : Nat) (b1 : Int32) (σ : St), Kp S σ0 σ → Fr S σ0 (LX8_boardHere_2 ke n b1 σ) := by
  intro n
  induction n with
  | zero => intros; exact fr_none
  | succ n ih =>
    intro b1 σ hK0
    rw [LX8_boardHere_2]
    refine fr_gi (fun hv1 => ?_)
    refine fr_if (fun _ => ?_) (fun _ => ?_)
    · skip
      exact hke _ hK0
    · skip
      refine fr_gi (fun hv2 => ?_)
      refine fr_bd (fun r τ hh => hK0.tr (fr_fX8_spelt _ r τ hh) (kp_sub hs (kp_pick [] rfl))) (fun r2 σ1 hK3 => ?_)
      refine fr_if (fun _ => ?_) (fun _ => ?_)
      · skip
        exact fr_some hK3
      · skip
        exact ih _ _ hK3
theorem fr_fX8_boardHere (σ : St) : Fr ([] : List (Nat × Nat × Nat)) σ (fX8_boardHere σ) := by
  unfold fX8_boardHere
  refine fr_LX8_boardHere_2 (S := [])  (kp_pick [] rfl) _ (fun σ3 hK1 => ?_) FU _ _ kp_rf
  exact fr_some hK1
theorem fr_LX8_beginsAnew_2 {S : List (Nat × Nat × Nat)} {σ0 : St} (hs : ∀ e ∈ [(47, 0, 1)], e ∈ S) (ke : St → Option (Unit × St)) (hke : ∀ (τ : St), Kp S σ0 τ → Fr S σ0 (ke τ)) : ∀ (n : Nat) (b1 : Int32) (σ : St), Kp S σ0 σ → Fr S σ0 (LX8_beginsAnew_2 ke n b1 σ) := by
  intro n
  induction n with
  | zero => intros; exact fr_none
  | succ n ih =>
    intro b1 σ hK0
    rw [LX8_beginsAnew_2]
    refine fr_if (fun _ => ?_) (fun _ => ?_)
    · skip
      exact hke _ hK0
    · skip
      refine fr_gi (fun hv1 => ?_)
      refine fr_lts (hK0.wI (fr_h hs 0 rfl (by omega) (by omega))) (fun σ1 hK2 => ?_)
      exact ih _ _ hK2
theorem fr_LX8_beginsAnew_56 {S : List (Nat × Nat × Nat)} {σ0 : St} (hs : ∀ e ∈ [(47, 0, 1)], e ∈ S) (ke : St → Option (Unit × St)) (hke : ∀ (τ : St), Kp S σ0 τ → Fr S σ0 (ke τ)) : ∀ (n : Nat) (b1 : Int32) (σ : St), Kp S σ0 σ → Fr S σ0 (LX8_beginsAnew_56 ke n b1 σ) := by
  intro n
  induction n with
  | zero => intros; exact fr_none
  | succ n ih =>
    intro b1 σ hK0
    rw [LX8_beginsAnew_56]
    refine fr_if (fun _ => ?_) (fun _ => ?_)
    · skip
      exact hke _ hK0
    · skip
      refine fr_gi (fun hv1 => ?_)
      refine fr_lts (hK0.wI (fr_h hs 0 rfl (by omega) (by omega))) (fun σ7 hK2 => ?_)
      refine fr_gi (fun hv3 => ?_)
      refine fr_lts (hK2.wI (fr_h hs 0 rfl (by omega) (by omega))) (fun σ8 hK4 => ?_)
      refine fr_gi (fun hv5 => ?_)
      refine fr_lts (hK4.wI (fr_h hs 0 rfl (by omega) (by omega))) (fun σ9 hK6 => ?_)
      exact ih _ _ hK6
theorem fr_fX8_beginsAnew (σ : St) : Fr [(47, 0, 1)] σ (fX8_beginsAnew σ) := by
  unfold fX8_beginsAnew
  refine fr_LX8_beginsAnew_2 (S := [(47, 0, 1)])  (kp_pick [0] rfl) _ (fun σ2 hK1 => ?_) FU _ _ kp_rf
  refine fr_gi (fun hv2 => ?_)
  refine fr_lts (hK1.wI (fr_m 0 rfl (by omega) (by omega))) (fun σ3 hK3 => ?_)
  refine fr_gi (fun hv4 => ?_)
  refine fr_lts (hK3.wI (fr_m 0 rfl (by omega) (by omega))) (fun σ4 hK5 => ?_)
  refine fr_gi (fun hv6 => ?_)
  refine fr_lts (hK5.wI (fr_m 0 rfl (by omega) (by omega))) (fun σ5 hK7 => ?_)
  refine fr_gi (fun hv8 => ?_)
  refine fr_lts (hK7.wI (fr_m 0 rfl (by omega) (by omega))) (fun σ6 hK9 => ?_)
  refine fr_LX8_beginsAnew_56 (S := [(47, 0, 1)])  (kp_pick [0] rfl) _ (fun σ10 hK10 => ?_) FU _ _ hK9
  exact fr_some hK10
theorem fr_fX8_fault (σ : St) : Fr [(8, 0, 1)] σ (fX8_fault σ) := by
  unfold fX8_fault
  refine fr_lts (kp_rf.wI (fr_m 0 rfl (by omega) (by omega))) (fun σ1 hK1 => ?_)
  exact fr_some hK1
theorem fr_fX8_where (σ : St) : Fr [(8, 0, 1)] σ (fX8_where σ) := by
  unfold fX8_where
  refine fr_lts (kp_rf.wI (fr_m 0 rfl (by omega) (by omega))) (fun σ1 hK1 => ?_)
  exact fr_some hK1
theorem fr_fX8_isBoard (p1 : Int32) (σ : St) : Fr ([] : List (Nat × Nat × Nat)) σ (fX8_isBoard p1 σ) := by
  unfold fX8_isBoard
  refine fr_if (fun _ => ?_) (fun _ => ?_)
  · skip
    exact fr_some kp_rf
  · skip
    refine fr_gi (fun hv1 => ?_)
    exact fr_rz kp_rf
theorem fr_fX8_slotsApart (p1 : Int32) (p2 : Int32) (σ : St) : Fr ([] : List (Nat × Nat × Nat)) σ (fX8_slotsApart p1 p2 σ) := by
  unfold fX8_slotsApart
  refine fr_gi (fun hv1 => ?_)
  refine fr_gi (fun hv2 => ?_)
  refine fr_ltv (fun x1 => ?_)
  exact fr_some kp_rf
theorem fr_fX8_drivesAt (p1 : Int32) (p2 : Int32) (σ : St) : Fr [(51, 0, 1)] σ (fX8_drivesAt p1 p2 σ) := by
  unfold fX8_drivesAt
  refine fr_jn (fun j21 => ∀ (x2 : Int32) (σ1 : St), Kp ([(51, 0, 1)]) σ σ1 → Fr ([(51, 0, 1)]) σ (j21 x2 σ1)) ?_ ?_
  · intro x2 σ1 hK1
    refine fr_gi (fun hv2 => ?_)
    refine fr_ltv (fun x3 => ?_)
    refine fr_jn (fun j54 => ∀ (x5 : Int32) (σ4 : St), Kp ([(51, 0, 1)]) σ σ4 → Fr ([(51, 0, 1)]) σ (j54 x5 σ4)) ?_ ?_
    · intro x5 σ4 hK3
      refine fr_gi (fun hv4 => ?_)
      refine fr_lts (hK3.wI (fr_m 0 rfl (by omega) (by omega))) (fun σ9 hK5 => ?_)
      exact fr_some hK5
    · intro j54 hj54
      refine fr_if (fun _ => ?_) (fun _ => ?_)
      · skip
        refine fr_gi (fun hv6 => ?_)
        exact hj54 _ _ hK1
      · skip
        exact hj54 _ _ hK1
  · intro j21 hj21
    refine fr_if (fun _ => ?_) (fun _ => ?_)
    · skip
      exact hj21 _ _ kp_rf
    · skip
      refine fr_gi (fun hv7 => ?_)
      exact hj21 _ _ kp_rf
theorem fr_LX8_isSeen_74 {S : List (Nat × Nat × Nat)} {σ0 : St} (a1 : Int32) (a2 : Int32) (a3 : Int32) (hs : ∀ e ∈ ([] : List (Nat × Nat × Nat)), e ∈ S) (ke : St → Option (Int32 × St)) (hke : ∀ (τ : St), Kp S σ0 τ → Fr S σ0 (ke τ)) : ∀ (n : Nat) (b4 : Int32) (σ : St), Kp S σ0 σ → Fr S σ0 (LX8_isSeen_74 a1 a2 a3 ke n b4 σ) := by
  intro n
  induction n with
  | zero => intros; exact fr_none
  | succ n ih =>
    intro b4 σ hK0
    rw [LX8_isSeen_74]
    refine fr_gi (fun hv1 => ?_)
    refine fr_if (fun _ => ?_) (fun _ => ?_)
    · skip
      exact hke _ hK0
    · skip
      refine fr_bd (fun r τ hh => hK0.tr (fr_fX8_slotsApart _ _ _ r τ hh) (kp_sub hs (kp_pick [] rfl))) (fun r2 σ1 hK2 => ?_)
      refine fr_ltv (fun x3 => ?_)
      refine fr_jn (fun j128 => ∀ (σ4 : St), Kp S σ0 σ4 → Fr S σ0 (j128 σ4)) ?_ ?_
      · intro σ4 hK3
        exact ih _ _ hK3
      · intro j128 hj128
        refine fr_if (fun _ => ?_) (fun _ => ?_)
        · skip
          exact hj128 _ hK2
        · skip
          refine fr_if (fun _ => ?_) (fun _ => ?_)
          · skip
            exact hj128 _ hK2
          · skip
            refine fr_gi (fun hv4 => ?_)
            refine fr_if (fun _ => ?_) (fun _ => ?_)
            · skip
              exact hj128 _ hK2
            · skip
              exact fr_some hK2
theorem fr_fX8_isSeen (p1 : Int32) (p2 : Int32) (p3 : Int32) (σ : St) : Fr ([] : List (Nat × Nat × Nat)) σ (fX8_isSeen p1 p2 p3 σ) := by
  unfold fX8_isSeen
  refine fr_gi (fun hv1 => ?_)
  refine fr_if (fun _ => ?_) (fun _ => ?_)
  · skip
    refine fr_gi (fun hv2 => ?_)
    refine fr_if (fun _ => ?_) (fun _ => ?_)
    · skip
      refine fr_gi (fun hv3 => ?_)
      refine fr_if (fun _ => ?_) (fun _ => ?_)
      · skip
        refine fr_LX8_isSeen_74 (S := []) _ _ _ (kp_pick [] rfl) _ (fun σ5 hK4 => ?_) FU _ _ kp_rf
        exact fr_some hK4
      · skip
        exact fr_some kp_rf
    · skip
      refine fr_gi (fun hv5 => ?_)
      exact fr_rz kp_rf
  · skip
    exact fr_some kp_rf
theorem fr_LX8_nearest_6 {S : List (Nat × Nat × Nat)} {σ0 : St} (a1 : Int32) (a2 : Int32) (a3 : Int32) (hs : ∀ e ∈ ([] : List (Nat × Nat × Nat)), e ∈ S) (ke : Int32 → St → Option (Int32 × St)) (hke : ∀ (e0 : Int32) (τ : St), Kp S σ0 τ → Fr S σ0 (ke e0 τ)) : ∀ (n : Nat) (b4 : Int32) (b5 : Int32) (σ : St), Kp S σ0 σ → Fr S σ0 (LX8_nearest_6 a1 a2 a3 ke n b4 b5 σ) := by
  intro n
  induction n with
  | zero => intros; exact fr_none
  | succ n ih =>
    intro b4 b5 σ hK0
    rw [LX8_nearest_6]
    refine fr_gi (fun hv1 => ?_)
    refine fr_if (fun _ => ?_) (fun _ => ?_)
    · skip
      exact hke _ _ hK0
    · skip
      refine fr_bd (fun r τ hh => hK0.tr (fr_fX8_slotsApart _ _ _ r τ hh) (kp_sub hs (kp_pick [] rfl))) (fun r2 σ1 hK2 => ?_)
      refine fr_jn (fun j69 => ∀ (x4 : Int32) (σ3 : St), Kp S σ0 σ3 → Fr S σ0 (j69 x4 σ3)) ?_ ?_
      · intro x4 σ3 hK3
        exact ih _ _ _ hK3
      · intro j69 hj69
        refine fr_jn (fun j67 => ∀ (σ5 : St), Kp S σ0 σ5 → Fr S σ0 (j67 σ5)) ?_ ?_
        · intro σ5 hK4
          exact hj69 _ _ hK4
        · intro j67 hj67
          refine fr_if (fun _ => ?_) (fun _ => ?_)
          · skip
            exact hj67 _ hK2
          · skip
            refine fr_gi (fun hv5 => ?_)
            refine fr_if (fun _ => ?_) (fun _ => ?_)
            · skip
              exact hj67 _ hK2
            · skip
              refine fr_jn (fun j62 => ∀ (σ6 : St), Kp S σ0 σ6 → Fr S σ0 (j62 σ6)) ?_ ?_
              · intro σ6 hK6
                exact hj69 _ _ hK6
              · intro j62 hj62
                refine fr_if (fun _ => ?_) (fun _ => ?_)
                · skip
                  exact hj62 _ hK2
                · skip
                  refine fr_if (fun _ => ?_) (fun _ => ?_)
                  · skip
                    exact hj67 _ hK2
                  · skip
                    exact hj62 _ hK2
theorem fr_fX8_nearest (p1 : Int32) (p2 : Int32) (p3 : Int32) (σ : St) : Fr ([] : List (Nat × Nat × Nat)) σ (fX8_nearest p1 p2 p3 σ) := by
  unfold fX8_nearest
  refine fr_LX8_nearest_6 (S := []) _ _ _ (kp_pick [] rfl) _ (fun x7 σ8 hK1 => ?_) FU _ _ _ kp_rf
  exact fr_some hK1
theorem fr_LX8_dipsAt_114 {S : List (Nat × Nat × Nat)} {σ0 : St} (a1 : Int32) (a2 : Int32) (a3 : Int32) (a4 : Int32) (a5 : Int32) (a6 : Int32) (a7 : Int32) (hs : ∀ e ∈ [(55, 0, 1)], e ∈ S) (ke : St → Option (Unit × St)) (hke : ∀ (τ : St), Kp S σ0 τ → Fr S σ0 (ke τ)) : ∀ (n : Nat) (b8 : Int32) (σ : St), Kp S σ0 σ → Fr S σ0 (LX8_dipsAt_114 a1 a2 a3 a4 a5 a6 a7 ke n b8 σ) := by
  intro n
  induction n with
  | zero => intros; exact fr_none
  | succ n ih =>
    intro b8 σ hK0
    rw [LX8_dipsAt_114]
    refine fr_if (fun _ => ?_) (fun _ => ?_)
    · skip
      exact hke _ hK0
    · skip
      refine fr_gi (fun hv1 => ?_)
      refine fr_gi (fun hv2 => ?_)
      refine fr_lts (hK0.wI (fr_h hs 0 rfl (by omega) (by omega))) (fun σ10 hK3 => ?_)
      exact ih _ _ hK3
theorem fr_LX8_dipsAt_88 {S : List (Nat × Nat × Nat)} {σ0 : St} (a1 : Int32) (a2 : Int32) (a3 : Int32) (a4 : Int32) (a5 : Int32) (hs : ∀ e ∈ [(55, 0, 1)], e ∈ S) (ke : St → Option (Unit × St)) (hke : ∀ (τ : St), Kp S σ0 τ → Fr S σ0 (ke τ)) : ∀ (n : Nat) (b6 : Int32) (σ : St), Kp S σ0 σ → Fr S σ0 (LX8_dipsAt_88 a1 a2 a3 a4 a5 ke n b6 σ) := by
  intro n
  induction n with
  | zero => intros; exact fr_none
  | succ n ih =>
    intro b6 σ hK0
    rw [LX8_dipsAt_88]
    refine fr_gi (fun hv1 => ?_)
    refine fr_if (fun _ => ?_) (fun _ => ?_)
    · skip
      exact hke _ hK0
    · skip
      refine fr_bd (fun r τ hh => hK0.tr (fr_fX8_slotsApart _ _ _ r τ hh) (kp_sub hs (kp_pick [] rfl))) (fun r8 σ7 hK2 => ?_)
      refine fr_ltv (fun x9 => ?_)
      refine fr_LX8_dipsAt_114 (S := S) _ _ _ _ _ _ _ (kp_sub hs (kp_pick [0] rfl)) _ (fun σ11 hK3 => ?_) FU _ _ hK2
      exact ih _ _ hK3
theorem fr_LX8_dipsAt_37 {S : List (Nat × Nat × Nat)} {σ0 : St} (a1 : Int32) (a2 : Int32) (a3 : Int32) (hs : ∀ e ∈ [(8, 0, 1), (55, 0, 1)], e ∈ S) (ke : St → Option (Unit × St)) (hke : ∀ (τ : St), Kp S σ0 τ → Fr S σ0 (ke τ)) : ∀ (n : Nat) (b4 : Int32) (σ : St), Kp S σ0 σ → Fr S σ0 (LX8_dipsAt_37 a1 a2 a3 ke n b4 σ) := by
  intro n
  induction n with
  | zero => intros; exact fr_none
  | succ n ih =>
    intro b4 σ hK0
    rw [LX8_dipsAt_37]
    refine fr_if (fun _ => ?_) (fun _ => ?_)
    · skip
      exact hke _ hK0
    · skip
      refine fr_jn (fun j65 => ∀ (x4 : Int32) (σ3 : St), Kp S σ0 σ3 → Fr S σ0 (j65 x4 σ3)) ?_ ?_
      · intro x4 σ3 hK1
        refine fr_jn (fun j159 => ∀ (σ5 : St), Kp S σ0 σ5 → Fr S σ0 (j159 σ5)) ?_ ?_
        · intro σ5 hK2
          exact ih _ _ hK2
        · intro j159 hj159
          refine fr_if (fun _ => ?_) (fun _ => ?_)
          · skip
            exact hj159 _ hK1
          · skip
            refine fr_lts (hK1.wI (fr_h hs 0 rfl (by omega) (by omega))) (fun σ6 hK3 => ?_)
            refine fr_LX8_dipsAt_88 (S := S) _ _ _ _ _ (kp_sub hs (kp_pick [1] rfl)) _ (fun σ12 hK4 => ?_) FU _ _ hK3
            exact hj159 _ hK4
      · intro j65 hj65
        refine fr_if (fun _ => ?_) (fun _ => ?_)
        · skip
          exact hj65 _ _ hK0
        · skip
          refine fr_bd (fun r τ hh => hK0.tr (fr_fX8_nearest _ _ _ _ r τ hh) (kp_sub hs (kp_pick [] rfl))) (fun r14 σ13 hK5 => ?_)
          exact hj65 _ _ hK5
theorem fr_fX8_dipsAt (p1 : Int32) (p2 : Int32) (σ : St) : Fr [(8, 0, 1), (55, 0, 1)] σ (fX8_dipsAt p1 p2 σ) := by
  unfold fX8_dipsAt
  refine fr_jn (fun j33 => ∀ (x2 : Int32) (σ1 : St), Kp ([(8, 0, 1), (55, 0, 1)]) σ σ1 → Fr ([(8, 0, 1), (55, 0, 1)]) σ (j33 x2 σ1)) ?_ ?_
  · intro x2 σ1 hK1
    refine fr_LX8_dipsAt_37 (S := [(8, 0, 1), (55, 0, 1)]) _ _ _ (kp_pick [0, 1] rfl) _ (fun σ15 hK2 => ?_) FU _ _ hK1
    exact fr_some hK2
  · intro j33 hj33
    refine fr_if (fun _ => ?_) (fun _ => ?_)
    · skip
      exact hj33 _ _ kp_rf
    · skip
      refine fr_gi (fun hv3 => ?_)
      refine fr_gi (fun hv4 => ?_)
      exact hj33 _ _ kp_rf
theorem fr_LX8_looksAt_5 {S : List (Nat × Nat × Nat)} {σ0 : St} (a1 : Int32) (a2 : Int32) (hs : ∀ e ∈ ([] : List (Nat × Nat × Nat)), e ∈ S) (ke : Int32 → St → Option (Unit × St)) (hke : ∀ (e0 : Int32) (τ : St), Kp S σ0 τ → Fr S σ0 (ke e0 τ)) : ∀ (n : Nat) (b3 : Int32) (b4 : Int32) (σ : St), Kp S σ0 σ → Fr S σ0 (LX8_looksAt_5 a1 a2 ke n b3 b4 σ) := by
  intro n
  induction n with
  | zero => intros; exact fr_none
  | succ n ih =>
    intro b3 b4 σ hK0
    rw [LX8_looksAt_5]
    refine fr_if (fun _ => ?_) (fun _ => ?_)
    · skip
      exact hke _ _ hK0
    · skip
      refine fr_bd (fun r τ hh => hK0.tr (fr_fX8_isSeen _ _ _ _ r τ hh) (kp_sub hs (kp_pick [] rfl))) (fun r2 σ1 hK1 => ?_)
      refine fr_ltv (fun x6 => ?_)
      exact ih _ _ _ hK1
theorem fr_LX8_looksAt_57 {S : List (Nat × Nat × Nat)} {σ0 : St} (a1 : Int32) (a2 : Int32) (hs : ∀ e ∈ ([] : List (Nat × Nat × Nat)), e ∈ S) (ke : Int32 → St → Option (Unit × St)) (hke : ∀ (e0 : Int32) (τ : St), Kp S σ0 τ → Fr S σ0 (ke e0 τ)) : ∀ (n : Nat) (b4 : Int32) (b5 : Int32) (σ : St), Kp S σ0 σ → Fr S σ0 (LX8_looksAt_57 a1 a2 ke n b4 b5 σ) := by
  intro n
  induction n with
  | zero => intros; exact fr_none
  | succ n ih =>
    intro b4 b5 σ hK0
    rw [LX8_looksAt_57]
    refine fr_if (fun _ => ?_) (fun _ => ?_)
    · skip
      exact hke _ _ hK0
    · skip
      refine fr_gi (fun hv1 => ?_)
      refine fr_if (fun _ => ?_) (fun _ => ?_)
      · skip
        exact hke _ _ hK0
      · skip
        refine fr_gi (fun hv2 => ?_)
        refine fr_ltv (fun x10 => ?_)
        exact ih _ _ _ hK0
theorem fr_LX8_looksAt_116 {S : List (Nat × Nat × Nat)} {σ0 : St} (a1 : Int32) (a2 : Int32) (a4 : Int32) (hs : ∀ e ∈ ([] : List (Nat × Nat × Nat)), e ∈ S) (ke : Int32 → St → Option (Unit × St)) (hke : ∀ (e0 : Int32) (τ : St), Kp S σ0 τ → Fr S σ0 (ke e0 τ)) : ∀ (n : Nat) (b5 : Int32) (b6 : Int32) (σ : St), Kp S σ0 σ → Fr S σ0 (LX8_looksAt_116 a1 a2 a4 ke n b5 b6 σ) := by
  intro n
  induction n with
  | zero => intros; exact fr_none
  | succ n ih =>
    intro b5 b6 σ hK0
    rw [LX8_looksAt_116]
    refine fr_if (fun _ => ?_) (fun _ => ?_)
    · skip
      exact hke _ _ hK0
    · skip
      refine fr_if (fun _ => ?_) (fun _ => ?_)
      · skip
        exact hke _ _ hK0
      · skip
        refine fr_jn (fun j165 => ∀ (x15 : Int32) (σ14 : St), Kp S σ0 σ14 → Fr S σ0 (j165 x15 σ14)) ?_ ?_
        · intro x15 σ14 hK1
          exact ih _ _ _ hK1
        · intro j165 hj165
          refine fr_jn (fun j163 => ∀ (σ16 : St), Kp S σ0 σ16 → Fr S σ0 (j163 σ16)) ?_ ?_
          · intro σ16 hK2
            exact hj165 _ _ hK2
          · intro j163 hj163
            refine fr_if (fun _ => ?_) (fun _ => ?_)
            · skip
              exact hj163 _ hK0
            · skip
              refine fr_gi (fun hv3 => ?_)
              refine fr_if (fun _ => ?_) (fun _ => ?_)
              · skip
                exact hj165 _ _ hK0
              · skip
                exact hj163 _ hK0
theorem fr_fX8_looksAt (p1 : Int32) (p2 : Int32) (σ : St) : Fr [(52, 0, 1), (53, 0, 1), (54, 0, 1)] σ (fX8_looksAt p1 p2 σ) := by
  unfold fX8_looksAt
  refine fr_LX8_looksAt_5 (S := [(52, 0, 1), (53, 0, 1), (54, 0, 1)]) _ _ (kp_pick [] rfl) _ (fun x7 σ8 hK1 => ?_) FU _ _ _ kp_rf
  refine fr_gi (fun hv2 => ?_)
  refine fr_lts (hK1.wI (fr_m 0 rfl (by omega) (by omega))) (fun σ9 hK3 => ?_)
  refine fr_LX8_looksAt_57 (S := [(52, 0, 1), (53, 0, 1), (54, 0, 1)]) _ _ (kp_pick [] rfl) _ (fun x11 σ12 hK4 => ?_) FU _ _ _ hK3
  refine fr_gi (fun hv5 => ?_)
  refine fr_lts (hK4.wI (fr_m 1 rfl (by omega) (by omega))) (fun σ13 hK6 => ?_)
  refine fr_LX8_looksAt_116 (S := [(52, 0, 1), (53, 0, 1), (54, 0, 1)]) _ _ _ (kp_pick [] rfl) _ (fun x17 σ18 hK7 => ?_) FU _ _ _ hK6
  refine fr_gi (fun hv8 => ?_)
  refine fr_lts (hK7.wI (fr_m 2 rfl (by omega) (by omega))) (fun σ19 hK9 => ?_)
  exact fr_some hK9
theorem fr_LX8_laysPass_12 {S : List (Nat × Nat × Nat)} {σ0 : St} (hs : ∀ e ∈ [(55, 0, 1)], e ∈ S) (ke : St → Option (Unit × St)) (hke : ∀ (τ : St), Kp S σ0 τ → Fr S σ0 (ke τ)) : ∀ (n : Nat) (b2 : Int32) (σ : St), Kp S σ0 σ → Fr S σ0 (LX8_laysPass_12 ke n b2 σ) := by
  intro n
  induction n with
  | zero => intros; exact fr_none
  | succ n ih =>
    intro b2 σ hK0
    rw [LX8_laysPass_12]
    refine fr_if (fun _ => ?_) (fun _ => ?_)
    · skip
      exact hke _ hK0
    · skip
      refine fr_gi (fun hv1 => ?_)
      refine fr_lts (hK0.wI (fr_h hs 0 rfl (by omega) (by omega))) (fun σ3 hK2 => ?_)
      exact ih _ _ hK2
theorem fr_LX8_laysPass_43 {S : List (Nat × Nat × Nat)} {σ0 : St} (a2 : Int32) (hs : ∀ e ∈ [(51, 0, 1)], e ∈ S) (ke : St → Option (Unit × St)) (hke : ∀ (τ : St), Kp S σ0 τ → Fr S σ0 (ke τ)) : ∀ (n : Nat) (b3 : Int32) (σ : St), Kp S σ0 σ → Fr S σ0 (LX8_laysPass_43 a2 ke n b3 σ) := by
  intro n
  induction n with
  | zero => intros; exact fr_none
  | succ n ih =>
    intro b3 σ hK0
    rw [LX8_laysPass_43]
    refine fr_gi (fun hv1 => ?_)
    refine fr_if (fun _ => ?_) (fun _ => ?_)
    · skip
      exact hke _ hK0
    · skip
      refine fr_bd (fun r τ hh => hK0.tr (fr_fX8_drivesAt _ _ _ r τ hh) (kp_sub hs (kp_pick [0] rfl))) (fun _ σ5 hK2 => ?_)
      exact ih _ _ hK2
theorem fr_LX8_laysPass_67 {S : List (Nat × Nat × Nat)} {σ0 : St} (a2 : Int32) (hs : ∀ e ∈ [(8, 0, 1), (55, 0, 1)], e ∈ S) (ke : St → Option (Unit × St)) (hke : ∀ (τ : St), Kp S σ0 τ → Fr S σ0 (ke τ)) : ∀ (n : Nat) (b3 : Int32) (σ : St), Kp S σ0 σ → Fr S σ0 (LX8_laysPass_67 a2 ke n b3 σ) := by
  intro n
  induction n with
  | zero => intros; exact fr_none
  | succ n ih =>
    intro b3 σ hK0
    rw [LX8_laysPass_67]
    refine fr_gi (fun hv1 => ?_)
    refine fr_if (fun _ => ?_) (fun _ => ?_)
    · skip
      exact hke _ hK0
    · skip
      refine fr_bd (fun r τ hh => hK0.tr (fr_fX8_dipsAt _ _ _ r τ hh) (kp_sub hs (kp_pick [0, 1] rfl))) (fun _ σ7 hK2 => ?_)
      exact ih _ _ hK2
theorem fr_LX8_laysPass_91 {S : List (Nat × Nat × Nat)} {σ0 : St} (a2 : Int32) (hs : ∀ e ∈ [(52, 0, 1), (53, 0, 1), (54, 0, 1)], e ∈ S) (ke : St → Option (Unit × St)) (hke : ∀ (τ : St), Kp S σ0 τ → Fr S σ0 (ke τ)) : ∀ (n : Nat) (b3 : Int32) (σ : St), Kp S σ0 σ → Fr S σ0 (LX8_laysPass_91 a2 ke n b3 σ) := by
  intro n
  induction n with
  | zero => intros; exact fr_none
  | succ n ih =>
    intro b3 σ hK0
    rw [LX8_laysPass_91]
    refine fr_gi (fun hv1 => ?_)
    refine fr_if (fun _ => ?_) (fun _ => ?_)
    · skip
      exact hke _ hK0
    · skip
      refine fr_bd (fun r τ hh => hK0.tr (fr_fX8_looksAt _ _ _ r τ hh) (kp_sub hs (kp_pick [0, 1, 2] rfl))) (fun _ σ9 hK2 => ?_)
      exact ih _ _ hK2
theorem fr_LX8_laysPass_34 {S : List (Nat × Nat × Nat)} {σ0 : St} (hs : ∀ e ∈ [(51, 0, 1), (8, 0, 1), (55, 0, 1), (52, 0, 1), (53, 0, 1), (54, 0, 1)], e ∈ S) (ke : St → Option (Unit × St)) (hke : ∀ (τ : St), Kp S σ0 τ → Fr S σ0 (ke τ)) : ∀ (n : Nat) (b2 : Int32) (σ : St), Kp S σ0 σ → Fr S σ0 (LX8_laysPass_34 ke n b2 σ) := by
  intro n
  induction n with
  | zero => intros; exact fr_none
  | succ n ih =>
    intro b2 σ hK0
    rw [LX8_laysPass_34]
    refine fr_if (fun _ => ?_) (fun _ => ?_)
    · skip
      exact hke _ hK0
    · skip
      refine fr_LX8_laysPass_43 (S := S) _ (kp_sub hs (kp_pick [0] rfl)) _ (fun σ6 hK1 => ?_) FU _ _ hK0
      refine fr_LX8_laysPass_67 (S := S) _ (kp_sub hs (kp_pick [1, 2] rfl)) _ (fun σ8 hK2 => ?_) FU _ _ hK1
      refine fr_LX8_laysPass_91 (S := S) _ (kp_sub hs (kp_pick [3, 4, 5] rfl)) _ (fun σ10 hK3 => ?_) FU _ _ hK2
      exact ih _ _ hK3
theorem fr_fX8_laysPass (p1 : Int32) (σ : St) : Fr [(8, 0, 1), (55, 0, 1), (51, 0, 1), (52, 0, 1), (53, 0, 1), (54, 0, 1)] σ (fX8_laysPass p1 σ) := by
  unfold fX8_laysPass
  refine fr_lts (kp_rf.wI (fr_m 0 rfl (by omega) (by omega))) (fun σ1 hK1 => ?_)
  refine fr_lts (hK1.wI (fr_m 0 rfl (by omega) (by omega))) (fun σ2 hK2 => ?_)
  refine fr_LX8_laysPass_12 (S := [(8, 0, 1), (55, 0, 1), (51, 0, 1), (52, 0, 1), (53, 0, 1), (54, 0, 1)])  (kp_pick [1] rfl) _ (fun σ4 hK3 => ?_) FU _ _ hK2
  refine fr_LX8_laysPass_34 (S := [(8, 0, 1), (55, 0, 1), (51, 0, 1), (52, 0, 1), (53, 0, 1), (54, 0, 1)])  (kp_pick [2, 0, 1, 3, 4, 5] rfl) _ (fun σ11 hK4 => ?_) FU _ _ hK3
  exact fr_some hK4
theorem fr_LX8_rightOnes_6 {S : List (Nat × Nat × Nat)} {σ0 : St} (hs : ∀ e ∈ ([] : List (Nat × Nat × Nat)), e ∈ S) (ke : Int32 → St → Option (Int32 × St)) (hke : ∀ (e0 : Int32) (τ : St), Kp S σ0 τ → Fr S σ0 (ke e0 τ)) : ∀ (n : Nat) (b1 : Int32) (b2 : Int32) (b3 : Int32) (σ : St), Kp S σ0 σ → Fr S σ0 (LX8_rightOnes_6 ke n b1 b2 b3 σ) := by
  intro n
  induction n with
  | zero => intros; exact fr_none
  | succ n ih =>
    intro b1 b2 b3 σ hK0
    rw [LX8_rightOnes_6]
    refine fr_gi (fun hv1 => ?_)
    refine fr_if (fun _ => ?_) (fun _ => ?_)
    · skip
      exact hke _ _ hK0
    · skip
      refine fr_jn (fun j66 => ∀ (x2 : Int32) (x3 : Int32) (σ1 : St), Kp S σ0 σ1 → Fr S σ0 (j66 x2 x3 σ1)) ?_ ?_
      · intro x2 x3 σ1 hK2
        exact ih _ _ _ _ hK2
      · intro j66 hj66
        refine fr_if (fun _ => ?_) (fun _ => ?_)
        · skip
          exact hj66 _ _ _ hK0
        · skip
          refine fr_gi (fun hv3 => ?_)
          refine fr_if (fun _ => ?_) (fun _ => ?_)
          · skip
            exact hj66 _ _ _ hK0
          · skip
            refine fr_gi (fun hv4 => ?_)
            refine fr_ltv (fun x7 => ?_)
            refine fr_gi (fun hv5 => ?_)
            refine fr_ltv (fun x8 => ?_)
            exact hj66 _ _ _ hK0
theorem fr_fX8_rightOnes (σ : St) : Fr ([] : List (Nat × Nat × Nat)) σ (fX8_rightOnes σ) := by
  unfold fX8_rightOnes
  refine fr_LX8_rightOnes_6 (S := [])  (kp_pick [] rfl) _ (fun x9 σ10 hK1 => ?_) FU _ _ _ _ kp_rf
  exact fr_some hK1
theorem fr_LX8_winnersAt_4 {S : List (Nat × Nat × Nat)} {σ0 : St} (a1 : Int32) (hs : ∀ e ∈ ([] : List (Nat × Nat × Nat)), e ∈ S) (ke : Int32 → St → Option (Int32 × St)) (hke : ∀ (e0 : Int32) (τ : St), Kp S σ0 τ → Fr S σ0 (ke e0 τ)) : ∀ (n : Nat) (b2 : Int32) (b3 : Int32) (σ : St), Kp S σ0 σ → Fr S σ0 (LX8_winnersAt_4 a1 ke n b2 b3 σ) := by
  intro n
  induction n with
  | zero => intros; exact fr_none
  | succ n ih =>
    intro b2 b3 σ hK0
    rw [LX8_winnersAt_4]
    refine fr_gi (fun hv1 => ?_)
    refine fr_if (fun _ => ?_) (fun _ => ?_)
    · skip
      exact hke _ _ hK0
    · skip
      refine fr_jn (fun j48 => ∀ (x2 : Int32) (σ1 : St), Kp S σ0 σ1 → Fr S σ0 (j48 x2 σ1)) ?_ ?_
      · intro x2 σ1 hK2
        refine fr_ltv (fun x3 => ?_)
        exact ih _ _ _ hK2
      · intro j48 hj48
        refine fr_jn (fun j47 => ∀ (σ4 : St), Kp S σ0 σ4 → Fr S σ0 (j47 σ4)) ?_ ?_
        · intro σ4 hK3
          exact hj48 _ _ hK3
        · intro j47 hj47
          refine fr_if (fun _ => ?_) (fun _ => ?_)
          · skip
            exact hj47 _ hK0
          · skip
            refine fr_gi (fun hv4 => ?_)
            refine fr_if (fun _ => ?_) (fun _ => ?_)
            · skip
              exact hj48 _ _ hK0
            · skip
              exact hj47 _ hK0
theorem fr_fX8_winnersAt (p1 : Int32) (σ : St) : Fr ([] : List (Nat × Nat × Nat)) σ (fX8_winnersAt p1 σ) := by
  unfold fX8_winnersAt
  refine fr_LX8_winnersAt_4 (S := []) _ (kp_pick [] rfl) _ (fun x5 σ6 hK1 => ?_) FU _ _ _ kp_rf
  exact fr_some hK1
theorem fr_LX8_sureAt_9 {S : List (Nat × Nat × Nat)} {σ0 : St} (a1 : Int32) (hs : ∀ e ∈ ([] : List (Nat × Nat × Nat)), e ∈ S) (ke : Int32 → St → Option (Int32 × St)) (hke : ∀ (e0 : Int32) (τ : St), Kp S σ0 τ → Fr S σ0 (ke e0 τ)) : ∀ (n : Nat) (b2 : Int32) (σ : St), Kp S σ0 σ → Fr S σ0 (LX8_sureAt_9 a1 ke n b2 σ) := by
  intro n
  induction n with
  | zero => intros; exact fr_none
  | succ n ih =>
    intro b2 σ hK0
    rw [LX8_sureAt_9]
    refine fr_if (fun _ => ?_) (fun _ => ?_)
    · skip
      exact hke _ _ hK0
    · skip
      refine fr_bd (fun r τ hh => hK0.tr (fr_fX8_winnersAt _ _ r τ hh) (kp_sub hs (kp_pick [] rfl))) (fun r4 σ3 hK1 => ?_)
      refine fr_if (fun _ => ?_) (fun _ => ?_)
      · skip
        exact ih _ _ hK1
      · skip
        exact hke _ _ hK1
theorem fr_fX8_sureAt (σ : St) : Fr ([] : List (Nat × Nat × Nat)) σ (fX8_sureAt σ) := by
  unfold fX8_sureAt
  refine fr_bd (fun r τ hh => kp_rf.tr (fr_fX8_rightOnes _ r τ hh) (kp_pick [] rfl)) (fun r2 σ1 hK1 => ?_)
  refine fr_LX8_sureAt_9 (S := []) _ (kp_pick [] rfl) _ (fun x5 σ6 hK2 => ?_) FU _ _ hK1
  exact fr_some hK2
theorem fr_fX8_isSet (p1 : Int32) (σ : St) : Fr ([] : List (Nat × Nat × Nat)) σ (fX8_isSet p1 σ) := by
  unfold fX8_isSet
  refine fr_gi (fun hv1 => ?_)
  exact fr_rz kp_rf
theorem fr_fX8_passWhy (p1 : Int32) (p2 : Int32) (p3 : Int32) (p4 : Int32) (σ : St) : Fr ([] : List (Nat × Nat × Nat)) σ (fX8_passWhy p1 p2 p3 p4 σ) := by
  unfold fX8_passWhy
  refine fr_jn (fun j11 => ∀ (σ1 : St), Kp ([]) σ σ1 → Fr ([]) σ (j11 σ1)) ?_ ?_
  · intro σ1 hK1
    exact fr_some hK1
  · intro j11 hj11
    refine fr_if (fun _ => ?_) (fun _ => ?_)
    · skip
      exact hj11 _ kp_rf
    · skip
      refine fr_if (fun _ => ?_) (fun _ => ?_)
      · skip
        exact hj11 _ kp_rf
      · skip
        refine fr_if (fun _ => ?_) (fun _ => ?_)
        · skip
          exact fr_some kp_rf
        · skip
          refine fr_bd (fun r τ hh => kp_rf.tr (fr_fX8_isSet _ _ r τ hh) (kp_pick [] rfl)) (fun r3 σ2 hK2 => ?_)
          exact fr_some hK2
theorem fr_LX8_doesWait_2 {S : List (Nat × Nat × Nat)} {σ0 : St} (a2 : Int32) (hs : ∀ e ∈ ([] : List (Nat × Nat × Nat)), e ∈ S) (ke : Int32 → St → Option (Int32 × St)) (hke : ∀ (e0 : Int32) (τ : St), Kp S σ0 τ → Fr S σ0 (ke e0 τ)) : ∀ (n : Nat) (b3 : Int32) (σ : St), Kp S σ0 σ → Fr S σ0 (LX8_doesWait_2 a2 ke n b3 σ) := by
  intro n
  induction n with
  | zero => intros; exact fr_none
  | succ n ih =>
    intro b3 σ hK0
    rw [LX8_doesWait_2]
    refine fr_if (fun _ => ?_) (fun _ => ?_)
    · skip
      exact hke _ _ hK0
    · skip
      refine fr_if (fun _ => ?_) (fun _ => ?_)
      · skip
        exact hke _ _ hK0
      · skip
        refine fr_gi (fun hv1 => ?_)
        refine fr_ltv (fun x1 => ?_)
        exact ih _ _ hK0
theorem fr_fX8_doesWait (p1 : Int32) (p2 : Int32) (σ : St) : Fr ([] : List (Nat × Nat × Nat)) σ (fX8_doesWait p1 p2 σ) := by
  unfold fX8_doesWait
  refine fr_LX8_doesWait_2 (S := []) _ (kp_pick [] rfl) _ (fun x2 σ3 hK1 => ?_) FU _ _ kp_rf
  exact fr_rz hK1
theorem fr_LX8_rankOf_4 {S : List (Nat × Nat × Nat)} {σ0 : St} (a1 : Int32) (hs : ∀ e ∈ ([] : List (Nat × Nat × Nat)), e ∈ S) (ke : Int32 → St → Option (Int32 × St)) (hke : ∀ (e0 : Int32) (τ : St), Kp S σ0 τ → Fr S σ0 (ke e0 τ)) : ∀ (n : Nat) (b2 : Int32) (b3 : Int32) (σ : St), Kp S σ0 σ → Fr S σ0 (LX8_rankOf_4 a1 ke n b2 b3 σ) := by
  intro n
  induction n with
  | zero => intros; exact fr_none
  | succ n ih =>
    intro b2 b3 σ hK0
    rw [LX8_rankOf_4]
    refine fr_gi (fun hv1 => ?_)
    refine fr_if (fun _ => ?_) (fun _ => ?_)
    · skip
      exact hke _ _ hK0
    · skip
      refine fr_bd (fun r τ hh => hK0.tr (fr_fX8_doesWait _ _ _ r τ hh) (kp_sub hs (kp_pick [] rfl))) (fun r2 σ1 hK2 => ?_)
      refine fr_jn (fun j49 => ∀ (x4 : Int32) (σ3 : St), Kp S σ0 σ3 → Fr S σ0 (j49 x4 σ3)) ?_ ?_
      · intro x4 σ3 hK3
        exact ih _ _ _ hK3
      · intro j49 hj49
        refine fr_jn (fun j48 => ∀ (σ5 : St), Kp S σ0 σ5 → Fr S σ0 (j48 σ5)) ?_ ?_
        · intro σ5 hK4
          exact hj49 _ _ hK4
        · intro j48 hj48
          refine fr_if (fun _ => ?_) (fun _ => ?_)
          · skip
            exact hj48 _ hK2
          · skip
            refine fr_gi (fun hv5 => ?_)
            refine fr_if (fun _ => ?_) (fun _ => ?_)
            · skip
              exact hj48 _ hK2
            · skip
              refine fr_gi (fun hv6 => ?_)
              exact hj49 _ _ hK2
theorem fr_fX8_rankOf (p1 : Int32) (σ : St) : Fr ([] : List (Nat × Nat × Nat)) σ (fX8_rankOf p1 σ) := by
  unfold fX8_rankOf
  refine fr_LX8_rankOf_4 (S := []) _ (kp_pick [] rfl) _ (fun x6 σ7 hK1 => ?_) FU _ _ _ kp_rf
  exact fr_some hK1
theorem fr_LX8_bitsOf_4 {S : List (Nat × Nat × Nat)} {σ0 : St} (hs : ∀ e ∈ ([] : List (Nat × Nat × Nat)), e ∈ S) (ke : Int32 → St → Option (Int32 × St)) (hke : ∀ (e0 : Int32) (τ : St), Kp S σ0 τ → Fr S σ0 (ke e0 τ)) : ∀ (n : Nat) (b1 : Int32) (b2 : Int32) (σ : St), Kp S σ0 σ → Fr S σ0 (LX8_bitsOf_4 ke n b1 b2 σ) := by
  intro n
  induction n with
  | zero => intros; exact fr_none
  | succ n ih =>
    intro b1 b2 σ hK0
    rw [LX8_bitsOf_4]
    refine fr_if (fun _ => ?_) (fun _ => ?_)
    · skip
      exact hke _ _ hK0
    · skip
      refine fr_ltv (fun x1 => ?_)
      exact ih _ _ _ hK0
theorem fr_fX8_bitsOf (p0 : Int32) (σ : St) : Fr ([] : List (Nat × Nat × Nat)) σ (fX8_bitsOf p0 σ) := by
  unfold fX8_bitsOf
  refine fr_LX8_bitsOf_4 (S := [])  (kp_pick [] rfl) _ (fun x2 σ3 hK1 => ?_) FU _ _ _ kp_rf
  exact fr_some hK1
theorem fr_fX8_odd (p0 : Int32) (σ : St) : Fr ([] : List (Nat × Nat × Nat)) σ (fX8_odd p0 σ) := by
  unfold fX8_odd
  refine fr_bd (fun r τ hh => kp_rf.tr (fr_fX8_bitsOf _ _ r τ hh) (kp_pick [] rfl)) (fun r2 σ1 hK1 => ?_)
  exact fr_some hK1
theorem fr_fX8_wordOf (p1 : Int32) (p2 : Int32) (σ : St) : Fr ([] : List (Nat × Nat × Nat)) σ (fX8_wordOf p1 p2 σ) := by
  unfold fX8_wordOf
  refine fr_if (fun _ => ?_) (fun _ => ?_)
  · skip
    refine fr_bd (fun r τ hh => kp_rf.tr (fr_fX8_rankOf _ _ r τ hh) (kp_pick [] rfl)) (fun r4 σ3 hK1 => ?_)
    refine fr_gi (fun hv2 => ?_)
    refine fr_bd (fun r τ hh => hK1.tr (fr_fX8_odd _ _ r τ hh) (kp_pick [] rfl)) (fun r6 σ5 hK3 => ?_)
    exact fr_some hK3
  · skip
    refine fr_gi (fun hv4 => ?_)
    refine fr_bd (fun r τ hh => kp_rf.tr (fr_fX8_odd _ _ r τ hh) (kp_pick [] rfl)) (fun r2 σ1 hK5 => ?_)
    exact fr_some hK5
theorem fr_LX8_passes_2 {S : List (Nat × Nat × Nat)} {σ0 : St} (a1 : Int32) (a2 : Int32) (hs : ∀ e ∈ [(50, 0, 1)], e ∈ S) (ke : St → Option (Unit × St)) (hke : ∀ (τ : St), Kp S σ0 τ → Fr S σ0 (ke τ)) : ∀ (n : Nat) (b3 : Int32) (σ : St), Kp S σ0 σ → Fr S σ0 (LX8_passes_2 a1 a2 ke n b3 σ) := by
  intro n
  induction n with
  | zero => intros; exact fr_none
  | succ n ih =>
    intro b3 σ hK0
    rw [LX8_passes_2]
    refine fr_gi (fun hv1 => ?_)
    refine fr_if (fun _ => ?_) (fun _ => ?_)
    · skip
      exact hke _ hK0
    · skip
      refine fr_bd (fun r τ hh => hK0.tr (fr_fX8_wordOf _ _ _ r τ hh) (kp_sub hs (kp_pick [] rfl))) (fun r2 σ1 hK2 => ?_)
      refine fr_gi (fun hv3 => ?_)
      refine fr_lts (hK2.wI (fr_h hs 0 rfl (by omega) (by omega))) (fun σ3 hK4 => ?_)
      exact ih _ _ hK4
theorem fr_fX8_passes (p1 : Int32) (p2 : Int32) (σ : St) : Fr [(50, 0, 1), (8, 0, 1), (55, 0, 1), (51, 0, 1), (52, 0, 1), (53, 0, 1), (54, 0, 1)] σ (fX8_passes p1 p2 σ) := by
  unfold fX8_passes
  refine fr_LX8_passes_2 (S := [(50, 0, 1), (8, 0, 1), (55, 0, 1), (51, 0, 1), (52, 0, 1), (53, 0, 1), (54, 0, 1)]) _ _ (kp_pick [0] rfl) _ (fun σ4 hK1 => ?_) FU _ _ kp_rf
  refine fr_bd (fun r τ hh => hK1.tr (fr_fX8_laysPass _ _ r τ hh) (kp_pick [1, 2, 3, 4, 5, 6] rfl)) (fun _ σ5 hK2 => ?_)
  exact fr_some hK2
theorem fr_fX8_drives (p1 : Int32) (p2 : Int32) (p3 : Int32) (p4 : Int32) (σ : St) : Fr [(8, 0, 1), (50, 0, 1), (55, 0, 1), (51, 0, 1), (52, 0, 1), (53, 0, 1), (54, 0, 1)] σ (fX8_drives p1 p2 p3 p4 σ) := by
  unfold fX8_drives
  refine fr_bd (fun r τ hh => kp_rf.tr (fr_fX8_isBoard _ _ r τ hh) (kp_pick [] rfl)) (fun r2 σ1 hK1 => ?_)
  refine fr_bd (fun r τ hh => hK1.tr (fr_fX8_passWhy _ _ _ _ _ r τ hh) (kp_pick [] rfl)) (fun r4 σ3 hK2 => ?_)
  refine fr_bd (fun r τ hh => hK2.tr (fr_fX8_isRefused _ _ r τ hh) (kp_pick [0] rfl)) (fun r6 σ5 hK3 => ?_)
  refine fr_if (fun _ => ?_) (fun _ => ?_)
  · skip
    refine fr_bd (fun r τ hh => hK3.tr (fr_fX8_passes _ _ _ r τ hh) (kp_pick [1, 0, 2, 3, 4, 5, 6] rfl)) (fun _ σ7 hK4 => ?_)
    refine fr_gi (fun hv5 => ?_)
    exact fr_some hK4
  · skip
    exact fr_some hK3
theorem fr_fX8_seen (p1 : Int32) (p2 : Int32) (p3 : Int32) (p4 : Int32) (σ : St) : Fr [(8, 0, 1), (50, 0, 1), (55, 0, 1), (51, 0, 1), (52, 0, 1), (53, 0, 1), (54, 0, 1)] σ (fX8_seen p1 p2 p3 p4 σ) := by
  unfold fX8_seen
  refine fr_bd (fun r τ hh => kp_rf.tr (fr_fX8_isBoard _ _ r τ hh) (kp_pick [] rfl)) (fun r2 σ1 hK1 => ?_)
  refine fr_bd (fun r τ hh => hK1.tr (fr_fX8_passWhy _ _ _ _ _ r τ hh) (kp_pick [] rfl)) (fun r4 σ3 hK2 => ?_)
  refine fr_bd (fun r τ hh => hK2.tr (fr_fX8_isRefused _ _ r τ hh) (kp_pick [0] rfl)) (fun r6 σ5 hK3 => ?_)
  refine fr_if (fun _ => ?_) (fun _ => ?_)
  · skip
    refine fr_bd (fun r τ hh => hK3.tr (fr_fX8_passes _ _ _ r τ hh) (kp_pick [1, 0, 2, 3, 4, 5, 6] rfl)) (fun _ σ7 hK4 => ?_)
    refine fr_gi (fun hv5 => ?_)
    exact fr_some hK4
  · skip
    exact fr_some hK3
theorem fr_fX8_taken (p1 : Int32) (p2 : Int32) (p3 : Int32) (p4 : Int32) (σ : St) : Fr [(8, 0, 1), (50, 0, 1), (55, 0, 1), (51, 0, 1), (52, 0, 1), (53, 0, 1), (54, 0, 1)] σ (fX8_taken p1 p2 p3 p4 σ) := by
  unfold fX8_taken
  refine fr_bd (fun r τ hh => kp_rf.tr (fr_fX8_isBoard _ _ r τ hh) (kp_pick [] rfl)) (fun r2 σ1 hK1 => ?_)
  refine fr_bd (fun r τ hh => hK1.tr (fr_fX8_passWhy _ _ _ _ _ r τ hh) (kp_pick [] rfl)) (fun r4 σ3 hK2 => ?_)
  refine fr_bd (fun r τ hh => hK2.tr (fr_fX8_isRefused _ _ r τ hh) (kp_pick [0] rfl)) (fun r6 σ5 hK3 => ?_)
  refine fr_if (fun _ => ?_) (fun _ => ?_)
  · skip
    refine fr_bd (fun r τ hh => hK3.tr (fr_fX8_passes _ _ _ r τ hh) (kp_pick [1, 0, 2, 3, 4, 5, 6] rfl)) (fun _ σ7 hK4 => ?_)
    refine fr_gi (fun hv5 => ?_)
    exact fr_some hK4
  · skip
    exact fr_some hK3
theorem fr_fX8_withdrawn (p1 : Int32) (p2 : Int32) (p3 : Int32) (p4 : Int32) (σ : St) : Fr [(8, 0, 1), (50, 0, 1), (55, 0, 1), (51, 0, 1), (52, 0, 1), (53, 0, 1), (54, 0, 1)] σ (fX8_withdrawn p1 p2 p3 p4 σ) := by
  unfold fX8_withdrawn
  refine fr_bd (fun r τ hh => kp_rf.tr (fr_fX8_isBoard _ _ r τ hh) (kp_pick [] rfl)) (fun r2 σ1 hK1 => ?_)
  refine fr_bd (fun r τ hh => hK1.tr (fr_fX8_passWhy _ _ _ _ _ r τ hh) (kp_pick [] rfl)) (fun r4 σ3 hK2 => ?_)
  refine fr_bd (fun r τ hh => hK2.tr (fr_fX8_isRefused _ _ r τ hh) (kp_pick [0] rfl)) (fun r6 σ5 hK3 => ?_)
  refine fr_if (fun _ => ?_) (fun _ => ?_)
  · skip
    refine fr_bd (fun r τ hh => hK3.tr (fr_fX8_passes _ _ _ r τ hh) (kp_pick [1, 0, 2, 3, 4, 5, 6] rfl)) (fun _ σ7 hK4 => ?_)
    refine fr_gi (fun hv5 => ?_)
    exact fr_some hK4
  · skip
    exact fr_some hK3
theorem fr_fX8_winners (p1 : Int32) (p2 : Int32) (p3 : Int32) (σ : St) : Fr [(8, 0, 1), (50, 0, 1), (55, 0, 1), (51, 0, 1), (52, 0, 1), (53, 0, 1), (54, 0, 1)] σ (fX8_winners p1 p2 p3 σ) := by
  unfold fX8_winners
  refine fr_bd (fun r τ hh => kp_rf.tr (fr_fX8_passWhy _ _ _ _ _ r τ hh) (kp_pick [] rfl)) (fun r2 σ1 hK1 => ?_)
  refine fr_bd (fun r τ hh => hK1.tr (fr_fX8_isRefused _ _ r τ hh) (kp_pick [0] rfl)) (fun r4 σ3 hK2 => ?_)
  refine fr_if (fun _ => ?_) (fun _ => ?_)
  · skip
    refine fr_bd (fun r τ hh => hK2.tr (fr_fX8_passes _ _ _ r τ hh) (kp_pick [1, 0, 2, 3, 4, 5, 6] rfl)) (fun _ σ5 hK3 => ?_)
    refine fr_bd (fun r τ hh => hK3.tr (fr_fX8_winnersAt _ _ r τ hh) (kp_pick [] rfl)) (fun r7 σ6 hK4 => ?_)
    exact fr_some hK4
  · skip
    exact fr_some hK2
theorem fr_LX8_areSettled_2 {S : List (Nat × Nat × Nat)} {σ0 : St} (a1 : Int32) (hs : ∀ e ∈ ([] : List (Nat × Nat × Nat)), e ∈ S) (ke : St → Option (Int32 × St)) (hke : ∀ (τ : St), Kp S σ0 τ → Fr S σ0 (ke τ)) : ∀ (n : Nat) (b2 : Int32) (σ : St), Kp S σ0 σ → Fr S σ0 (LX8_areSettled_2 a1 ke n b2 σ) := by
  intro n
  induction n with
  | zero => intros; exact fr_none
  | succ n ih =>
    intro b2 σ hK0
    rw [LX8_areSettled_2]
    refine fr_gi (fun hv1 => ?_)
    refine fr_if (fun _ => ?_) (fun _ => ?_)
    · skip
      exact hke _ hK0
    · skip
      refine fr_gi (fun hv2 => ?_)
      refine fr_gi (fun hv3 => ?_)
      refine fr_if (fun _ => ?_) (fun _ => ?_)
      · skip
        exact ih _ _ hK0
      · skip
        exact fr_some hK0
theorem fr_fX8_areSettled (p1 : Int32) (σ : St) : Fr ([] : List (Nat × Nat × Nat)) σ (fX8_areSettled p1 σ) := by
  unfold fX8_areSettled
  refine fr_LX8_areSettled_2 (S := []) _ (kp_pick [] rfl) _ (fun σ1 hK1 => ?_) FU _ _ kp_rf
  exact fr_some hK1
theorem fr_LX8_settledAt_4 {S : List (Nat × Nat × Nat)} {σ0 : St} (hs : ∀ e ∈ ([] : List (Nat × Nat × Nat)), e ∈ S) (ke : Int32 → St → Option (Int32 × St)) (hke : ∀ (e0 : Int32) (τ : St), Kp S σ0 τ → Fr S σ0 (ke e0 τ)) : ∀ (n : Nat) (b1 : Int32) (σ : St), Kp S σ0 σ → Fr S σ0 (LX8_settledAt_4 ke n b1 σ) := by
  intro n
  induction n with
  | zero => intros; exact fr_none
  | succ n ih =>
    intro b1 σ hK0
    rw [LX8_settledAt_4]
    refine fr_if (fun _ => ?_) (fun _ => ?_)
    · skip
      exact hke _ _ hK0
    · skip
      refine fr_bd (fun r τ hh => hK0.tr (fr_fX8_areSettled _ _ r τ hh) (kp_sub hs (kp_pick [] rfl))) (fun r2 σ1 hK1 => ?_)
      refine fr_if (fun _ => ?_) (fun _ => ?_)
      · skip
        exact hke _ _ hK1
      · skip
        exact ih _ _ hK1
theorem fr_fX8_settledAt (σ : St) : Fr ([] : List (Nat × Nat × Nat)) σ (fX8_settledAt σ) := by
  unfold fX8_settledAt
  refine fr_LX8_settledAt_4 (S := [])  (kp_pick [] rfl) _ (fun x3 σ4 hK1 => ?_) FU _ _ kp_rf
  exact fr_some hK1
theorem fr_fX8_settles (p1 : Int32) (p2 : Int32) (σ : St) : Fr [(8, 0, 1), (50, 0, 1), (55, 0, 1), (51, 0, 1), (52, 0, 1), (53, 0, 1), (54, 0, 1)] σ (fX8_settles p1 p2 σ) := by
  unfold fX8_settles
  refine fr_bd (fun r τ hh => kp_rf.tr (fr_fX8_passWhy _ _ _ _ _ r τ hh) (kp_pick [] rfl)) (fun r2 σ1 hK1 => ?_)
  refine fr_bd (fun r τ hh => hK1.tr (fr_fX8_isRefused _ _ r τ hh) (kp_pick [0] rfl)) (fun r4 σ3 hK2 => ?_)
  refine fr_if (fun _ => ?_) (fun _ => ?_)
  · skip
    refine fr_bd (fun r τ hh => hK2.tr (fr_fX8_passes _ _ _ r τ hh) (kp_pick [1, 0, 2, 3, 4, 5, 6] rfl)) (fun _ σ5 hK3 => ?_)
    refine fr_bd (fun r τ hh => hK3.tr (fr_fX8_settledAt _ r τ hh) (kp_pick [] rfl)) (fun r7 σ6 hK4 => ?_)
    exact fr_some hK4
  · skip
    exact fr_some hK2
theorem fr_fX8_sure (p1 : Int32) (p2 : Int32) (σ : St) : Fr [(8, 0, 1), (50, 0, 1), (55, 0, 1), (51, 0, 1), (52, 0, 1), (53, 0, 1), (54, 0, 1)] σ (fX8_sure p1 p2 σ) := by
  unfold fX8_sure
  refine fr_bd (fun r τ hh => kp_rf.tr (fr_fX8_passWhy _ _ _ _ _ r τ hh) (kp_pick [] rfl)) (fun r2 σ1 hK1 => ?_)
  refine fr_bd (fun r τ hh => hK1.tr (fr_fX8_isRefused _ _ r τ hh) (kp_pick [0] rfl)) (fun r4 σ3 hK2 => ?_)
  refine fr_if (fun _ => ?_) (fun _ => ?_)
  · skip
    refine fr_bd (fun r τ hh => hK2.tr (fr_fX8_passes _ _ _ r τ hh) (kp_pick [1, 0, 2, 3, 4, 5, 6] rfl)) (fun _ σ5 hK3 => ?_)
    refine fr_bd (fun r τ hh => hK3.tr (fr_fX8_sureAt _ r τ hh) (kp_pick [] rfl)) (fun r7 σ6 hK4 => ?_)
    exact fr_some hK4
  · skip
    exact fr_some hK2
theorem fr_fX8_right (p1 : Int32) (p2 : Int32) (σ : St) : Fr [(8, 0, 1), (50, 0, 1), (55, 0, 1), (51, 0, 1), (52, 0, 1), (53, 0, 1), (54, 0, 1)] σ (fX8_right p1 p2 σ) := by
  unfold fX8_right
  refine fr_bd (fun r τ hh => kp_rf.tr (fr_fX8_passWhy _ _ _ _ _ r τ hh) (kp_pick [] rfl)) (fun r2 σ1 hK1 => ?_)
  refine fr_bd (fun r τ hh => hK1.tr (fr_fX8_isRefused _ _ r τ hh) (kp_pick [0] rfl)) (fun r4 σ3 hK2 => ?_)
  refine fr_if (fun _ => ?_) (fun _ => ?_)
  · skip
    refine fr_bd (fun r τ hh => hK2.tr (fr_fX8_passes _ _ _ r τ hh) (kp_pick [1, 0, 2, 3, 4, 5, 6] rfl)) (fun _ σ5 hK3 => ?_)
    refine fr_bd (fun r τ hh => hK3.tr (fr_fX8_rightOnes _ r τ hh) (kp_pick [] rfl)) (fun r7 σ6 hK4 => ?_)
    exact fr_some hK4
  · skip
    exact fr_some hK2
theorem fr_fX8_dips (p1 : Int32) (p2 : Int32) (σ : St) : Fr [(8, 0, 1), (50, 0, 1), (55, 0, 1), (51, 0, 1), (52, 0, 1), (53, 0, 1), (54, 0, 1)] σ (fX8_dips p1 p2 σ) := by
  unfold fX8_dips
  refine fr_bd (fun r τ hh => kp_rf.tr (fr_fX8_passWhy _ _ _ _ _ r τ hh) (kp_pick [] rfl)) (fun r2 σ1 hK1 => ?_)
  refine fr_bd (fun r τ hh => hK1.tr (fr_fX8_isRefused _ _ r τ hh) (kp_pick [0] rfl)) (fun r4 σ3 hK2 => ?_)
  refine fr_if (fun _ => ?_) (fun _ => ?_)
  · skip
    refine fr_bd (fun r τ hh => hK2.tr (fr_fX8_passes _ _ _ r τ hh) (kp_pick [1, 0, 2, 3, 4, 5, 6] rfl)) (fun _ σ5 hK3 => ?_)
    exact fr_some hK3
  · skip
    exact fr_some hK2
theorem fr_LX8_isFaultyAt_2 {S : List (Nat × Nat × Nat)} {σ0 : St} (a1 : Int32) (hs : ∀ e ∈ ([] : List (Nat × Nat × Nat)), e ∈ S) (ke : St → Option (Int32 × St)) (hke : ∀ (τ : St), Kp S σ0 τ → Fr S σ0 (ke τ)) : ∀ (n : Nat) (b2 : Int32) (σ : St), Kp S σ0 σ → Fr S σ0 (LX8_isFaultyAt_2 a1 ke n b2 σ) := by
  intro n
  induction n with
  | zero => intros; exact fr_none
  | succ n ih =>
    intro b2 σ hK0
    rw [LX8_isFaultyAt_2]
    refine fr_gi (fun hv1 => ?_)
    refine fr_if (fun _ => ?_) (fun _ => ?_)
    · skip
      exact hke _ hK0
    · skip
      refine fr_gi (fun hv2 => ?_)
      refine fr_bd (fun r τ hh => hK0.tr (fr_fX8_bitsOf _ _ r τ hh) (kp_sub hs (kp_pick [] rfl))) (fun r2 σ1 hK3 => ?_)
      refine fr_if (fun _ => ?_) (fun _ => ?_)
      · skip
        exact fr_some hK3
      · skip
        exact ih _ _ hK3
theorem fr_fX8_isFaultyAt (p1 : Int32) (σ : St) : Fr ([] : List (Nat × Nat × Nat)) σ (fX8_isFaultyAt p1 σ) := by
  unfold fX8_isFaultyAt
  refine fr_LX8_isFaultyAt_2 (S := []) _ (kp_pick [] rfl) _ (fun σ3 hK1 => ?_) FU _ _ kp_rf
  exact fr_some hK1
theorem fr_fX8_faulty (p1 : Int32) (p2 : Int32) (p3 : Int32) (σ : St) : Fr [(8, 0, 1), (50, 0, 1), (55, 0, 1), (51, 0, 1), (52, 0, 1), (53, 0, 1), (54, 0, 1)] σ (fX8_faulty p1 p2 p3 σ) := by
  unfold fX8_faulty
  refine fr_bd (fun r τ hh => kp_rf.tr (fr_fX8_passWhy _ _ _ _ _ r τ hh) (kp_pick [] rfl)) (fun r2 σ1 hK1 => ?_)
  refine fr_bd (fun r τ hh => hK1.tr (fr_fX8_isRefused _ _ r τ hh) (kp_pick [0] rfl)) (fun r4 σ3 hK2 => ?_)
  refine fr_if (fun _ => ?_) (fun _ => ?_)
  · skip
    refine fr_bd (fun r τ hh => hK2.tr (fr_fX8_passes _ _ _ r τ hh) (kp_pick [1, 0, 2, 3, 4, 5, 6] rfl)) (fun _ σ5 hK3 => ?_)
    refine fr_bd (fun r τ hh => hK3.tr (fr_fX8_isFaultyAt _ _ r τ hh) (kp_pick [] rfl)) (fun r7 σ6 hK4 => ?_)
    exact fr_some hK4
  · skip
    exact fr_some hK2
theorem fr_LX8_edges_51 {S : List (Nat × Nat × Nat)} {σ0 : St} (a3 : Int32) (a4 : Int32) (hs : ∀ e ∈ ([] : List (Nat × Nat × Nat)), e ∈ S) (ke : Int32 → St → Option (Int32 × St)) (hke : ∀ (e0 : Int32) (τ : St), Kp S σ0 τ → Fr S σ0 (ke e0 τ)) : ∀ (n : Nat) (b5 : Int32) (b6 : Int32) (σ : St), Kp S σ0 σ → Fr S σ0 (LX8_edges_51 a3 a4 ke n b5 b6 σ) := by
  intro n
  induction n with
  | zero => intros; exact fr_none
  | succ n ih =>
    intro b5 b6 σ hK0
    rw [LX8_edges_51]
    refine fr_if (fun _ => ?_) (fun _ => ?_)
    · skip
      exact hke _ _ hK0
    · skip
      refine fr_gi (fun hv1 => ?_)
      refine fr_gi (fun hv2 => ?_)
      refine fr_ltv (fun x16 => ?_)
      exact ih _ _ _ hK0
theorem fr_fX8_edges (p1 : Int32) (p2 : Int32) (p3 : Int32) (p4 : Int32) (σ : St) : Fr [(8, 0, 1), (50, 0, 1), (55, 0, 1), (51, 0, 1), (52, 0, 1), (53, 0, 1), (54, 0, 1)] σ (fX8_edges p1 p2 p3 p4 σ) := by
  unfold fX8_edges
  refine fr_bd (fun r τ hh => kp_rf.tr (fr_fX8_isBoard _ _ r τ hh) (kp_pick [] rfl)) (fun r2 σ1 hK1 => ?_)
  refine fr_bd (fun r τ hh => hK1.tr (fr_fX8_passWhy _ _ _ _ _ r τ hh) (kp_pick [] rfl)) (fun r9 σ8 hK2 => ?_)
  refine fr_bd (fun r τ hh => hK2.tr (fr_fX8_isRefused _ _ r τ hh) (kp_pick [0] rfl)) (fun r11 σ10 hK3 => ?_)
  refine fr_if (fun _ => ?_) (fun _ => ?_)
  · skip
    refine fr_bd (fun r τ hh => hK3.tr (fr_fX8_passes _ _ _ r τ hh) (kp_pick [1, 0, 2, 3, 4, 5, 6] rfl)) (fun _ σ12 hK4 => ?_)
    refine fr_LX8_edges_51 (S := [(8, 0, 1), (50, 0, 1), (55, 0, 1), (51, 0, 1), (52, 0, 1), (53, 0, 1), (54, 0, 1)]) _ _ (kp_pick [] rfl) _ (fun x17 σ18 hK5 => ?_) FU _ _ _ hK4
    exact fr_some hK5
  · skip
    exact fr_some hK3
theorem fr_LX8_filters_32 {S : List (Nat × Nat × Nat)} {σ0 : St} (a1 : Int32) (a2 : Int32) (a3 : Int32) (hs : ∀ e ∈ [(44, 0, 1), (50, 0, 1), (8, 0, 1), (55, 0, 1), (51, 0, 1), (52, 0, 1), (53, 0, 1), (54, 0, 1)], e ∈ S) (ke : Int32 → St → Option (Int32 × St)) (hke : ∀ (e0 : Int32) (τ : St), Kp S σ0 τ → Fr S σ0 (ke e0 τ)) : ∀ (n : Nat) (b4 : Int32) (b5 : Int32) (σ : St), Kp S σ0 σ → Fr S σ0 (LX8_filters_32 a1 a2 a3 ke n b4 b5 σ) := by
  intro n
  induction n with
  | zero => intros; exact fr_none
  | succ n ih =>
    intro b4 b5 σ hK0
    rw [LX8_filters_32]
    refine fr_if (fun _ => ?_) (fun _ => ?_)
    · skip
      exact hke _ _ hK0
    · skip
      refine fr_gi (fun hv1 => ?_)
      refine fr_lts (hK0.wI (fr_h hs 0 rfl (by omega) (by omega))) (fun σ6 hK2 => ?_)
      refine fr_bd (fun r τ hh => hK2.tr (fr_fX8_passes _ _ _ r τ hh) (kp_sub hs (kp_pick [1, 2, 3, 4, 5, 6, 7] rfl))) (fun _ σ7 hK3 => ?_)
      refine fr_bd (fun r τ hh => hK3.tr (fr_fX8_sureAt _ r τ hh) (kp_sub hs (kp_pick [] rfl))) (fun r9 σ8 hK4 => ?_)
      refine fr_jn (fun j82 => ∀ (x11 : Int32) (σ10 : St), Kp S σ0 σ10 → Fr S σ0 (j82 x11 σ10)) ?_ ?_
      · intro x11 σ10 hK5
        exact ih _ _ _ hK5
      · intro j82 hj82
        refine fr_jn (fun j80 => ∀ (σ12 : St), Kp S σ0 σ12 → Fr S σ0 (j80 σ12)) ?_ ?_
        · intro σ12 hK6
          exact hj82 _ _ hK6
        · intro j80 hj80
          refine fr_if (fun _ => ?_) (fun _ => ?_)
          · skip
            exact hj80 _ hK4
          · skip
            refine fr_gi (fun hv7 => ?_)
            refine fr_if (fun _ => ?_) (fun _ => ?_)
            · skip
              exact hj80 _ hK4
            · skip
              exact hj82 _ _ hK4
theorem fr_fX8_filters (p1 : Int32) (p2 : Int32) (σ : St) : Fr [(8, 0, 1), (44, 0, 1), (50, 0, 1), (55, 0, 1), (51, 0, 1), (52, 0, 1), (53, 0, 1), (54, 0, 1)] σ (fX8_filters p1 p2 σ) := by
  unfold fX8_filters
  refine fr_bd (fun r τ hh => kp_rf.tr (fr_fX8_passWhy _ _ _ _ _ r τ hh) (kp_pick [] rfl)) (fun r2 σ1 hK1 => ?_)
  refine fr_bd (fun r τ hh => hK1.tr (fr_fX8_isRefused _ _ r τ hh) (kp_pick [0] rfl)) (fun r4 σ3 hK2 => ?_)
  refine fr_if (fun _ => ?_) (fun _ => ?_)
  · skip
    refine fr_gi (fun hv3 => ?_)
    refine fr_ltv (fun x5 => ?_)
    refine fr_LX8_filters_32 (S := [(8, 0, 1), (44, 0, 1), (50, 0, 1), (55, 0, 1), (51, 0, 1), (52, 0, 1), (53, 0, 1), (54, 0, 1)]) _ _ _ (kp_pick [1, 2, 0, 3, 4, 5, 6, 7] rfl) _ (fun x13 σ14 hK4 => ?_) FU _ _ _ hK2
    refine fr_gi (fun hv5 => ?_)
    refine fr_lts (hK4.wI (fr_m 1 rfl (by omega) (by omega))) (fun σ15 hK6 => ?_)
    exact fr_some hK6
  · skip
    exact fr_some hK2
theorem fr_LX8_settled_22 {S : List (Nat × Nat × Nat)} {σ0 : St} (a1 : Int32) (a2 : Int32) (hs : ∀ e ∈ [(50, 0, 1), (8, 0, 1), (55, 0, 1), (51, 0, 1), (52, 0, 1), (53, 0, 1), (54, 0, 1)], e ∈ S) (ke : Int32 → St → Option (Int32 × St)) (hke : ∀ (e0 : Int32) (τ : St), Kp S σ0 τ → Fr S σ0 (ke e0 τ)) : ∀ (n : Nat) (b3 : Int32) (b4 : Int32) (σ : St), Kp S σ0 σ → Fr S σ0 (LX8_settled_22 a1 a2 ke n b3 b4 σ) := by
  intro n
  induction n with
  | zero => intros; exact fr_none
  | succ n ih =>
    intro b3 b4 σ hK0
    rw [LX8_settled_22]
    refine fr_gi (fun hv1 => ?_)
    refine fr_if (fun _ => ?_) (fun _ => ?_)
    · skip
      exact hke _ _ hK0
    · skip
      refine fr_bd (fun r τ hh => hK0.tr (fr_fX8_passes _ _ _ r τ hh) (kp_sub hs (kp_pick [0, 1, 2, 3, 4, 5, 6] rfl))) (fun _ σ5 hK2 => ?_)
      refine fr_bd (fun r τ hh => hK2.tr (fr_fX8_settledAt _ r τ hh) (kp_sub hs (kp_pick [] rfl))) (fun r7 σ6 hK3 => ?_)
      refine fr_ltv (fun x11 => ?_)
      exact ih _ _ _ hK3
theorem fr_fX8_settled (p1 : Int32) (p2 : Int32) (σ : St) : Fr [(8, 0, 1), (50, 0, 1), (55, 0, 1), (51, 0, 1), (52, 0, 1), (53, 0, 1), (54, 0, 1)] σ (fX8_settled p1 p2 σ) := by
  unfold fX8_settled
  refine fr_bd (fun r τ hh => kp_rf.tr (fr_fX8_passWhy _ _ _ _ _ r τ hh) (kp_pick [] rfl)) (fun r2 σ1 hK1 => ?_)
  refine fr_bd (fun r τ hh => hK1.tr (fr_fX8_isRefused _ _ r τ hh) (kp_pick [0] rfl)) (fun r4 σ3 hK2 => ?_)
  refine fr_if (fun _ => ?_) (fun _ => ?_)
  · skip
    refine fr_LX8_settled_22 (S := [(8, 0, 1), (50, 0, 1), (55, 0, 1), (51, 0, 1), (52, 0, 1), (53, 0, 1), (54, 0, 1)]) _ _ (kp_pick [1, 0, 2, 3, 4, 5, 6] rfl) _ (fun x12 σ13 hK3 => ?_) FU _ _ _ hK2
    exact fr_some hK3
  · skip
    exact fr_some hK2
theorem fr_LX8_slowest_24 {S : List (Nat × Nat × Nat)} {σ0 : St} (a1 : Int32) (hs : ∀ e ∈ [(50, 0, 1), (8, 0, 1), (55, 0, 1), (51, 0, 1), (52, 0, 1), (53, 0, 1), (54, 0, 1)], e ∈ S) (ke : Int32 → St → Option (Int32 × St)) (hke : ∀ (e0 : Int32) (τ : St), Kp S σ0 τ → Fr S σ0 (ke e0 τ)) : ∀ (n : Nat) (b2 : Int32) (b3 : Int32) (b4 : Int32) (σ : St), Kp S σ0 σ → Fr S σ0 (LX8_slowest_24 a1 ke n b2 b3 b4 σ) := by
  intro n
  induction n with
  | zero => intros; exact fr_none
  | succ n ih =>
    intro b2 b3 b4 σ hK0
    rw [LX8_slowest_24]
    refine fr_gi (fun hv1 => ?_)
    refine fr_if (fun _ => ?_) (fun _ => ?_)
    · skip
      exact hke _ _ hK0
    · skip
      refine fr_bd (fun r τ hh => hK0.tr (fr_fX8_passes _ _ _ r τ hh) (kp_sub hs (kp_pick [0, 1, 2, 3, 4, 5, 6] rfl))) (fun _ σ5 hK2 => ?_)
      refine fr_bd (fun r τ hh => hK2.tr (fr_fX8_settledAt _ r τ hh) (kp_sub hs (kp_pick [] rfl))) (fun r7 σ6 hK3 => ?_)
      refine fr_jn (fun j60 => ∀ (x9 : Int32) (x10 : Int32) (σ8 : St), Kp S σ0 σ8 → Fr S σ0 (j60 x9 x10 σ8)) ?_ ?_
      · intro x9 x10 σ8 hK4
        exact ih _ _ _ _ hK4
      · intro j60 hj60
        refine fr_if (fun _ => ?_) (fun _ => ?_)
        · skip
          exact hj60 _ _ _ hK3
        · skip
          refine fr_bd (fun r τ hh => hK3.tr (fr_fX8_settledAt _ r τ hh) (kp_sub hs (kp_pick [] rfl))) (fun r12 σ11 hK5 => ?_)
          exact hj60 _ _ _ hK5
theorem fr_fX8_slowest (p1 : Int32) (σ : St) : Fr [(8, 0, 1), (50, 0, 1), (55, 0, 1), (51, 0, 1), (52, 0, 1), (53, 0, 1), (54, 0, 1)] σ (fX8_slowest p1 σ) := by
  unfold fX8_slowest
  refine fr_bd (fun r τ hh => kp_rf.tr (fr_fX8_passWhy _ _ _ _ _ r τ hh) (kp_pick [] rfl)) (fun r2 σ1 hK1 => ?_)
  refine fr_bd (fun r τ hh => hK1.tr (fr_fX8_isRefused _ _ r τ hh) (kp_pick [0] rfl)) (fun r4 σ3 hK2 => ?_)
  refine fr_if (fun _ => ?_) (fun _ => ?_)
  · skip
    refine fr_LX8_slowest_24 (S := [(8, 0, 1), (50, 0, 1), (55, 0, 1), (51, 0, 1), (52, 0, 1), (53, 0, 1), (54, 0, 1)]) _ (kp_pick [1, 0, 2, 3, 4, 5, 6] rfl) _ (fun x13 σ14 hK3 => ?_) FU _ _ _ _ hK2
    exact fr_some hK3
  · skip
    exact fr_some hK2
theorem fr_LX8_enough_21 {S : List (Nat × Nat × Nat)} {σ0 : St} (a1 : Int32) (hs : ∀ e ∈ [(50, 0, 1), (8, 0, 1), (55, 0, 1), (51, 0, 1), (52, 0, 1), (53, 0, 1), (54, 0, 1)], e ∈ S) (ke : Int32 → St → Option (Int32 × St)) (hke : ∀ (e0 : Int32) (τ : St), Kp S σ0 τ → Fr S σ0 (ke e0 τ)) : ∀ (n : Nat) (b2 : Int32) (b3 : Int32) (σ : St), Kp S σ0 σ → Fr S σ0 (LX8_enough_21 a1 ke n b2 b3 σ) := by
  intro n
  induction n with
  | zero => intros; exact fr_none
  | succ n ih =>
    intro b2 b3 σ hK0
    rw [LX8_enough_21]
    refine fr_gi (fun hv1 => ?_)
    refine fr_if (fun _ => ?_) (fun _ => ?_)
    · skip
      exact hke _ _ hK0
    · skip
      refine fr_bd (fun r τ hh => hK0.tr (fr_fX8_passes _ _ _ r τ hh) (kp_sub hs (kp_pick [0, 1, 2, 3, 4, 5, 6] rfl))) (fun _ σ5 hK2 => ?_)
      refine fr_bd (fun r τ hh => hK2.tr (fr_fX8_sureAt _ r τ hh) (kp_sub hs (kp_pick [] rfl))) (fun r7 σ6 hK3 => ?_)
      refine fr_if (fun _ => ?_) (fun _ => ?_)
      · skip
        exact fr_some hK3
      · skip
        refine fr_ltv (fun x11 => ?_)
        exact ih _ _ _ hK3
theorem fr_fX8_enough (p1 : Int32) (σ : St) : Fr [(8, 0, 1), (50, 0, 1), (55, 0, 1), (51, 0, 1), (52, 0, 1), (53, 0, 1), (54, 0, 1)] σ (fX8_enough p1 σ) := by
  unfold fX8_enough
  refine fr_bd (fun r τ hh => kp_rf.tr (fr_fX8_passWhy _ _ _ _ _ r τ hh) (kp_pick [] rfl)) (fun r2 σ1 hK1 => ?_)
  refine fr_bd (fun r τ hh => hK1.tr (fr_fX8_isRefused _ _ r τ hh) (kp_pick [0] rfl)) (fun r4 σ3 hK2 => ?_)
  refine fr_if (fun _ => ?_) (fun _ => ?_)
  · skip
    refine fr_LX8_enough_21 (S := [(8, 0, 1), (50, 0, 1), (55, 0, 1), (51, 0, 1), (52, 0, 1), (53, 0, 1), (54, 0, 1)]) _ (kp_pick [1, 0, 2, 3, 4, 5, 6] rfl) _ (fun x12 σ13 hK3 => ?_) FU _ _ _ hK2
    exact fr_some hK3
  · skip
    exact fr_some hK2
theorem fr_LX8_elects_33 {S : List (Nat × Nat × Nat)} {σ0 : St} (a2 : Int32) (a3 : Int32) (a4 : Int32) (hs : ∀ e ∈ [(50, 0, 1)], e ∈ S) (ke : St → Option (Int32 × St)) (hke : ∀ (τ : St), Kp S σ0 τ → Fr S σ0 (ke τ)) : ∀ (n : Nat) (b5 : Int32) (σ : St), Kp S σ0 σ → Fr S σ0 (LX8_elects_33 a2 a3 a4 ke n b5 σ) := by
  intro n
  induction n with
  | zero => intros; exact fr_none
  | succ n ih =>
    intro b5 σ hK0
    rw [LX8_elects_33]
    refine fr_gi (fun hv1 => ?_)
    refine fr_if (fun _ => ?_) (fun _ => ?_)
    · skip
      exact hke _ hK0
    · skip
      refine fr_jn (fun j86 => ∀ (x5 : Int32) (σ4 : St), Kp S σ0 σ4 → Fr S σ0 (j86 x5 σ4)) ?_ ?_
      · intro x5 σ4 hK2
        refine fr_gi (fun hv3 => ?_)
        refine fr_lts (hK2.wI (fr_h hs 0 rfl (by omega) (by omega))) (fun σ6 hK4 => ?_)
        exact ih _ _ hK4
      · intro j86 hj86
        refine fr_if (fun _ => ?_) (fun _ => ?_)
        · skip
          refine fr_bd (fun r τ hh => hK0.tr (fr_fX8_wordOf _ _ _ r τ hh) (kp_sub hs (kp_pick [] rfl))) (fun r8 σ7 hK5 => ?_)
          exact hj86 _ _ hK5
        · skip
          refine fr_gi (fun hv6 => ?_)
          exact hj86 _ _ hK0
theorem fr_LX8_elects_20 {S : List (Nat × Nat × Nat)} {σ0 : St} (a2 : Int32) (hs : ∀ e ∈ [(50, 0, 1), (8, 0, 1), (55, 0, 1), (51, 0, 1), (52, 0, 1), (53, 0, 1), (54, 0, 1)], e ∈ S) (ke : Int32 → St → Option (Int32 × St)) (hke : ∀ (e0 : Int32) (τ : St), Kp S σ0 τ → Fr S σ0 (ke e0 τ)) : ∀ (n : Nat) (b3 : Int32) (b4 : Int32) (σ : St), Kp S σ0 σ → Fr S σ0 (LX8_elects_20 a2 ke n b3 b4 σ) := by
  intro n
  induction n with
  | zero => intros; exact fr_none
  | succ n ih =>
    intro b3 b4 σ hK0
    rw [LX8_elects_20]
    refine fr_if (fun _ => ?_) (fun _ => ?_)
    · skip
      exact hke _ _ hK0
    · skip
      refine fr_if (fun _ => ?_) (fun _ => ?_)
      · skip
        exact hke _ _ hK0
      · skip
        refine fr_LX8_elects_33 (S := S) _ _ _ (kp_sub hs (kp_pick [0] rfl)) _ (fun σ12 hK1 => ?_) FU _ _ hK0
        refine fr_bd (fun r τ hh => hK1.tr (fr_fX8_laysPass _ _ r τ hh) (kp_sub hs (kp_pick [1, 2, 3, 4, 5, 6] rfl))) (fun _ σ13 hK2 => ?_)
        refine fr_gi (fun hv3 => ?_)
        refine fr_bd (fun r τ hh => hK2.tr (fr_fX8_isFaultyAt _ _ r τ hh) (kp_sub hs (kp_pick [] rfl))) (fun r15 σ14 hK4 => ?_)
        refine fr_lts (hK4.wI (fr_h hs 1 rfl (by omega) (by omega))) (fun σ19 hK5 => ?_)
        refine fr_gi (fun hv6 => ?_)
        refine fr_bd (fun r τ hh => hK5.tr (fr_fX8_winnersAt _ _ r τ hh) (kp_sub hs (kp_pick [] rfl))) (fun r21 σ20 hK7 => ?_)
        refine fr_lts (hK7.wI (fr_h hs 1 rfl (by omega) (by omega))) (fun σ25 hK8 => ?_)
        refine fr_lts (hK8.wI (fr_h hs 1 rfl (by omega) (by omega))) (fun σ29 hK9 => ?_)
        exact ih _ _ _ hK9
theorem fr_LX8_elects_178 {S : List (Nat × Nat × Nat)} {σ0 : St} (a3 : Int32) (hs : ∀ e ∈ ([] : List (Nat × Nat × Nat)), e ∈ S) (ke : Int32 → St → Option (Int32 × St)) (hke : ∀ (e0 : Int32) (τ : St), Kp S σ0 τ → Fr S σ0 (ke e0 τ)) : ∀ (n : Nat) (b4 : Int32) (σ : St), Kp S σ0 σ → Fr S σ0 (LX8_elects_178 a3 ke n b4 σ) := by
  intro n
  induction n with
  | zero => intros; exact fr_none
  | succ n ih =>
    intro b4 σ hK0
    rw [LX8_elects_178]
    refine fr_if (fun _ => ?_) (fun _ => ?_)
    · skip
      exact hke _ _ hK0
    · skip
      refine fr_if (fun _ => ?_) (fun _ => ?_)
      · skip
        exact ih _ _ hK0
      · skip
        exact hke _ _ hK0
theorem fr_fX8_elects (p1 : Int32) (p2 : Int32) (σ : St) : Fr [(8, 0, 1), (50, 0, 1), (55, 0, 1), (51, 0, 1), (52, 0, 1), (53, 0, 1), (54, 0, 1)] σ (fX8_elects p1 p2 σ) := by
  unfold fX8_elects
  refine fr_lts (kp_rf.wI (fr_m 0 rfl (by omega) (by omega))) (fun σ1 hK1 => ?_)
  refine fr_lts (hK1.wI (fr_m 0 rfl (by omega) (by omega))) (fun σ2 hK2 => ?_)
  refine fr_lts (hK2.wI (fr_m 0 rfl (by omega) (by omega))) (fun σ3 hK3 => ?_)
  refine fr_LX8_elects_20 (S := [(8, 0, 1), (50, 0, 1), (55, 0, 1), (51, 0, 1), (52, 0, 1), (53, 0, 1), (54, 0, 1)]) _ (kp_pick [1, 0, 2, 3, 4, 5, 6] rfl) _ (fun x30 σ31 hK4 => ?_) FU _ _ _ hK3
  refine fr_LX8_elects_178 (S := [(8, 0, 1), (50, 0, 1), (55, 0, 1), (51, 0, 1), (52, 0, 1), (53, 0, 1), (54, 0, 1)]) _ (kp_pick [] rfl) _ (fun x32 σ33 hK5 => ?_) FU _ _ hK4
  refine fr_bd (fun r τ hh => hK5.tr (fr_fX8_bitsOf _ _ r τ hh) (kp_pick [] rfl)) (fun r35 σ34 hK6 => ?_)
  exact fr_some hK6
theorem fr_fX8_would (p1 : Int32) (σ : St) : Fr [(8, 0, 1), (50, 0, 1), (55, 0, 1), (51, 0, 1), (52, 0, 1), (53, 0, 1), (54, 0, 1)] σ (fX8_would p1 σ) := by
  unfold fX8_would
  refine fr_jn (fun j25 => ∀ (x2 : Int32) (σ1 : St), Kp ([(8, 0, 1), (50, 0, 1), (55, 0, 1), (51, 0, 1), (52, 0, 1), (53, 0, 1), (54, 0, 1)]) σ σ1 → Fr ([(8, 0, 1), (50, 0, 1), (55, 0, 1), (51, 0, 1), (52, 0, 1), (53, 0, 1), (54, 0, 1)]) σ (j25 x2 σ1)) ?_ ?_
  · intro x2 σ1 hK1
    refine fr_bd (fun r τ hh => hK1.tr (fr_fX8_isRefused _ _ r τ hh) (kp_pick [0] rfl)) (fun r4 σ3 hK2 => ?_)
    refine fr_if (fun _ => ?_) (fun _ => ?_)
    · skip
      refine fr_bd (fun r τ hh => hK2.tr (fr_fX8_elects _ _ _ r τ hh) (kp_pick [0, 1, 2, 3, 4, 5, 6] rfl)) (fun r6 σ5 hK3 => ?_)
      exact fr_some hK3
    · skip
      exact fr_some hK2
  · intro j25 hj25
    refine fr_if (fun _ => ?_) (fun _ => ?_)
    · skip
      exact hj25 _ _ kp_rf
    · skip
      refine fr_bd (fun r τ hh => kp_rf.tr (fr_fX8_isSet _ _ r τ hh) (kp_pick [] rfl)) (fun r8 σ7 hK4 => ?_)
      refine fr_if (fun _ => ?_) (fun _ => ?_)
      · skip
        exact hj25 _ _ hK4
      · skip
        exact hj25 _ _ hK4
theorem fr_fX8_asks (p1 : Int32) (p2 : Int32) (σ : St) : Fr [(47, 0, 1)] σ (fX8_asks p1 p2 σ) := by
  unfold fX8_asks
  refine fr_gi (fun hv1 => ?_)
  refine fr_jn (fun j23 => ∀ (σ1 : St), Kp ([(47, 0, 1)]) σ σ1 → Fr ([(47, 0, 1)]) σ (j23 σ1)) ?_ ?_
  · intro σ1 hK2
    refine fr_gi (fun hv3 => ?_)
    refine fr_gi (fun hv4 => ?_)
    refine fr_lts (hK2.wI (fr_m 0 rfl (by omega) (by omega))) (fun σ2 hK5 => ?_)
    exact fr_some hK5
  · intro j23 hj23
    refine fr_if (fun _ => ?_) (fun _ => ?_)
    · skip
      exact hj23 _ kp_rf
    · skip
      refine fr_gi (fun hv6 => ?_)
      refine fr_if (fun _ => ?_) (fun _ => ?_)
      · skip
        exact hj23 _ kp_rf
      · skip
        refine fr_gi (fun hv7 => ?_)
        refine fr_lts (kp_rf.wI (fr_m 0 rfl (by omega) (by omega))) (fun σ3 hK8 => ?_)
        refine fr_gi (fun hv9 => ?_)
        refine fr_gi (fun hv10 => ?_)
        refine fr_lts (hK8.wI (fr_m 0 rfl (by omega) (by omega))) (fun σ4 hK11 => ?_)
        exact fr_some hK11
theorem fr_LX8_askingOnes_4 {S : List (Nat × Nat × Nat)} {σ0 : St} (hs : ∀ e ∈ ([] : List (Nat × Nat × Nat)), e ∈ S) (ke : Int32 → St → Option (Int32 × St)) (hke : ∀ (e0 : Int32) (τ : St), Kp S σ0 τ → Fr S σ0 (ke e0 τ)) : ∀ (n : Nat) (b1 : Int32) (b2 : Int32) (σ : St), Kp S σ0 σ → Fr S σ0 (LX8_askingOnes_4 ke n b1 b2 σ) := by
  intro n
  induction n with
  | zero => intros; exact fr_none
  | succ n ih =>
    intro b1 b2 σ hK0
    rw [LX8_askingOnes_4]
    refine fr_gi (fun hv1 => ?_)
    refine fr_if (fun _ => ?_) (fun _ => ?_)
    · skip
      exact hke _ _ hK0
    · skip
      refine fr_gi (fun hv2 => ?_)
      refine fr_ltv (fun x4 => ?_)
      exact ih _ _ _ hK0
theorem fr_fX8_askingOnes (σ : St) : Fr ([] : List (Nat × Nat × Nat)) σ (fX8_askingOnes σ) := by
  unfold fX8_askingOnes
  refine fr_LX8_askingOnes_4 (S := [])  (kp_pick [] rfl) _ (fun x5 σ6 hK1 => ?_) FU _ _ _ kp_rf
  exact fr_some hK1
theorem fr_LX8_beginsArbitration_33 {S : List (Nat × Nat × Nat)} {σ0 : St} (hs : ∀ e ∈ [(47, 0, 1)], e ∈ S) (ke : St → Option (Unit × St)) (hke : ∀ (τ : St), Kp S σ0 τ → Fr S σ0 (ke τ)) : ∀ (n : Nat) (b1 : Int32) (σ : St), Kp S σ0 σ → Fr S σ0 (LX8_beginsArbitration_33 ke n b1 σ) := by
  intro n
  induction n with
  | zero => intros; exact fr_none
  | succ n ih =>
    intro b1 σ hK0
    rw [LX8_beginsArbitration_33]
    refine fr_gi (fun hv1 => ?_)
    refine fr_if (fun _ => ?_) (fun _ => ?_)
    · skip
      exact hke _ hK0
    · skip
      refine fr_bd (fun r τ hh => hK0.tr (fr_fX8_wordOf _ _ _ r τ hh) (kp_sub hs (kp_pick [] rfl))) (fun r6 σ5 hK2 => ?_)
      refine fr_gi (fun hv3 => ?_)
      refine fr_lts (hK2.wI (fr_h hs 0 rfl (by omega) (by omega))) (fun σ7 hK4 => ?_)
      refine fr_bd (fun r τ hh => hK4.tr (fr_fX8_wordOf _ _ _ r τ hh) (kp_sub hs (kp_pick [] rfl))) (fun r9 σ8 hK5 => ?_)
      refine fr_gi (fun hv6 => ?_)
      refine fr_lts (hK5.wI (fr_h hs 0 rfl (by omega) (by omega))) (fun σ10 hK7 => ?_)
      exact ih _ _ hK7
theorem fr_fX8_beginsArbitration (σ : St) : Fr [(47, 0, 1)] σ (fX8_beginsArbitration σ) := by
  unfold fX8_beginsArbitration
  refine fr_gi (fun hv1 => ?_)
  refine fr_gi (fun hv2 => ?_)
  refine fr_gi (fun hv3 => ?_)
  refine fr_lts (kp_rf.wI (fr_m 0 rfl (by omega) (by omega))) (fun σ1 hK4 => ?_)
  refine fr_bd (fun r τ hh => hK4.tr (fr_fX8_askingOnes _ r τ hh) (kp_pick [] rfl)) (fun r3 σ2 hK5 => ?_)
  refine fr_gi (fun hv6 => ?_)
  refine fr_lts (hK5.wI (fr_m 0 rfl (by omega) (by omega))) (fun σ4 hK7 => ?_)
  refine fr_LX8_beginsArbitration_33 (S := [(47, 0, 1)])  (kp_pick [0] rfl) _ (fun σ11 hK8 => ?_) FU _ _ hK7
  exact fr_some hK8
theorem fr_LX8_isElected_41 {S : List (Nat × Nat × Nat)} {σ0 : St} (a1 : Int32) (hs : ∀ e ∈ [(47, 0, 1)], e ∈ S) (ke : St → Option (Unit × St)) (hke : ∀ (τ : St), Kp S σ0 τ → Fr S σ0 (ke τ)) : ∀ (n : Nat) (b2 : Int32) (σ : St), Kp S σ0 σ → Fr S σ0 (LX8_isElected_41 a1 ke n b2 σ) := by
  intro n
  induction n with
  | zero => intros; exact fr_none
  | succ n ih =>
    intro b2 σ hK0
    rw [LX8_isElected_41]
    refine fr_if (fun _ => ?_) (fun _ => ?_)
    · skip
      exact hke _ hK0
    · skip
      refine fr_gi (fun hv1 => ?_)
      refine fr_lts (hK0.wI (fr_h hs 0 rfl (by omega) (by omega))) (fun σ5 hK2 => ?_)
      exact ih _ _ hK2
theorem fr_fX8_isElected (p1 : Int32) (σ : St) : Fr [(47, 0, 1)] σ (fX8_isElected p1 σ) := by
  unfold fX8_isElected
  refine fr_gi (fun hv1 => ?_)
  refine fr_gi (fun hv2 => ?_)
  refine fr_lts (kp_rf.wI (fr_m 0 rfl (by omega) (by omega))) (fun σ1 hK3 => ?_)
  refine fr_gi (fun hv4 => ?_)
  refine fr_jn (fun j64 => ∀ (σ2 : St), Kp ([(47, 0, 1)]) σ σ2 → Fr ([(47, 0, 1)]) σ (j64 σ2)) ?_ ?_
  · intro σ2 hK5
    refine fr_gi (fun hv6 => ?_)
    refine fr_lts (hK5.wI (fr_m 0 rfl (by omega) (by omega))) (fun σ3 hK7 => ?_)
    exact fr_some hK7
  · intro j64 hj64
    refine fr_if (fun _ => ?_) (fun _ => ?_)
    · skip
      refine fr_gi (fun hv8 => ?_)
      refine fr_gi (fun hv9 => ?_)
      refine fr_lts (hK3.wI (fr_m 0 rfl (by omega) (by omega))) (fun σ4 hK10 => ?_)
      refine fr_LX8_isElected_41 (S := [(47, 0, 1)]) _ (kp_pick [0] rfl) _ (fun σ6 hK11 => ?_) FU _ _ hK10
      exact hj64 _ hK11
    · skip
      exact hj64 _ hK3
theorem fr_LX8_logs_3 {S : List (Nat × Nat × Nat)} {σ0 : St} (a1 : Int32) (a2 : Int32) (hs : ∀ e ∈ [(47, 0, 1)], e ∈ S) (ke : St → Option (Unit × St)) (hke : ∀ (τ : St), Kp S σ0 τ → Fr S σ0 (ke τ)) : ∀ (n : Nat) (b3 : Int32) (σ : St), Kp S σ0 σ → Fr S σ0 (LX8_logs_3 a1 a2 ke n b3 σ) := by
  intro n
  induction n with
  | zero => intros; exact fr_none
  | succ n ih =>
    intro b3 σ hK0
    rw [LX8_logs_3]
    refine fr_if (fun _ => ?_) (fun _ => ?_)
    · skip
      exact hke _ hK0
    · skip
      refine fr_gi (fun hv1 => ?_)
      refine fr_gi (fun hv2 => ?_)
      refine fr_lts (hK0.wI (fr_h hs 0 rfl (by omega) (by omega))) (fun σ1 hK3 => ?_)
      exact ih _ _ hK3
theorem fr_fX8_logs (p1 : Int32) (p2 : Int32) (σ : St) : Fr [(47, 0, 1)] σ (fX8_logs p1 p2 σ) := by
  unfold fX8_logs
  refine fr_LX8_logs_3 (S := [(47, 0, 1)]) _ _ (kp_pick [0] rfl) _ (fun σ2 hK1 => ?_) FU _ _ kp_rf
  refine fr_gi (fun hv2 => ?_)
  refine fr_jn (fun j68 => ∀ (x4 : Int32) (σ3 : St), Kp ([(47, 0, 1)]) σ σ3 → Fr ([(47, 0, 1)]) σ (j68 x4 σ3)) ?_ ?_
  · intro x4 σ3 hK3
    refine fr_gi (fun hv4 => ?_)
    refine fr_lts (hK3.wI (fr_m 0 rfl (by omega) (by omega))) (fun σ5 hK5 => ?_)
    refine fr_gi (fun hv6 => ?_)
    refine fr_gi (fun hv7 => ?_)
    refine fr_lts (hK5.wI (fr_m 0 rfl (by omega) (by omega))) (fun σ6 hK8 => ?_)
    refine fr_gi (fun hv9 => ?_)
    refine fr_lts (hK8.wI (fr_m 0 rfl (by omega) (by omega))) (fun σ7 hK10 => ?_)
    refine fr_gi (fun hv11 => ?_)
    refine fr_lts (hK10.wI (fr_m 0 rfl (by omega) (by omega))) (fun σ8 hK12 => ?_)
    refine fr_gi (fun hv13 => ?_)
    refine fr_lts (hK12.wI (fr_m 0 rfl (by omega) (by omega))) (fun σ9 hK14 => ?_)
    refine fr_gi (fun hv15 => ?_)
    refine fr_lts (hK14.wI (fr_m 0 rfl (by omega) (by omega))) (fun σ10 hK16 => ?_)
    refine fr_gi (fun hv17 => ?_)
    refine fr_lts (hK16.wI (fr_m 0 rfl (by omega) (by omega))) (fun σ11 hK18 => ?_)
    exact fr_some hK18
  · intro j68 hj68
    refine fr_if (fun _ => ?_) (fun _ => ?_)
    · skip
      exact hj68 _ _ hK1
    · skip
      refine fr_gi (fun hv19 => ?_)
      exact hj68 _ _ hK1
theorem fr_fX8_endsArbitration (σ : St) : Fr [(8, 0, 1), (50, 0, 1), (55, 0, 1), (51, 0, 1), (52, 0, 1), (53, 0, 1), (54, 0, 1), (47, 0, 1)] σ (fX8_endsArbitration σ) := by
  unfold fX8_endsArbitration
  refine fr_gi (fun hv1 => ?_)
  refine fr_bd (fun r τ hh => kp_rf.tr (fr_fX8_elects _ _ _ r τ hh) (kp_pick [0, 1, 2, 3, 4, 5, 6] rfl)) (fun r2 σ1 hK2 => ?_)
  refine fr_gi (fun hv3 => ?_)
  refine fr_ltv (fun x3 => ?_)
  refine fr_gi (fun hv4 => ?_)
  refine fr_bd (fun r τ hh => hK2.tr (fr_fX8_logs _ _ _ r τ hh) (kp_pick [7] rfl)) (fun _ σ4 hK5 => ?_)
  refine fr_gi (fun hv6 => ?_)
  refine fr_gi (fun hv7 => ?_)
  refine fr_lts (hK5.wI (fr_m 7 rfl (by omega) (by omega))) (fun σ5 hK8 => ?_)
  refine fr_gi (fun hv9 => ?_)
  refine fr_gi (fun hv10 => ?_)
  refine fr_lts (hK8.wI (fr_m 7 rfl (by omega) (by omega))) (fun σ6 hK11 => ?_)
  refine fr_gi (fun hv12 => ?_)
  refine fr_lts (hK11.wI (fr_m 7 rfl (by omega) (by omega))) (fun σ7 hK13 => ?_)
  refine fr_gi (fun hv14 => ?_)
  refine fr_lts (hK13.wI (fr_m 7 rfl (by omega) (by omega))) (fun σ8 hK15 => ?_)
  refine fr_gi (fun hv16 => ?_)
  refine fr_lts (hK15.wI (fr_m 7 rfl (by omega) (by omega))) (fun σ9 hK17 => ?_)
  refine fr_if (fun _ => ?_) (fun _ => ?_)
  · skip
    refine fr_gi (fun hv18 => ?_)
    refine fr_gi (fun hv19 => ?_)
    refine fr_lts (hK17.wI (fr_m 7 rfl (by omega) (by omega))) (fun σ14 hK20 => ?_)
    exact fr_some hK20
  · skip
    refine fr_jn (fun j132 => ∀ (σ10 : St), Kp ([(8, 0, 1), (50, 0, 1), (55, 0, 1), (51, 0, 1), (52, 0, 1), (53, 0, 1), (54, 0, 1), (47, 0, 1)]) σ σ10 → Fr ([(8, 0, 1), (50, 0, 1), (55, 0, 1), (51, 0, 1), (52, 0, 1), (53, 0, 1), (54, 0, 1), (47, 0, 1)]) σ (j132 σ10)) ?_ ?_
    · intro σ10 hK21
      refine fr_bd (fun r τ hh => hK21.tr (fr_fX8_isElected _ _ r τ hh) (kp_pick [7] rfl)) (fun _ σ11 hK22 => ?_)
      exact fr_some hK22
    · intro j132 hj132
      refine fr_if (fun _ => ?_) (fun _ => ?_)
      · skip
        exact hj132 _ hK17
      · skip
        refine fr_if (fun _ => ?_) (fun _ => ?_)
        · skip
          exact hj132 _ hK17
        · skip
          refine fr_gi (fun hv23 => ?_)
          refine fr_gi (fun hv24 => ?_)
          refine fr_lts (hK17.wI (fr_m 7 rfl (by omega) (by omega))) (fun σ12 hK25 => ?_)
          refine fr_gi (fun hv26 => ?_)
          refine fr_gi (fun hv27 => ?_)
          refine fr_lts (hK25.wI (fr_m 7 rfl (by omega) (by omega))) (fun σ13 hK28 => ?_)
          exact hj132 _ hK28
theorem fr_fX8_becomesMaster (σ : St) : Fr [(47, 0, 1)] σ (fX8_becomesMaster σ) := by
  unfold fX8_becomesMaster
  refine fr_gi (fun hv1 => ?_)
  refine fr_ltv (fun x1 => ?_)
  refine fr_gi (fun hv2 => ?_)
  refine fr_gi (fun hv3 => ?_)
  refine fr_ltv (fun x2 => ?_)
  refine fr_gi (fun hv4 => ?_)
  refine fr_lts (kp_rf.wI (fr_m 0 rfl (by omega) (by omega))) (fun σ3 hK5 => ?_)
  refine fr_gi (fun hv6 => ?_)
  refine fr_gi (fun hv7 => ?_)
  refine fr_gi (fun hv8 => ?_)
  refine fr_lts (hK5.wI (fr_m 0 rfl (by omega) (by omega))) (fun σ4 hK9 => ?_)
  refine fr_gi (fun hv10 => ?_)
  refine fr_lts (hK9.wI (fr_m 0 rfl (by omega) (by omega))) (fun σ5 hK11 => ?_)
  refine fr_gi (fun hv12 => ?_)
  refine fr_lts (hK11.wI (fr_m 0 rfl (by omega) (by omega))) (fun σ6 hK13 => ?_)
  refine fr_gi (fun hv14 => ?_)
  refine fr_gi (fun hv15 => ?_)
  refine fr_lts (hK13.wI (fr_m 0 rfl (by omega) (by omega))) (fun σ7 hK16 => ?_)
  refine fr_gi (fun hv17 => ?_)
  refine fr_jn (fun j129 => ∀ (x9 : Int32) (σ8 : St), Kp ([(47, 0, 1)]) σ σ8 → Fr ([(47, 0, 1)]) σ (j129 x9 σ8)) ?_ ?_
  · intro x9 σ8 hK18
    refine fr_gi (fun hv19 => ?_)
    refine fr_lts (hK18.wI (fr_m 0 rfl (by omega) (by omega))) (fun σ10 hK20 => ?_)
    exact fr_some hK20
  · intro j129 hj129
    refine fr_if (fun _ => ?_) (fun _ => ?_)
    · skip
      refine fr_gi (fun hv21 => ?_)
      exact hj129 _ _ hK16
    · skip
      exact hj129 _ _ hK16
theorem fr_LX8_isCalledFor_28 {S : List (Nat × Nat × Nat)} {σ0 : St} (a1 : Int32) (hs : ∀ e ∈ ([] : List (Nat × Nat × Nat)), e ∈ S) (ke : St → Option (Int32 × St)) (hke : ∀ (τ : St), Kp S σ0 τ → Fr S σ0 (ke τ)) : ∀ (n : Nat) (b2 : Int32) (σ : St), Kp S σ0 σ → Fr S σ0 (LX8_isCalledFor_28 a1 ke n b2 σ) := by
  intro n
  induction n with
  | zero => intros; exact fr_none
  | succ n ih =>
    intro b2 σ hK0
    rw [LX8_isCalledFor_28]
    refine fr_gi (fun hv1 => ?_)
    refine fr_if (fun _ => ?_) (fun _ => ?_)
    · skip
      exact hke _ hK0
    · skip
      refine fr_jn (fun j66 => ∀ (σ3 : St), Kp S σ0 σ3 → Fr S σ0 (j66 σ3)) ?_ ?_
      · intro σ3 hK2
        exact ih _ _ hK2
      · intro j66 hj66
        refine fr_if (fun _ => ?_) (fun _ => ?_)
        · skip
          exact hj66 _ hK0
        · skip
          refine fr_bd (fun r τ hh => hK0.tr (fr_fX8_rankOf _ _ r τ hh) (kp_sub hs (kp_pick [] rfl))) (fun r5 σ4 hK3 => ?_)
          refine fr_gi (fun hv4 => ?_)
          refine fr_bd (fun r τ hh => hK3.tr (fr_fX8_rankOf _ _ r τ hh) (kp_sub hs (kp_pick [] rfl))) (fun r7 σ6 hK5 => ?_)
          refine fr_if (fun _ => ?_) (fun _ => ?_)
          · skip
            exact hj66 _ hK5
          · skip
            exact fr_some hK5
theorem fr_fX8_isCalledFor (σ : St) : Fr ([] : List (Nat × Nat × Nat)) σ (fX8_isCalledFor σ) := by
  unfold fX8_isCalledFor
  refine fr_bd (fun r τ hh => kp_rf.tr (fr_fX8_askingOnes _ r τ hh) (kp_pick [] rfl)) (fun r2 σ1 hK1 => ?_)
  refine fr_gi (fun hv2 => ?_)
  refine fr_if (fun _ => ?_) (fun _ => ?_)
  · skip
    exact fr_rz hK1
  · skip
    refine fr_LX8_isCalledFor_28 (S := []) _ (kp_pick [] rfl) _ (fun σ8 hK3 => ?_) FU _ _ hK1
    exact fr_some hK3
theorem fr_LX8_tick_10 {S : List (Nat × Nat × Nat)} {σ0 : St} (hs : ∀ e ∈ [(47, 0, 1)], e ∈ S) (ke : St → Option (Unit × St)) (hke : ∀ (τ : St), Kp S σ0 τ → Fr S σ0 (ke τ)) : ∀ (n : Nat) (σ : St), Kp S σ0 σ → Fr S σ0 (LX8_tick_10 ke n σ) := by
  intro n
  induction n with
  | zero => intros; exact fr_none
  | succ n ih =>
    intro σ hK0
    rw [LX8_tick_10]
    refine fr_gi (fun hv1 => ?_)
    refine fr_gi (fun hv2 => ?_)
    refine fr_if (fun _ => ?_) (fun _ => ?_)
    · skip
      exact hke _ hK0
    · skip
      refine fr_gi (fun hv3 => ?_)
      refine fr_gi (fun hv4 => ?_)
      refine fr_gi (fun hv5 => ?_)
      refine fr_if (fun _ => ?_) (fun _ => ?_)
      · skip
        refine fr_gi (fun hv6 => ?_)
        refine fr_ltv (fun x2 => ?_)
        refine fr_gi (fun hv7 => ?_)
        refine fr_gi (fun hv8 => ?_)
        refine fr_lts (hK0.wI (fr_h hs 0 rfl (by omega) (by omega))) (fun σ3 hK9 => ?_)
        refine fr_gi (fun hv10 => ?_)
        refine fr_gi (fun hv11 => ?_)
        refine fr_bd (fun r τ hh => hK9.tr (fr_fX8_asks _ _ _ r τ hh) (kp_sub hs (kp_pick [0] rfl))) (fun r5 σ4 hK12 => ?_)
        exact ih _ hK12
      · skip
        exact hke _ hK0
theorem fr_fX8_tick (σ : St) : Fr [(47, 0, 1), (8, 0, 1), (50, 0, 1), (55, 0, 1), (51, 0, 1), (52, 0, 1), (53, 0, 1), (54, 0, 1)] σ (fX8_tick σ) := by
  unfold fX8_tick
  refine fr_gi (fun hv1 => ?_)
  refine fr_gi (fun hv2 => ?_)
  refine fr_lts (kp_rf.wI (fr_m 0 rfl (by omega) (by omega))) (fun σ1 hK3 => ?_)
  refine fr_LX8_tick_10 (S := [(47, 0, 1), (8, 0, 1), (50, 0, 1), (55, 0, 1), (51, 0, 1), (52, 0, 1), (53, 0, 1), (54, 0, 1)])  (kp_pick [0] rfl) _ (fun σ6 hK4 => ?_) FU _ hK3
  refine fr_gi (fun hv5 => ?_)
  refine fr_jn (fun j137 => ∀ (σ7 : St), Kp ([(47, 0, 1), (8, 0, 1), (50, 0, 1), (55, 0, 1), (51, 0, 1), (52, 0, 1), (53, 0, 1), (54, 0, 1)]) σ σ7 → Fr ([(47, 0, 1), (8, 0, 1), (50, 0, 1), (55, 0, 1), (51, 0, 1), (52, 0, 1), (53, 0, 1), (54, 0, 1)]) σ (j137 σ7)) ?_ ?_
  · intro σ7 hK6
    refine fr_gi (fun hv7 => ?_)
    refine fr_gi (fun hv8 => ?_)
    refine fr_jn (fun j156 => ∀ (σ8 : St), Kp ([(47, 0, 1), (8, 0, 1), (50, 0, 1), (55, 0, 1), (51, 0, 1), (52, 0, 1), (53, 0, 1), (54, 0, 1)]) σ σ8 → Fr ([(47, 0, 1), (8, 0, 1), (50, 0, 1), (55, 0, 1), (51, 0, 1), (52, 0, 1), (53, 0, 1), (54, 0, 1)]) σ (j156 σ8)) ?_ ?_
    · intro σ8 hK9
      refine fr_gi (fun hv10 => ?_)
      refine fr_jn (fun j193 => ∀ (σ9 : St), Kp ([(47, 0, 1), (8, 0, 1), (50, 0, 1), (55, 0, 1), (51, 0, 1), (52, 0, 1), (53, 0, 1), (54, 0, 1)]) σ σ9 → Fr ([(47, 0, 1), (8, 0, 1), (50, 0, 1), (55, 0, 1), (51, 0, 1), (52, 0, 1), (53, 0, 1), (54, 0, 1)]) σ (j193 σ9)) ?_ ?_
      · intro σ9 hK11
        refine fr_gi (fun hv12 => ?_)
        refine fr_jn (fun j215 => ∀ (σ10 : St), Kp ([(47, 0, 1), (8, 0, 1), (50, 0, 1), (55, 0, 1), (51, 0, 1), (52, 0, 1), (53, 0, 1), (54, 0, 1)]) σ σ10 → Fr ([(47, 0, 1), (8, 0, 1), (50, 0, 1), (55, 0, 1), (51, 0, 1), (52, 0, 1), (53, 0, 1), (54, 0, 1)]) σ (j215 σ10)) ?_ ?_
        · intro σ10 hK13
          refine fr_gi (fun hv14 => ?_)
          refine fr_jn (fun j246 => ∀ (σ11 : St), Kp ([(47, 0, 1), (8, 0, 1), (50, 0, 1), (55, 0, 1), (51, 0, 1), (52, 0, 1), (53, 0, 1), (54, 0, 1)]) σ σ11 → Fr ([(47, 0, 1), (8, 0, 1), (50, 0, 1), (55, 0, 1), (51, 0, 1), (52, 0, 1), (53, 0, 1), (54, 0, 1)]) σ (j246 σ11)) ?_ ?_
          · intro σ11 hK15
            refine fr_gi (fun hv16 => ?_)
            refine fr_gi (fun hv17 => ?_)
            refine fr_gi (fun hv18 => ?_)
            refine fr_lts (hK15.wI (fr_m 0 rfl (by omega) (by omega))) (fun σ12 hK19 => ?_)
            exact fr_some hK19
          · intro j246 hj246
            refine fr_if (fun _ => ?_) (fun _ => ?_)
            · skip
              exact hj246 _ hK13
            · skip
              refine fr_gi (fun hv20 => ?_)
              refine fr_gi (fun hv21 => ?_)
              refine fr_gi (fun hv22 => ?_)
              refine fr_lts (hK13.wI (fr_m 0 rfl (by omega) (by omega))) (fun σ13 hK23 => ?_)
              exact hj246 _ hK23
        · intro j215 hj215
          refine fr_if (fun _ => ?_) (fun _ => ?_)
          · skip
            refine fr_bd (fun r τ hh => hK11.tr (fr_fX8_isCalledFor _ r τ hh) (kp_pick [] rfl)) (fun r15 σ14 hK24 => ?_)
            refine fr_if (fun _ => ?_) (fun _ => ?_)
            · skip
              exact hj215 _ hK24
            · skip
              refine fr_bd (fun r τ hh => hK24.tr (fr_fX8_beginsArbitration _ r τ hh) (kp_pick [0] rfl)) (fun _ σ16 hK25 => ?_)
              exact hj215 _ hK25
          · skip
            exact hj215 _ hK11
      · intro j193 hj193
        refine fr_if (fun _ => ?_) (fun _ => ?_)
        · skip
          refine fr_gi (fun hv26 => ?_)
          refine fr_if (fun _ => ?_) (fun _ => ?_)
          · skip
            exact hj193 _ hK9
          · skip
            refine fr_gi (fun hv27 => ?_)
            refine fr_if (fun _ => ?_) (fun _ => ?_)
            · skip
              refine fr_bd (fun r τ hh => hK9.tr (fr_fX8_becomesMaster _ r τ hh) (kp_pick [0] rfl)) (fun _ σ17 hK28 => ?_)
              exact hj193 _ hK28
            · skip
              exact hj193 _ hK9
        · skip
          exact hj193 _ hK9
    · intro j156 hj156
      refine fr_if (fun _ => ?_) (fun _ => ?_)
      · skip
        refine fr_bd (fun r τ hh => hK6.tr (fr_fX8_endsArbitration _ r τ hh) (kp_pick [1, 2, 3, 4, 5, 6, 7, 0] rfl)) (fun _ σ18 hK29 => ?_)
        exact hj156 _ hK29
      · skip
        exact hj156 _ hK6
  · intro j137 hj137
    refine fr_if (fun _ => ?_) (fun _ => ?_)
    · skip
      exact hj137 _ hK4
    · skip
      refine fr_gi (fun hv30 => ?_)
      refine fr_gi (fun hv31 => ?_)
      refine fr_if (fun _ => ?_) (fun _ => ?_)
      · skip
        refine fr_gi (fun hv32 => ?_)
        refine fr_lts (hK4.wI (fr_m 0 rfl (by omega) (by omega))) (fun σ19 hK33 => ?_)
        refine fr_gi (fun hv34 => ?_)
        refine fr_lts (hK33.wI (fr_m 0 rfl (by omega) (by omega))) (fun σ20 hK35 => ?_)
        exact hj137 _ hK35
      · skip
        exact hj137 _ hK4
theorem fr_fX8_told (p1 : Int32) (σ : St) : Fr ([] : List (Nat × Nat × Nat)) σ (fX8_told p1 σ) := by
  unfold fX8_told
  refine fr_if (fun _ => ?_) (fun _ => ?_)
  · skip
    refine fr_gi (fun hv1 => ?_)
    exact fr_some kp_rf
  · skip
    refine fr_if (fun _ => ?_) (fun _ => ?_)
    · skip
      refine fr_gi (fun hv2 => ?_)
      exact fr_some kp_rf
    · skip
      refine fr_if (fun _ => ?_) (fun _ => ?_)
      · skip
        refine fr_gi (fun hv3 => ?_)
        exact fr_some kp_rf
      · skip
        refine fr_if (fun _ => ?_) (fun _ => ?_)
        · skip
          refine fr_gi (fun hv4 => ?_)
          exact fr_some kp_rf
        · skip
          refine fr_if (fun _ => ?_) (fun _ => ?_)
          · skip
            refine fr_gi (fun hv5 => ?_)
            exact fr_some kp_rf
          · skip
            refine fr_if (fun _ => ?_) (fun _ => ?_)
            · skip
              refine fr_bd (fun r τ hh => kp_rf.tr (fr_fX8_askingOnes _ r τ hh) (kp_pick [] rfl)) (fun r8 σ7 hK6 => ?_)
              exact fr_some hK6
            · skip
              refine fr_gi (fun hv7 => ?_)
              exact fr_some kp_rf
theorem fr_fX8_now (p1 : Int32) (σ : St) : Fr [(8, 0, 1)] σ (fX8_now p1 σ) := by
  unfold fX8_now
  refine fr_bd (fun r τ hh => kp_rf.tr (fr_fX8_isRefused _ _ r τ hh) (kp_pick [0] rfl)) (fun r7 σ6 hK1 => ?_)
  refine fr_if (fun _ => ?_) (fun _ => ?_)
  · skip
    refine fr_bd (fun r τ hh => hK1.tr (fr_fX8_told _ _ r τ hh) (kp_pick [] rfl)) (fun r9 σ8 hK2 => ?_)
    exact fr_some hK2
  · skip
    exact fr_some hK1
theorem fr_fX8_ledger (p1 : Int32) (p2 : Int32) (σ : St) : Fr [(8, 0, 1)] σ (fX8_ledger p1 p2 σ) := by
  unfold fX8_ledger
  refine fr_bd (fun r τ hh => kp_rf.tr (fr_fX8_isBoard _ _ r τ hh) (kp_pick [] rfl)) (fun r2 σ1 hK1 => ?_)
  refine fr_bd (fun r τ hh => hK1.tr (fr_fX8_isRefused _ _ r τ hh) (kp_pick [0] rfl)) (fun r9 σ8 hK2 => ?_)
  refine fr_if (fun _ => ?_) (fun _ => ?_)
  · skip
    refine fr_gi (fun hv3 => ?_)
    exact fr_some hK2
  · skip
    exact fr_some hK2
theorem fr_fX8_past (p1 : Int32) (σ : St) : Fr [(8, 0, 1)] σ (fX8_past p1 σ) := by
  unfold fX8_past
  refine fr_bd (fun r τ hh => kp_rf.tr (fr_fX8_isRefused _ _ r τ hh) (kp_pick [0] rfl)) (fun r7 σ6 hK1 => ?_)
  refine fr_if (fun _ => ?_) (fun _ => ?_)
  · skip
    refine fr_gi (fun hv2 => ?_)
    refine fr_if (fun _ => ?_) (fun _ => ?_)
    · skip
      exact fr_some hK1
    · skip
      refine fr_gi (fun hv3 => ?_)
      refine fr_gi (fun hv4 => ?_)
      exact fr_some hK1
  · skip
    exact fr_some hK1
theorem fr_LX8_idle_20 {S : List (Nat × Nat × Nat)} {σ0 : St} (hs : ∀ e ∈ ([] : List (Nat × Nat × Nat)), e ∈ S) (ke : Int32 → St → Option (Int32 × St)) (hke : ∀ (e0 : Int32) (τ : St), Kp S σ0 τ → Fr S σ0 (ke e0 τ)) : ∀ (n : Nat) (b1 : Int32) (b2 : Int32) (σ : St), Kp S σ0 σ → Fr S σ0 (LX8_idle_20 ke n b1 b2 σ) := by
  intro n
  induction n with
  | zero => intros; exact fr_none
  | succ n ih =>
    intro b1 b2 σ hK0
    rw [LX8_idle_20]
    refine fr_if (fun _ => ?_) (fun _ => ?_)
    · skip
      exact hke _ _ hK0
    · skip
      refine fr_gi (fun hv1 => ?_)
      refine fr_if (fun _ => ?_) (fun _ => ?_)
      · skip
        exact hke _ _ hK0
      · skip
        refine fr_gi (fun hv2 => ?_)
        refine fr_gi (fun hv3 => ?_)
        refine fr_ltv (fun x6 => ?_)
        exact ih _ _ _ hK0
theorem fr_fX8_idle (σ : St) : Fr [(8, 0, 1)] σ (fX8_idle σ) := by
  unfold fX8_idle
  refine fr_bd (fun r τ hh => kp_rf.tr (fr_fX8_isRefused _ _ r τ hh) (kp_pick [0] rfl)) (fun r2 σ1 hK1 => ?_)
  refine fr_if (fun _ => ?_) (fun _ => ?_)
  · skip
    refine fr_LX8_idle_20 (S := [(8, 0, 1)])  (kp_pick [] rfl) _ (fun x7 σ8 hK2 => ?_) FU _ _ _ hK1
    exact fr_some hK2
  · skip
    exact fr_some hK1
theorem fr_fX8_log (p1 : Int32) (p2 : Int32) (σ : St) : Fr [(8, 0, 1)] σ (fX8_log p1 p2 σ) := by
  unfold fX8_log
  refine fr_jn (fun j39 => ∀ (x2 : Int32) (σ1 : St), Kp ([(8, 0, 1)]) σ σ1 → Fr ([(8, 0, 1)]) σ (j39 x2 σ1)) ?_ ?_
  · intro x2 σ1 hK1
    refine fr_bd (fun r τ hh => hK1.tr (fr_fX8_isRefused _ _ r τ hh) (kp_pick [0] rfl)) (fun r4 σ3 hK2 => ?_)
    refine fr_if (fun _ => ?_) (fun _ => ?_)
    · skip
      refine fr_gi (fun hv3 => ?_)
      exact fr_some hK2
    · skip
      exact fr_some hK2
  · intro j39 hj39
    refine fr_jn (fun j38 => ∀ (σ5 : St), Kp ([(8, 0, 1)]) σ σ5 → Fr ([(8, 0, 1)]) σ (j38 σ5)) ?_ ?_
    · intro σ5 hK4
      exact hj39 _ _ hK4
    · intro j38 hj38
      refine fr_if (fun _ => ?_) (fun _ => ?_)
      · skip
        exact hj38 _ kp_rf
      · skip
        refine fr_gi (fun hv5 => ?_)
        refine fr_if (fun _ => ?_) (fun _ => ?_)
        · skip
          exact hj38 _ kp_rf
        · skip
          refine fr_if (fun _ => ?_) (fun _ => ?_)
          · skip
            exact hj38 _ kp_rf
          · skip
            exact hj39 _ _ kp_rf
theorem fr_LX8_waiting_21 {S : List (Nat × Nat × Nat)} {σ0 : St} (a1 : Int32) (hs : ∀ e ∈ ([] : List (Nat × Nat × Nat)), e ∈ S) (ke : Int32 → St → Option (Int32 × St)) (hke : ∀ (e0 : Int32) (τ : St), Kp S σ0 τ → Fr S σ0 (ke e0 τ)) : ∀ (n : Nat) (b2 : Int32) (b3 : Int32) (σ : St), Kp S σ0 σ → Fr S σ0 (LX8_waiting_21 a1 ke n b2 b3 σ) := by
  intro n
  induction n with
  | zero => intros; exact fr_none
  | succ n ih =>
    intro b2 b3 σ hK0
    rw [LX8_waiting_21]
    refine fr_gi (fun hv1 => ?_)
    refine fr_if (fun _ => ?_) (fun _ => ?_)
    · skip
      exact hke _ _ hK0
    · skip
      refine fr_jn (fun j53 => ∀ (x6 : Int32) (σ5 : St), Kp S σ0 σ5 → Fr S σ0 (j53 x6 σ5)) ?_ ?_
      · intro x6 σ5 hK2
        refine fr_ltv (fun x7 => ?_)
        exact ih _ _ _ hK2
      · intro j53 hj53
        refine fr_jn (fun j52 => ∀ (σ8 : St), Kp S σ0 σ8 → Fr S σ0 (j52 σ8)) ?_ ?_
        · intro σ8 hK3
          exact hj53 _ _ hK3
        · intro j52 hj52
          refine fr_if (fun _ => ?_) (fun _ => ?_)
          · skip
            exact hj52 _ hK0
          · skip
            refine fr_bd (fun r τ hh => hK0.tr (fr_fX8_doesWait _ _ _ r τ hh) (kp_sub hs (kp_pick [] rfl))) (fun r10 σ9 hK4 => ?_)
            refine fr_if (fun _ => ?_) (fun _ => ?_)
            · skip
              exact hj52 _ hK4
            · skip
              exact hj53 _ _ hK4
theorem fr_fX8_waiting (p1 : Int32) (σ : St) : Fr [(8, 0, 1)] σ (fX8_waiting p1 σ) := by
  unfold fX8_waiting
  refine fr_bd (fun r τ hh => kp_rf.tr (fr_fX8_isBoard _ _ r τ hh) (kp_pick [] rfl)) (fun r2 σ1 hK1 => ?_)
  refine fr_bd (fun r τ hh => hK1.tr (fr_fX8_isRefused _ _ r τ hh) (kp_pick [0] rfl)) (fun r4 σ3 hK2 => ?_)
  refine fr_if (fun _ => ?_) (fun _ => ?_)
  · skip
    refine fr_LX8_waiting_21 (S := [(8, 0, 1)]) _ (kp_pick [] rfl) _ (fun x11 σ12 hK3 => ?_) FU _ _ _ hK2
    exact fr_some hK3
  · skip
    exact fr_some hK2
theorem fr_LX8_longest_21 {S : List (Nat × Nat × Nat)} {σ0 : St} (hs : ∀ e ∈ ([] : List (Nat × Nat × Nat)), e ∈ S) (ke : Int32 → St → Option (Int32 × St)) (hke : ∀ (e0 : Int32) (τ : St), Kp S σ0 τ → Fr S σ0 (ke e0 τ)) : ∀ (n : Nat) (b1 : Int32) (b2 : Int32) (σ : St), Kp S σ0 σ → Fr S σ0 (LX8_longest_21 ke n b1 b2 σ) := by
  intro n
  induction n with
  | zero => intros; exact fr_none
  | succ n ih =>
    intro b1 b2 σ hK0
    rw [LX8_longest_21]
    refine fr_gi (fun hv1 => ?_)
    refine fr_if (fun _ => ?_) (fun _ => ?_)
    · skip
      exact hke _ _ hK0
    · skip
      refine fr_gi (fun hv2 => ?_)
      refine fr_jn (fun j112 => ∀ (x4 : Int32) (σ3 : St), Kp S σ0 σ3 → Fr S σ0 (j112 x4 σ3)) ?_ ?_
      · intro x4 σ3 hK3
        exact ih _ _ _ hK3
      · intro j112 hj112
        refine fr_if (fun _ => ?_) (fun _ => ?_)
        · skip
          exact hj112 _ _ hK0
        · skip
          refine fr_jn (fun j78 => ∀ (x6 : Int32) (σ5 : St), Kp S σ0 σ5 → Fr S σ0 (j78 x6 σ5)) ?_ ?_
          · intro x6 σ5 hK4
            refine fr_jn (fun j111 => ∀ (x8 : Int32) (σ7 : St), Kp S σ0 σ7 → Fr S σ0 (j111 x8 σ7)) ?_ ?_
            · intro x8 σ7 hK5
              exact hj112 _ _ hK5
            · intro j111 hj111
              refine fr_jn (fun j106 => ∀ (σ9 : St), Kp S σ0 σ9 → Fr S σ0 (j106 σ9)) ?_ ?_
              · intro σ9 hK6
                exact hj111 _ _ hK6
              · intro j106 hj106
                refine fr_if (fun _ => ?_) (fun _ => ?_)
                · skip
                  exact hj106 _ hK4
                · skip
                  refine fr_jn (fun j110 => ∀ (σ10 : St), Kp S σ0 σ10 → Fr S σ0 (j110 σ10)) ?_ ?_
                  · intro σ10 hK7
                    exact hj111 _ _ hK7
                  · intro j110 hj110
                    refine fr_if (fun _ => ?_) (fun _ => ?_)
                    · skip
                      refine fr_gi (fun hv8 => ?_)
                      refine fr_gi (fun hv9 => ?_)
                      refine fr_if (fun _ => ?_) (fun _ => ?_)
                      · skip
                        exact hj110 _ hK4
                      · skip
                        exact hj106 _ hK4
                    · skip
                      exact hj110 _ hK4
          · intro j78 hj78
            refine fr_if (fun _ => ?_) (fun _ => ?_)
            · skip
              exact hj78 _ _ hK0
            · skip
              refine fr_gi (fun hv10 => ?_)
              refine fr_gi (fun hv11 => ?_)
              exact hj78 _ _ hK0
theorem fr_fX8_longest (σ : St) : Fr [(8, 0, 1)] σ (fX8_longest σ) := by
  unfold fX8_longest
  refine fr_bd (fun r τ hh => kp_rf.tr (fr_fX8_isRefused _ _ r τ hh) (kp_pick [0] rfl)) (fun r2 σ1 hK1 => ?_)
  refine fr_if (fun _ => ?_) (fun _ => ?_)
  · skip
    refine fr_LX8_longest_21 (S := [(8, 0, 1)])  (kp_pick [] rfl) _ (fun x11 σ12 hK2 => ?_) FU _ _ _ hK1
    exact fr_some hK2
  · skip
    exact fr_some hK1
theorem fr_LX8_laysAside_2 {S : List (Nat × Nat × Nat)} {σ0 : St} (hs : ∀ e ∈ [(48, 0, 1)], e ∈ S) (ke : St → Option (Unit × St)) (hke : ∀ (τ : St), Kp S σ0 τ → Fr S σ0 (ke τ)) : ∀ (n : Nat) (b1 : Int32) (σ : St), Kp S σ0 σ → Fr S σ0 (LX8_laysAside_2 ke n b1 σ) := by
  intro n
  induction n with
  | zero => intros; exact fr_none
  | succ n ih =>
    intro b1 σ hK0
    rw [LX8_laysAside_2]
    refine fr_if (fun _ => ?_) (fun _ => ?_)
    · skip
      exact hke _ hK0
    · skip
      refine fr_gi (fun hv1 => ?_)
      refine fr_gi (fun hv2 => ?_)
      refine fr_lts (hK0.wI (fr_h hs 0 rfl (by omega) (by omega))) (fun σ1 hK3 => ?_)
      exact ih _ _ hK3
theorem fr_fX8_laysAside (σ : St) : Fr [(48, 0, 1)] σ (fX8_laysAside σ) := by
  unfold fX8_laysAside
  refine fr_LX8_laysAside_2 (S := [(48, 0, 1)])  (kp_pick [0] rfl) _ (fun σ2 hK1 => ?_) FU _ _ kp_rf
  exact fr_some hK1
theorem fr_LX8_takesBack_2 {S : List (Nat × Nat × Nat)} {σ0 : St} (hs : ∀ e ∈ [(47, 0, 1)], e ∈ S) (ke : St → Option (Unit × St)) (hke : ∀ (τ : St), Kp S σ0 τ → Fr S σ0 (ke τ)) : ∀ (n : Nat) (b1 : Int32) (σ : St), Kp S σ0 σ → Fr S σ0 (LX8_takesBack_2 ke n b1 σ) := by
  intro n
  induction n with
  | zero => intros; exact fr_none
  | succ n ih =>
    intro b1 σ hK0
    rw [LX8_takesBack_2]
    refine fr_if (fun _ => ?_) (fun _ => ?_)
    · skip
      exact hke _ hK0
    · skip
      refine fr_gi (fun hv1 => ?_)
      refine fr_gi (fun hv2 => ?_)
      refine fr_lts (hK0.wI (fr_h hs 0 rfl (by omega) (by omega))) (fun σ1 hK3 => ?_)
      exact ih _ _ hK3
theorem fr_fX8_takesBack (σ : St) : Fr [(47, 0, 1)] σ (fX8_takesBack σ) := by
  unfold fX8_takesBack
  refine fr_LX8_takesBack_2 (S := [(47, 0, 1)])  (kp_pick [0] rfl) _ (fun σ2 hK1 => ?_) FU _ _ kp_rf
  exact fr_some hK1
theorem fr_LX8_will_52 {S : List (Nat × Nat × Nat)} {σ0 : St} (a1 : Int32) (a2 : Int32) (hs : ∀ e ∈ [(47, 0, 1), (8, 0, 1), (50, 0, 1), (55, 0, 1), (51, 0, 1), (52, 0, 1), (53, 0, 1), (54, 0, 1)], e ∈ S) (ke : St → Option (Int32 × St)) (hke : ∀ (τ : St), Kp S σ0 τ → Fr S σ0 (ke τ)) : ∀ (n : Nat) (b3 : Int32) (σ : St), Kp S σ0 σ → Fr S σ0 (LX8_will_52 a1 a2 ke n b3 σ) := by
  intro n
  induction n with
  | zero => intros; exact fr_none
  | succ n ih =>
    intro b3 σ hK0
    rw [LX8_will_52]
    refine fr_if (fun _ => ?_) (fun _ => ?_)
    · skip
      exact hke _ hK0
    · skip
      refine fr_bd (fun r τ hh => hK0.tr (fr_fX8_tick _ r τ hh) (kp_sub hs (kp_pick [0, 1, 2, 3, 4, 5, 6, 7] rfl))) (fun _ σ11 hK1 => ?_)
      exact ih _ _ hK1
theorem fr_fX8_will (p1 : Int32) (p2 : Int32) (σ : St) : Fr [(8, 0, 1), (48, 0, 1), (47, 0, 1), (50, 0, 1), (55, 0, 1), (51, 0, 1), (52, 0, 1), (53, 0, 1), (54, 0, 1)] σ (fX8_will p1 p2 σ) := by
  unfold fX8_will
  refine fr_bd (fun r τ hh => kp_rf.tr (fr_fX8_isRefused _ _ r τ hh) (kp_pick [0] rfl)) (fun r9 σ8 hK1 => ?_)
  refine fr_if (fun _ => ?_) (fun _ => ?_)
  · skip
    refine fr_bd (fun r τ hh => hK1.tr (fr_fX8_laysAside _ r τ hh) (kp_pick [1] rfl)) (fun _ σ10 hK2 => ?_)
    refine fr_LX8_will_52 (S := [(8, 0, 1), (48, 0, 1), (47, 0, 1), (50, 0, 1), (55, 0, 1), (51, 0, 1), (52, 0, 1), (53, 0, 1), (54, 0, 1)]) _ _ (kp_pick [2, 0, 3, 4, 5, 6, 7, 8] rfl) _ (fun σ12 hK3 => ?_) FU _ _ hK2
    refine fr_bd (fun r τ hh => hK3.tr (fr_fX8_told _ _ r τ hh) (kp_pick [] rfl)) (fun r14 σ13 hK4 => ?_)
    refine fr_bd (fun r τ hh => hK4.tr (fr_fX8_takesBack _ r τ hh) (kp_pick [2] rfl)) (fun _ σ15 hK5 => ?_)
    exact fr_some hK5
  · skip
    exact fr_some hK1
theorem fr_LX8_till_35 {S : List (Nat × Nat × Nat)} {σ0 : St} (a1 : Int32) (a2 : Int32) (hs : ∀ e ∈ [(47, 0, 1), (8, 0, 1), (50, 0, 1), (55, 0, 1), (51, 0, 1), (52, 0, 1), (53, 0, 1), (54, 0, 1)], e ∈ S) (ke : Int32 → St → Option (Int32 × St)) (hke : ∀ (e0 : Int32) (τ : St), Kp S σ0 τ → Fr S σ0 (ke e0 τ)) : ∀ (n : Nat) (b3 : Int32) (σ : St), Kp S σ0 σ → Fr S σ0 (LX8_till_35 a1 a2 ke n b3 σ) := by
  intro n
  induction n with
  | zero => intros; exact fr_none
  | succ n ih =>
    intro b3 σ hK0
    rw [LX8_till_35]
    refine fr_if (fun _ => ?_) (fun _ => ?_)
    · skip
      exact hke _ _ hK0
    · skip
      refine fr_gi (fun hv1 => ?_)
      refine fr_if (fun _ => ?_) (fun _ => ?_)
      · skip
        refine fr_bd (fun r τ hh => hK0.tr (fr_fX8_tick _ r τ hh) (kp_sub hs (kp_pick [0, 1, 2, 3, 4, 5, 6, 7] rfl))) (fun _ σ7 hK2 => ?_)
        exact ih _ _ hK2
      · skip
        exact hke _ _ hK0
theorem fr_fX8_till (p1 : Int32) (σ : St) : Fr [(8, 0, 1), (48, 0, 1), (47, 0, 1), (50, 0, 1), (55, 0, 1), (51, 0, 1), (52, 0, 1), (53, 0, 1), (54, 0, 1)] σ (fX8_till p1 σ) := by
  unfold fX8_till
  refine fr_bd (fun r τ hh => kp_rf.tr (fr_fX8_isBoard _ _ r τ hh) (kp_pick [] rfl)) (fun r2 σ1 hK1 => ?_)
  refine fr_bd (fun r τ hh => hK1.tr (fr_fX8_isRefused _ _ r τ hh) (kp_pick [0] rfl)) (fun r4 σ3 hK2 => ?_)
  refine fr_if (fun _ => ?_) (fun _ => ?_)
  · skip
    refine fr_bd (fun r τ hh => hK2.tr (fr_fX8_laysAside _ r τ hh) (kp_pick [1] rfl)) (fun _ σ5 hK3 => ?_)
    refine fr_gi (fun hv4 => ?_)
    refine fr_ltv (fun x6 => ?_)
    refine fr_LX8_till_35 (S := [(8, 0, 1), (48, 0, 1), (47, 0, 1), (50, 0, 1), (55, 0, 1), (51, 0, 1), (52, 0, 1), (53, 0, 1), (54, 0, 1)]) _ _ (kp_pick [2, 0, 3, 4, 5, 6, 7, 8] rfl) _ (fun x8 σ9 hK5 => ?_) FU _ _ hK3
    refine fr_gi (fun hv6 => ?_)
    refine fr_ltv (fun x13 => ?_)
    refine fr_bd (fun r τ hh => hK5.tr (fr_fX8_takesBack _ r τ hh) (kp_pick [2] rfl)) (fun _ σ14 hK7 => ?_)
    exact fr_some hK7
  · skip
    exact fr_some hK2
theorem fr_fX8_about (p1 : Int32) (σ : St) : Fr [(8, 0, 1)] σ (fX8_about p1 σ) := by
  unfold fX8_about
  refine fr_bd (fun r τ hh => kp_rf.tr (fr_fX8_isRefused _ _ r τ hh) (kp_pick [0] rfl)) (fun r7 σ6 hK1 => ?_)
  refine fr_if (fun _ => ?_) (fun _ => ?_)
  · skip
    refine fr_if (fun _ => ?_) (fun _ => ?_)
    · skip
      refine fr_gi (fun hv2 => ?_)
      exact fr_some hK1
    · skip
      refine fr_gi (fun hv3 => ?_)
      exact fr_some hK1
  · skip
    exact fr_some hK1
theorem fr_fX8_board (p1 : Int32) (p2 : Int32) (σ : St) : Fr [(8, 0, 1)] σ (fX8_board p1 p2 σ) := by
  unfold fX8_board
  refine fr_bd (fun r τ hh => kp_rf.tr (fr_fX8_isBoard _ _ r τ hh) (kp_pick [] rfl)) (fun r2 σ1 hK1 => ?_)
  refine fr_jn (fun j24 => ∀ (x4 : Int32) (σ3 : St), Kp ([(8, 0, 1)]) σ σ3 → Fr ([(8, 0, 1)]) σ (j24 x4 σ3)) ?_ ?_
  · intro x4 σ3 hK2
    refine fr_bd (fun r τ hh => hK2.tr (fr_fX8_isRefused _ _ r τ hh) (kp_pick [0] rfl)) (fun r6 σ5 hK3 => ?_)
    refine fr_if (fun _ => ?_) (fun _ => ?_)
    · skip
      refine fr_if (fun _ => ?_) (fun _ => ?_)
      · skip
        refine fr_gi (fun hv4 => ?_)
        exact fr_some hK3
      · skip
        refine fr_if (fun _ => ?_) (fun _ => ?_)
        · skip
          refine fr_gi (fun hv5 => ?_)
          exact fr_some hK3
        · skip
          refine fr_if (fun _ => ?_) (fun _ => ?_)
          · skip
            refine fr_gi (fun hv6 => ?_)
            exact fr_some hK3
          · skip
            refine fr_if (fun _ => ?_) (fun _ => ?_)
            · skip
              refine fr_bd (fun r τ hh => hK3.tr (fr_fX8_rankOf _ _ r τ hh) (kp_pick [] rfl)) (fun r12 σ11 hK7 => ?_)
              exact fr_some hK7
            · skip
              refine fr_if (fun _ => ?_) (fun _ => ?_)
              · skip
                refine fr_gi (fun hv8 => ?_)
                exact fr_some hK3
              · skip
                refine fr_if (fun _ => ?_) (fun _ => ?_)
                · skip
                  refine fr_gi (fun hv9 => ?_)
                  exact fr_some hK3
                · skip
                  refine fr_gi (fun hv10 => ?_)
                  exact fr_some hK3
    · skip
      exact fr_some hK3
  · intro j24 hj24
    refine fr_jn (fun j23 => ∀ (σ15 : St), Kp ([(8, 0, 1)]) σ σ15 → Fr ([(8, 0, 1)]) σ (j23 σ15)) ?_ ?_
    · intro σ15 hK11
      exact hj24 _ _ hK11
    · intro j23 hj23
      refine fr_if (fun _ => ?_) (fun _ => ?_)
      · skip
        exact hj23 _ hK1
      · skip
        refine fr_if (fun _ => ?_) (fun _ => ?_)
        · skip
          exact hj23 _ hK1
        · skip
          exact hj24 _ _ hK1
theorem fr_LX8_named_18 {S : List (Nat × Nat × Nat)} {σ0 : St} (a1 : Int32) (hs : ∀ e ∈ ([] : List (Nat × Nat × Nat)), e ∈ S) (ke : St → Option (Int32 × St)) (hke : ∀ (τ : St), Kp S σ0 τ → Fr S σ0 (ke τ)) : ∀ (n : Nat) (b2 : Int32) (σ : St), Kp S σ0 σ → Fr S σ0 (LX8_named_18 a1 ke n b2 σ) := by
  intro n
  induction n with
  | zero => intros; exact fr_none
  | succ n ih =>
    intro b2 σ hK0
    rw [LX8_named_18]
    refine fr_gi (fun hv1 => ?_)
    refine fr_if (fun _ => ?_) (fun _ => ?_)
    · skip
      exact hke _ hK0
    · skip
      refine fr_gi (fun hv2 => ?_)
      refine fr_if (fun _ => ?_) (fun _ => ?_)
      · skip
        exact fr_some hK0
      · skip
        exact ih _ _ hK0
theorem fr_fX8_named (p1 : Int32) (σ : St) : Fr [(8, 0, 1)] σ (fX8_named p1 σ) := by
  unfold fX8_named
  refine fr_bd (fun r τ hh => kp_rf.tr (fr_fX8_isRefused _ _ r τ hh) (kp_pick [0] rfl)) (fun r2 σ1 hK1 => ?_)
  refine fr_if (fun _ => ?_) (fun _ => ?_)
  · skip
    refine fr_LX8_named_18 (S := [(8, 0, 1)]) _ (kp_pick [] rfl) _ (fun σ3 hK2 => ?_) FU _ _ hK1
    refine fr_bd (fun r τ hh => hK2.tr (fr_fX8_no _ _ r τ hh) (kp_pick [0] rfl)) (fun r5 σ4 hK3 => ?_)
    exact fr_some hK3
  · skip
    exact fr_some hK1
theorem fr_fX8_word (p1 : Int32) (p2 : Int32) (σ : St) : Fr [(8, 0, 1)] σ (fX8_word p1 p2 σ) := by
  unfold fX8_word
  refine fr_bd (fun r τ hh => kp_rf.tr (fr_fX8_isBoard _ _ r τ hh) (kp_pick [] rfl)) (fun r2 σ1 hK1 => ?_)
  refine fr_bd (fun r τ hh => hK1.tr (fr_fX8_isRefused _ _ r τ hh) (kp_pick [0] rfl)) (fun r9 σ8 hK2 => ?_)
  refine fr_if (fun _ => ?_) (fun _ => ?_)
  · skip
    refine fr_bd (fun r τ hh => hK2.tr (fr_fX8_wordOf _ _ _ r τ hh) (kp_pick [] rfl)) (fun r11 σ10 hK3 => ?_)
    exact fr_some hK3
  · skip
    exact fr_some hK2
theorem fr_fX8_ask (p1 : Int32) (p2 : Int32) (σ : St) : Fr [(8, 0, 1), (47, 0, 1)] σ (fX8_ask p1 p2 σ) := by
  unfold fX8_ask
  refine fr_bd (fun r τ hh => kp_rf.tr (fr_fX8_isBoard _ _ r τ hh) (kp_pick [] rfl)) (fun r2 σ1 hK1 => ?_)
  refine fr_bd (fun r τ hh => hK1.tr (fr_fX8_isRefused _ _ r τ hh) (kp_pick [0] rfl)) (fun r9 σ8 hK2 => ?_)
  refine fr_if (fun _ => ?_) (fun _ => ?_)
  · skip
    refine fr_bd (fun r τ hh => hK2.tr (fr_fX8_asks _ _ _ r τ hh) (kp_pick [1] rfl)) (fun r11 σ10 hK3 => ?_)
    refine fr_if (fun _ => ?_) (fun _ => ?_)
    · skip
      refine fr_bd (fun r τ hh => hK3.tr (fr_fX8_no _ _ r τ hh) (kp_pick [0] rfl)) (fun r13 σ12 hK4 => ?_)
      exact fr_some hK4
    · skip
      refine fr_bd (fun r τ hh => hK3.tr (fr_fX8_askingOnes _ r τ hh) (kp_pick [] rfl)) (fun r15 σ14 hK5 => ?_)
      refine fr_bd (fun r τ hh => hK5.tr (fr_fX8_bitsOf _ _ r τ hh) (kp_pick [] rfl)) (fun r17 σ16 hK6 => ?_)
      exact fr_some hK6
  · skip
    exact fr_some hK2
theorem fr_fX8_waits (p1 : Int32) (p2 : Int32) (σ : St) : Fr [(8, 0, 1), (47, 0, 1)] σ (fX8_waits p1 p2 σ) := by
  unfold fX8_waits
  refine fr_bd (fun r τ hh => kp_rf.tr (fr_fX8_isBoard _ _ r τ hh) (kp_pick [] rfl)) (fun r2 σ1 hK1 => ?_)
  refine fr_jn (fun j54 => ∀ (x4 : Int32) (σ3 : St), Kp ([(8, 0, 1), (47, 0, 1)]) σ σ3 → Fr ([(8, 0, 1), (47, 0, 1)]) σ (j54 x4 σ3)) ?_ ?_
  · intro x4 σ3 hK2
    refine fr_bd (fun r τ hh => hK2.tr (fr_fX8_isRefused _ _ r τ hh) (kp_pick [0] rfl)) (fun r6 σ5 hK3 => ?_)
    refine fr_if (fun _ => ?_) (fun _ => ?_)
    · skip
      refine fr_gi (fun hv4 => ?_)
      refine fr_ltv (fun x7 => ?_)
      refine fr_gi (fun hv5 => ?_)
      refine fr_lts (hK3.wI (fr_m 1 rfl (by omega) (by omega))) (fun σ11 hK6 => ?_)
      exact fr_some hK6
    · skip
      exact fr_some hK3
  · intro j54 hj54
    refine fr_if (fun _ => ?_) (fun _ => ?_)
    · skip
      exact hj54 _ _ hK1
    · skip
      refine fr_jn (fun j35 => ∀ (σ12 : St), Kp ([(8, 0, 1), (47, 0, 1)]) σ σ12 → Fr ([(8, 0, 1), (47, 0, 1)]) σ (j35 σ12)) ?_ ?_
      · intro σ12 hK7
        refine fr_jn (fun j53 => ∀ (σ13 : St), Kp ([(8, 0, 1), (47, 0, 1)]) σ σ13 → Fr ([(8, 0, 1), (47, 0, 1)]) σ (j53 σ13)) ?_ ?_
        · intro σ13 hK8
          exact hj54 _ _ hK8
        · intro j53 hj53
          refine fr_if (fun _ => ?_) (fun _ => ?_)
          · skip
            exact hj53 _ hK7
          · skip
            refine fr_bd (fun r τ hh => hK7.tr (fr_fX8_doesWait _ _ _ r τ hh) (kp_pick [] rfl)) (fun r15 σ14 hK9 => ?_)
            refine fr_if (fun _ => ?_) (fun _ => ?_)
            · skip
              exact hj53 _ hK9
            · skip
              exact hj54 _ _ hK9
      · intro j35 hj35
        refine fr_if (fun _ => ?_) (fun _ => ?_)
        · skip
          exact hj35 _ hK1
        · skip
          refine fr_bd (fun r τ hh => hK1.tr (fr_fX8_isBoard _ _ r τ hh) (kp_pick [] rfl)) (fun r17 σ16 hK10 => ?_)
          refine fr_jn (fun j31 => ∀ (σ18 : St), Kp ([(8, 0, 1), (47, 0, 1)]) σ σ18 → Fr ([(8, 0, 1), (47, 0, 1)]) σ (j31 σ18)) ?_ ?_
          · intro σ18 hK11
            exact hj54 _ _ hK11
          · intro j31 hj31
            refine fr_if (fun _ => ?_) (fun _ => ?_)
            · skip
              exact hj31 _ hK10
            · skip
              refine fr_if (fun _ => ?_) (fun _ => ?_)
              · skip
                exact hj31 _ hK10
              · skip
                exact hj35 _ hK10
theorem fr_fX8_stick (p1 : Int32) (p2 : Int32) (σ : St) : Fr [(8, 0, 1), (47, 0, 1)] σ (fX8_stick p1 p2 σ) := by
  unfold fX8_stick
  refine fr_bd (fun r τ hh => kp_rf.tr (fr_fX8_isRefused _ _ r τ hh) (kp_pick [0] rfl)) (fun r9 σ8 hK1 => ?_)
  refine fr_if (fun _ => ?_) (fun _ => ?_)
  · skip
    refine fr_gi (fun hv2 => ?_)
    refine fr_ltv (fun x10 => ?_)
    refine fr_gi (fun hv3 => ?_)
    refine fr_lts (hK1.wI (fr_m 1 rfl (by omega) (by omega))) (fun σ11 hK4 => ?_)
    exact fr_some hK4
  · skip
    exact fr_some hK1
theorem fr_LX8_ticks_38 {S : List (Nat × Nat × Nat)} {σ0 : St} (a1 : Int32) (hs : ∀ e ∈ [(47, 0, 1), (8, 0, 1), (50, 0, 1), (55, 0, 1), (51, 0, 1), (52, 0, 1), (53, 0, 1), (54, 0, 1)], e ∈ S) (ke : St → Option (Int32 × St)) (hke : ∀ (τ : St), Kp S σ0 τ → Fr S σ0 (ke τ)) : ∀ (n : Nat) (b2 : Int32) (σ : St), Kp S σ0 σ → Fr S σ0 (LX8_ticks_38 a1 ke n b2 σ) := by
  intro n
  induction n with
  | zero => intros; exact fr_none
  | succ n ih =>
    intro b2 σ hK0
    rw [LX8_ticks_38]
    refine fr_if (fun _ => ?_) (fun _ => ?_)
    · skip
      exact hke _ hK0
    · skip
      refine fr_bd (fun r τ hh => hK0.tr (fr_fX8_tick _ r τ hh) (kp_sub hs (kp_pick [0, 1, 2, 3, 4, 5, 6, 7] rfl))) (fun _ σ8 hK1 => ?_)
      exact ih _ _ hK1
theorem fr_fX8_ticks (p1 : Int32) (σ : St) : Fr [(8, 0, 1), (47, 0, 1), (50, 0, 1), (55, 0, 1), (51, 0, 1), (52, 0, 1), (53, 0, 1), (54, 0, 1)] σ (fX8_ticks p1 σ) := by
  unfold fX8_ticks
  refine fr_bd (fun r τ hh => kp_rf.tr (fr_fX8_isRefused _ _ r τ hh) (kp_pick [0] rfl)) (fun r7 σ6 hK1 => ?_)
  refine fr_if (fun _ => ?_) (fun _ => ?_)
  · skip
    refine fr_LX8_ticks_38 (S := [(8, 0, 1), (47, 0, 1), (50, 0, 1), (55, 0, 1), (51, 0, 1), (52, 0, 1), (53, 0, 1), (54, 0, 1)]) _ (kp_pick [1, 0, 2, 3, 4, 5, 6, 7] rfl) _ (fun σ9 hK2 => ?_) FU _ _ hK1
    refine fr_gi (fun hv3 => ?_)
    exact fr_some hK2
  · skip
    exact fr_some hK1
theorem fr_LX8_keep_18 {S : List (Nat × Nat × Nat)} {σ0 : St} (hs : ∀ e ∈ [(49, 0, 1)], e ∈ S) (ke : St → Option (Int32 × St)) (hke : ∀ (τ : St), Kp S σ0 τ → Fr S σ0 (ke τ)) : ∀ (n : Nat) (b1 : Int32) (σ : St), Kp S σ0 σ → Fr S σ0 (LX8_keep_18 ke n b1 σ) := by
  intro n
  induction n with
  | zero => intros; exact fr_none
  | succ n ih =>
    intro b1 σ hK0
    rw [LX8_keep_18]
    refine fr_if (fun _ => ?_) (fun _ => ?_)
    · skip
      exact hke _ hK0
    · skip
      refine fr_gi (fun hv1 => ?_)
      refine fr_gi (fun hv2 => ?_)
      refine fr_lts (hK0.wI (fr_h hs 0 rfl (by omega) (by omega))) (fun σ3 hK3 => ?_)
      exact ih _ _ hK3
theorem fr_fX8_keep (σ : St) : Fr [(8, 0, 1), (49, 0, 1)] σ (fX8_keep σ) := by
  unfold fX8_keep
  refine fr_bd (fun r τ hh => kp_rf.tr (fr_fX8_isRefused _ _ r τ hh) (kp_pick [0] rfl)) (fun r2 σ1 hK1 => ?_)
  refine fr_if (fun _ => ?_) (fun _ => ?_)
  · skip
    refine fr_LX8_keep_18 (S := [(8, 0, 1), (49, 0, 1)])  (kp_pick [1] rfl) _ (fun σ4 hK2 => ?_) FU _ _ hK1
    refine fr_gd (fun _ => ?_)
    refine fr_lts (hK2.wI (fr_m 0 rfl (by omega) (by omega))) (fun σ5 hK3 => ?_)
    exact fr_some hK3
  · skip
    exact fr_some hK1
theorem fr_LX8_back_18 {S : List (Nat × Nat × Nat)} {σ0 : St} (hs : ∀ e ∈ [(47, 0, 1)], e ∈ S) (ke : St → Option (Int32 × St)) (hke : ∀ (τ : St), Kp S σ0 τ → Fr S σ0 (ke τ)) : ∀ (n : Nat) (b1 : Int32) (σ : St), Kp S σ0 σ → Fr S σ0 (LX8_back_18 ke n b1 σ) := by
  intro n
  induction n with
  | zero => intros; exact fr_none
  | succ n ih =>
    intro b1 σ hK0
    rw [LX8_back_18]
    refine fr_if (fun _ => ?_) (fun _ => ?_)
    · skip
      exact hke _ hK0
    · skip
      refine fr_gi (fun hv1 => ?_)
      refine fr_gi (fun hv2 => ?_)
      refine fr_lts (hK0.wI (fr_h hs 0 rfl (by omega) (by omega))) (fun σ3 hK3 => ?_)
      exact ih _ _ hK3
theorem fr_fX8_back (σ : St) : Fr [(8, 0, 1), (47, 0, 1)] σ (fX8_back σ) := by
  unfold fX8_back
  refine fr_bd (fun r τ hh => kp_rf.tr (fr_fX8_isRefused _ _ r τ hh) (kp_pick [0] rfl)) (fun r2 σ1 hK1 => ?_)
  refine fr_if (fun _ => ?_) (fun _ => ?_)
  · skip
    refine fr_LX8_back_18 (S := [(8, 0, 1), (47, 0, 1)])  (kp_pick [1] rfl) _ (fun σ4 hK2 => ?_) FU _ _ hK1
    exact fr_some hK2
  · skip
    exact fr_some hK1
theorem fr_LX8_bySlot_17 {S : List (Nat × Nat × Nat)} {σ0 : St} (a1 : Int32) (a2 : Int32) (hs : ∀ e ∈ ([] : List (Nat × Nat × Nat)), e ∈ S) (ke : Int32 → St → Option (Int32 × St)) (hke : ∀ (e0 : Int32) (τ : St), Kp S σ0 τ → Fr S σ0 (ke e0 τ)) : ∀ (n : Nat) (b3 : Int32) (b4 : Int32) (σ : St), Kp S σ0 σ → Fr S σ0 (LX8_bySlot_17 a1 a2 ke n b3 b4 σ) := by
  intro n
  induction n with
  | zero => intros; exact fr_none
  | succ n ih =>
    intro b3 b4 σ hK0
    rw [LX8_bySlot_17]
    refine fr_gi (fun hv1 => ?_)
    refine fr_if (fun _ => ?_) (fun _ => ?_)
    · skip
      exact hke _ _ hK0
    · skip
      refine fr_gi (fun hv2 => ?_)
      refine fr_gi (fun hv3 => ?_)
      refine fr_ltv (fun x4 => ?_)
      exact ih _ _ _ hK0
theorem fr_LX8_bySlot_2 {S : List (Nat × Nat × Nat)} {σ0 : St} (a1 : Int32) (hs : ∀ e ∈ ([] : List (Nat × Nat × Nat)), e ∈ S) (ke : St → Option (Int32 × St)) (hke : ∀ (τ : St), Kp S σ0 τ → Fr S σ0 (ke τ)) : ∀ (n : Nat) (b2 : Int32) (σ : St), Kp S σ0 σ → Fr S σ0 (LX8_bySlot_2 a1 ke n b2 σ) := by
  intro n
  induction n with
  | zero => intros; exact fr_none
  | succ n ih =>
    intro b2 σ hK0
    rw [LX8_bySlot_2]
    refine fr_gi (fun hv1 => ?_)
    refine fr_if (fun _ => ?_) (fun _ => ?_)
    · skip
      exact hke _ hK0
    · skip
      refine fr_LX8_bySlot_17 (S := S) _ _ (kp_sub hs (kp_pick [] rfl)) _ (fun x5 σ6 hK2 => ?_) FU _ _ _ hK0
      refine fr_if (fun _ => ?_) (fun _ => ?_)
      · skip
        exact fr_some hK2
      · skip
        exact ih _ _ hK2
theorem fr_fX8_bySlot (p1 : Int32) (σ : St) : Fr ([] : List (Nat × Nat × Nat)) σ (fX8_bySlot p1 σ) := by
  unfold fX8_bySlot
  refine fr_LX8_bySlot_2 (S := []) _ (kp_pick [] rfl) _ (fun σ7 hK1 => ?_) FU _ _ kp_rf
  exact fr_some hK1
theorem fr_LX8_never_9 {S : List (Nat × Nat × Nat)} {σ0 : St} (a1 : Int32) (hs : ∀ e ∈ ([] : List (Nat × Nat × Nat)), e ∈ S) (ke : St → Option (Int32 × St)) (hke : ∀ (τ : St), Kp S σ0 τ → Fr S σ0 (ke τ)) : ∀ (n : Nat) (b2 : Int32) (b3 : Int32) (σ : St), Kp S σ0 σ → Fr S σ0 (LX8_never_9 a1 ke n b2 b3 σ) := by
  intro n
  induction n with
  | zero => intros; exact fr_none
  | succ n ih =>
    intro b2 b3 σ hK0
    rw [LX8_never_9]
    refine fr_if (fun _ => ?_) (fun _ => ?_)
    · skip
      exact hke _ hK0
    · skip
      refine fr_gi (fun hv1 => ?_)
      refine fr_if (fun _ => ?_) (fun _ => ?_)
      · skip
        exact hke _ hK0
      · skip
        refine fr_bd (fun r τ hh => hK0.tr (fr_fX8_bySlot _ _ r τ hh) (kp_sub hs (kp_pick [] rfl))) (fun r3 σ2 hK2 => ?_)
        refine fr_gi (fun hv3 => ?_)
        refine fr_jn (fun j59 => ∀ (x5 : Int32) (σ4 : St), Kp S σ0 σ4 → Fr S σ0 (j59 x5 σ4)) ?_ ?_
        · intro x5 σ4 hK4
          exact ih _ _ _ hK4
        · intro j59 hj59
          refine fr_if (fun _ => ?_) (fun _ => ?_)
          · skip
            refine fr_if (fun _ => ?_) (fun _ => ?_)
            · skip
              exact fr_some hK2
            · skip
              exact hj59 _ _ hK2
          · skip
            exact hj59 _ _ hK2
theorem fr_fX8_never (p1 : Int32) (σ : St) : Fr [(8, 0, 1)] σ (fX8_never p1 σ) := by
  unfold fX8_never
  refine fr_lts (kp_rf.wI (fr_m 0 rfl (by omega) (by omega))) (fun σ1 hK1 => ?_)
  refine fr_LX8_never_9 (S := [(8, 0, 1)]) _ (kp_pick [] rfl) _ (fun σ6 hK2 => ?_) FU _ _ _ hK1
  refine fr_lts (hK2.wI (fr_m 0 rfl (by omega) (by omega))) (fun σ7 hK3 => ?_)
  exact fr_some hK3
theorem fr_LX8_size_9 {S : List (Nat × Nat × Nat)} {σ0 : St} (a1 : Int32) (hs : ∀ e ∈ ([] : List (Nat × Nat × Nat)), e ∈ S) (ke : Int32 → St → Option (Int32 × St)) (hke : ∀ (e0 : Int32) (τ : St), Kp S σ0 τ → Fr S σ0 (ke e0 τ)) : ∀ (n : Nat) (b2 : Int32) (b3 : Int32) (σ : St), Kp S σ0 σ → Fr S σ0 (LX8_size_9 a1 ke n b2 b3 σ) := by
  intro n
  induction n with
  | zero => intros; exact fr_none
  | succ n ih =>
    intro b2 b3 σ hK0
    rw [LX8_size_9]
    refine fr_if (fun _ => ?_) (fun _ => ?_)
    · skip
      exact hke _ _ hK0
    · skip
      refine fr_gi (fun hv1 => ?_)
      refine fr_ltv (fun x5 => ?_)
      exact ih _ _ _ hK0
theorem fr_fX8_size (p1 : Int32) (σ : St) : Fr [(8, 0, 1)] σ (fX8_size p1 σ) := by
  unfold fX8_size
  refine fr_lts (kp_rf.wI (fr_m 0 rfl (by omega) (by omega))) (fun σ1 hK1 => ?_)
  refine fr_LX8_size_9 (S := [(8, 0, 1)]) _ (kp_pick [] rfl) _ (fun x6 σ7 hK2 => ?_) FU _ _ _ hK1
  refine fr_if (fun _ => ?_) (fun _ => ?_)
  · skip
    exact fr_some hK2
  · skip
    refine fr_if (fun _ => ?_) (fun _ => ?_)
    · skip
      refine fr_if (fun _ => ?_) (fun _ => ?_)
      · skip
        exact fr_some hK2
      · skip
        refine fr_gi (fun hv3 => ?_)
        refine fr_gi (fun hv4 => ?_)
        exact fr_some hK2
    · skip
      refine fr_if (fun _ => ?_) (fun _ => ?_)
      · skip
        exact fr_some hK2
      · skip
        refine fr_if (fun _ => ?_) (fun _ => ?_)
        · skip
          exact fr_some hK2
        · skip
          exact fr_some hK2
theorem fr_fX8_trouble (σ : St) : Fr [(8, 0, 1)] σ (fX8_trouble σ) := by
  unfold fX8_trouble
  refine fr_lts (kp_rf.wI (fr_m 0 rfl (by omega) (by omega))) (fun σ1 hK1 => ?_)
  exact fr_some hK1
theorem fr_LX4_linesThat_4 {S : List (Nat × Nat × Nat)} {σ0 : St} (k0 : Nat) (a1 : Int32) (hs : ∀ e ∈ ([] : List (Nat × Nat × Nat)), e ∈ S) (ke : Int32 → St → Option (Int32 × St)) (hke : ∀ (e0 : Int32) (τ : St), Kp S σ0 τ → Fr S σ0 (ke e0 τ)) : ∀ (n : Nat) (b2 : Int32) (b3 : Int32) (σ : St), Kp S σ0 σ → Fr S σ0 (LX4_linesThat_4 k0 a1 ke n b2 b3 σ) := by
  intro n
  induction n with
  | zero => intros; exact fr_none
  | succ n ih =>
    intro b2 b3 σ hK0
    rw [LX4_linesThat_4]
    refine fr_if (fun _ => ?_) (fun _ => ?_)
    · skip
      exact hke _ _ hK0
    · skip
      refine fr_gi (fun hv1 => ?_)
      refine fr_jn (fun j26 => ∀ (x2 : Int32) (σ1 : St), Kp S σ0 σ1 → Fr S σ0 (j26 x2 σ1)) ?_ ?_
      · intro x2 σ1 hK2
        exact ih _ _ _ hK2
      · intro j26 hj26
        refine fr_if (fun _ => ?_) (fun _ => ?_)
        · skip
          refine fr_ltv (fun x3 => ?_)
          exact hj26 _ _ hK0
        · skip
          exact hj26 _ _ hK0
theorem fr_fX4_linesThat (k0 : Nat) (p1 : Int32) (σ : St) : Fr ([] : List (Nat × Nat × Nat)) σ (fX4_linesThat k0 p1 σ) := by
  unfold fX4_linesThat
  refine fr_LX4_linesThat_4 (S := []) _ _ (kp_pick [] rfl) _ (fun x4 σ5 hK1 => ?_) FU _ _ _ kp_rf
  exact fr_some hK1
theorem fr_LX1_wire_46 {S : List (Nat × Nat × Nat)} {σ0 : St} (k1 : Nat) (a4 : Int32) (hs : ∀ e ∈ [(12, 0, 6)], e ∈ S) (ke : St → Option (Unit × St)) (hke : ∀ (τ : St), Kp S σ0 τ → Fr S σ0 (ke τ)) : ∀ (n : Nat) (b5 : Int32) (σ : St), Kp S σ0 σ → Fr S σ0 (LX1_wire_46 k1 a4 ke n b5 σ) := by
  intro n
  induction n with
  | zero => intros; exact fr_none
  | succ n ih =>
    intro b5 σ hK0
    rw [LX1_wire_46]
    refine fr_if (fun _ => ?_) (fun _ => ?_)
    · skip
      exact hke _ hK0
    · skip
      refine fr_gi (fun hv1 => ?_)
      refine fr_gi (fun hv2 => ?_)
      refine fr_gi (fun hv3 => ?_)
      refine fr_gi (fun hv4 => ?_)
      refine fr_lts (hK0.wI (fr_h hs 0 rfl (by omega) (by omega))) (fun σ6 hK5 => ?_)
      exact ih _ _ hK5
theorem fr_LX1_wire_34 {S : List (Nat × Nat × Nat)} {σ0 : St} (k1 : Nat) (hs : ∀ e ∈ [(12, 0, 6)], e ∈ S) (ke : St → Option (Unit × St)) (hke : ∀ (τ : St), Kp S σ0 τ → Fr S σ0 (ke τ)) : ∀ (n : Nat) (b4 : Int32) (σ : St), Kp S σ0 σ → Fr S σ0 (LX1_wire_34 k1 ke n b4 σ) := by
  intro n
  induction n with
  | zero => intros; exact fr_none
  | succ n ih =>
    intro b4 σ hK0
    rw [LX1_wire_34]
    refine fr_if (fun _ => ?_) (fun _ => ?_)
    · skip
      exact hke _ hK0
    · skip
      refine fr_LX1_wire_46 (S := S) _ _ (kp_sub hs (kp_pick [0] rfl)) _ (fun σ7 hK1 => ?_) FU _ _ hK0
      exact ih _ _ hK1
theorem fr_fX1_wire (k1 : Nat) (p2 : Int32) (p3 : Int32) (σ : St) : Fr [(1, 0, 1), (12, 0, 6)] σ (fX1_wire k1 p2 p3 σ) := by
  unfold fX1_wire
  refine fr_lts (kp_rf.wI (fr_m 0 rfl (by omega) (by omega))) (fun σ1 hK1 => ?_)
  refine fr_lts (hK1.wI (fr_m 0 rfl (by omega) (by omega))) (fun σ2 hK2 => ?_)
  refine fr_lts (hK2.wI (fr_m 0 rfl (by omega) (by omega))) (fun σ3 hK3 => ?_)
  refine fr_lts (hK3.wI (fr_m 0 rfl (by omega) (by omega))) (fun σ4 hK4 => ?_)
  refine fr_LX1_wire_34 (S := [(1, 0, 1), (12, 0, 6)]) _ (kp_pick [1] rfl) _ (fun σ8 hK5 => ?_) FU _ _ hK4
  exact fr_some hK5
theorem fr_LX1_clearDips_10 {S : List (Nat × Nat × Nat)} {σ0 : St} (a1 : Int32) (hs : ∀ e ∈ [(22, 0, 6)], e ∈ S) (ke : St → Option (Unit × St)) (hke : ∀ (τ : St), Kp S σ0 τ → Fr S σ0 (ke τ)) : ∀ (n : Nat) (b2 : Int32) (σ : St), Kp S σ0 σ → Fr S σ0 (LX1_clearDips_10 a1 ke n b2 σ) := by
  intro n
  induction n with
  | zero => intros; exact fr_none
  | succ n ih =>
    intro b2 σ hK0
    rw [LX1_clearDips_10]
    refine fr_if (fun _ => ?_) (fun _ => ?_)
    · skip
      exact hke _ hK0
    · skip
      refine fr_if (fun _ => ?_) (fun _ => ?_)
      · skip
        exact hke _ hK0
      · skip
        refine fr_gi (fun hv1 => ?_)
        refine fr_gi (fun hv2 => ?_)
        refine fr_lts (hK0.wI (fr_h hs 0 rfl (by omega) (by omega))) (fun σ2 hK3 => ?_)
        exact ih _ _ hK3
theorem fr_LX1_clearDips_2 {S : List (Nat × Nat × Nat)} {σ0 : St} (hs : ∀ e ∈ [(22, 0, 6)], e ∈ S) (ke : St → Option (Unit × St)) (hke : ∀ (τ : St), Kp S σ0 τ → Fr S σ0 (ke τ)) : ∀ (n : Nat) (b1 : Int32) (σ : St), Kp S σ0 σ → Fr S σ0 (LX1_clearDips_2 ke n b1 σ) := by
  intro n
  induction n with
  | zero => intros; exact fr_none
  | succ n ih =>
    intro b1 σ hK0
    rw [LX1_clearDips_2]
    refine fr_if (fun _ => ?_) (fun _ => ?_)
    · skip
      exact hke _ hK0
    · skip
      refine fr_LX1_clearDips_10 (S := S) _ (kp_sub hs (kp_pick [0] rfl)) _ (fun σ3 hK1 => ?_) FU _ _ hK0
      exact ih _ _ hK1
theorem fr_fX1_clearDips (σ : St) : Fr [(22, 0, 6), (1, 0, 1)] σ (fX1_clearDips σ) := by
  unfold fX1_clearDips
  refine fr_LX1_clearDips_2 (S := [(22, 0, 6), (1, 0, 1)])  (kp_pick [0] rfl) _ (fun σ4 hK1 => ?_) FU _ _ kp_rf
  refine fr_lts (hK1.wI (fr_m 1 rfl (by omega) (by omega))) (fun σ5 hK2 => ?_)
  exact fr_some hK2
theorem fr_LX1_driveAll_9 {S : List (Nat × Nat × Nat)} {σ0 : St} (a1 : Int32) (a2 : Int32) (hs : ∀ e ∈ [(14, 0, 6)], e ∈ S) (ke : St → Option (Unit × St)) (hke : ∀ (τ : St), Kp S σ0 τ → Fr S σ0 (ke τ)) : ∀ (n : Nat) (b3 : Int32) (σ : St), Kp S σ0 σ → Fr S σ0 (LX1_driveAll_9 a1 a2 ke n b3 σ) := by
  intro n
  induction n with
  | zero => intros; exact fr_none
  | succ n ih =>
    intro b3 σ hK0
    rw [LX1_driveAll_9]
    refine fr_if (fun _ => ?_) (fun _ => ?_)
    · skip
      exact hke _ hK0
    · skip
      refine fr_gi (fun hv1 => ?_)
      refine fr_jn (fun j45 => ∀ (x4 : Int32) (σ3 : St), Kp S σ0 σ3 → Fr S σ0 (j45 x4 σ3)) ?_ ?_
      · intro x4 σ3 hK2
        refine fr_gi (fun hv3 => ?_)
        refine fr_lts (hK2.wI (fr_h hs 0 rfl (by omega) (by omega))) (fun σ5 hK4 => ?_)
        refine fr_jn (fun j82 => ∀ (σ6 : St), Kp S σ0 σ6 → Fr S σ0 (j82 σ6)) ?_ ?_
        · intro σ6 hK5
          exact ih _ _ hK5
        · intro j82 hj82
          refine fr_if (fun _ => ?_) (fun _ => ?_)
          · skip
            exact hj82 _ hK4
          · skip
            refine fr_if (fun _ => ?_) (fun _ => ?_)
            · skip
              exact hj82 _ hK4
            · skip
              refine fr_gi (fun hv6 => ?_)
              refine fr_gi (fun hv7 => ?_)
              refine fr_gi (fun hv8 => ?_)
              refine fr_gi (fun hv9 => ?_)
              refine fr_gi (fun hv10 => ?_)
              refine fr_gi (fun hv11 => ?_)
              refine fr_lts (hK4.wI (fr_h hs 0 rfl (by omega) (by omega))) (fun σ10 hK12 => ?_)
              exact hj82 _ hK12
      · intro j45 hj45
        refine fr_if (fun _ => ?_) (fun _ => ?_)
        · skip
          exact hj45 _ _ hK0
        · skip
          refine fr_gi (fun hv13 => ?_)
          exact hj45 _ _ hK0
theorem fr_fX1_driveAll (p1 : Int32) (σ : St) : Fr [(14, 0, 6)] σ (fX1_driveAll p1 σ) := by
  unfold fX1_driveAll
  refine fr_ltv (fun x1 => ?_)
  refine fr_LX1_driveAll_9 (S := [(14, 0, 6)]) _ _ (kp_pick [0] rfl) _ (fun σ11 hK1 => ?_) FU _ _ kp_rf
  exact fr_some hK1
theorem fr_LX1_nearestDriver_6 {S : List (Nat × Nat × Nat)} {σ0 : St} (a1 : Int32) (a2 : Int32) (a3 : Int32) (hs : ∀ e ∈ ([] : List (Nat × Nat × Nat)), e ∈ S) (ke : Int32 → St → Option (Int32 × St)) (hke : ∀ (e0 : Int32) (τ : St), Kp S σ0 τ → Fr S σ0 (ke e0 τ)) : ∀ (n : Nat) (b4 : Int32) (b5 : Int32) (σ : St), Kp S σ0 σ → Fr S σ0 (LX1_nearestDriver_6 a1 a2 a3 ke n b4 b5 σ) := by
  intro n
  induction n with
  | zero => intros; exact fr_none
  | succ n ih =>
    intro b4 b5 σ hK0
    rw [LX1_nearestDriver_6]
    refine fr_if (fun _ => ?_) (fun _ => ?_)
    · skip
      exact hke _ _ hK0
    · skip
      refine fr_gi (fun hv1 => ?_)
      refine fr_gi (fun hv2 => ?_)
      refine fr_ltv (fun x2 => ?_)
      refine fr_jn (fun j53 => ∀ (x4 : Int32) (σ3 : St), Kp S σ0 σ3 → Fr S σ0 (j53 x4 σ3)) ?_ ?_
      · intro x4 σ3 hK3
        refine fr_jn (fun j76 => ∀ (x6 : Int32) (σ5 : St), Kp S σ0 σ5 → Fr S σ0 (j76 x6 σ5)) ?_ ?_
        · intro x6 σ5 hK4
          exact ih _ _ _ hK4
        · intro j76 hj76
          refine fr_if (fun _ => ?_) (fun _ => ?_)
          · skip
            exact hj76 _ _ hK3
          · skip
            refine fr_jn (fun j72 => ∀ (σ7 : St), Kp S σ0 σ7 → Fr S σ0 (j72 σ7)) ?_ ?_
            · intro σ7 hK5
              exact hj76 _ _ hK5
            · intro j72 hj72
              refine fr_if (fun _ => ?_) (fun _ => ?_)
              · skip
                exact hj72 _ hK3
              · skip
                refine fr_if (fun _ => ?_) (fun _ => ?_)
                · skip
                  exact hj76 _ _ hK3
                · skip
                  exact hj72 _ hK3
      · intro j53 hj53
        refine fr_jn (fun j52 => ∀ (σ8 : St), Kp S σ0 σ8 → Fr S σ0 (j52 σ8)) ?_ ?_
        · intro σ8 hK6
          exact hj53 _ _ hK6
        · intro j52 hj52
          refine fr_if (fun _ => ?_) (fun _ => ?_)
          · skip
            exact hj52 _ hK0
          · skip
            refine fr_gi (fun hv7 => ?_)
            refine fr_gi (fun hv8 => ?_)
            refine fr_if (fun _ => ?_) (fun _ => ?_)
            · skip
              exact hj52 _ hK0
            · skip
              exact hj53 _ _ hK0
theorem fr_fX1_nearestDriver (p1 : Int32) (p2 : Int32) (p3 : Int32) (σ : St) : Fr ([] : List (Nat × Nat × Nat)) σ (fX1_nearestDriver p1 p2 p3 σ) := by
  unfold fX1_nearestDriver
  refine fr_LX1_nearestDriver_6 (S := []) _ _ _ (kp_pick [] rfl) _ (fun x10 σ11 hK1 => ?_) FU _ _ _ kp_rf
  exact fr_some hK1
theorem fr_LX1_dip_39 {S : List (Nat × Nat × Nat)} {σ0 : St} (a1 : Int32) (a2 : Int32) (a3 : Int32) (a4 : Int32) (a5 : Int32) (a6 : Int32) (hs : ∀ e ∈ [(22, 0, 6), (1, 0, 1)], e ∈ S) (ke : St → Option (Unit × St)) (hke : ∀ (τ : St), Kp S σ0 τ → Fr S σ0 (ke τ)) : ∀ (n : Nat) (b7 : Int32) (σ : St), Kp S σ0 σ → Fr S σ0 (LX1_dip_39 a1 a2 a3 a4 a5 a6 ke n b7 σ) := by
  intro n
  induction n with
  | zero => intros; exact fr_none
  | succ n ih =>
    intro b7 σ hK0
    rw [LX1_dip_39]
    refine fr_if (fun _ => ?_) (fun _ => ?_)
    · skip
      exact hke _ hK0
    · skip
      refine fr_if (fun _ => ?_) (fun _ => ?_)
      · skip
        exact hke _ hK0
      · skip
        refine fr_gi (fun hv1 => ?_)
        refine fr_gi (fun hv2 => ?_)
        refine fr_gi (fun hv3 => ?_)
        refine fr_lts (hK0.wI (fr_h hs 0 rfl (by omega) (by omega))) (fun σ5 hK4 => ?_)
        refine fr_lts (hK4.wI (fr_h hs 1 rfl (by omega) (by omega))) (fun σ9 hK5 => ?_)
        exact ih _ _ hK5
theorem fr_LX1_dip_13 {S : List (Nat × Nat × Nat)} {σ0 : St} (a1 : Int32) (a2 : Int32) (a3 : Int32) (a4 : Int32) (hs : ∀ e ∈ [(22, 0, 6), (1, 0, 1)], e ∈ S) (ke : St → Option (Unit × St)) (hke : ∀ (τ : St), Kp S σ0 τ → Fr S σ0 (ke τ)) : ∀ (n : Nat) (b5 : Int32) (σ : St), Kp S σ0 σ → Fr S σ0 (LX1_dip_13 a1 a2 a3 a4 ke n b5 σ) := by
  intro n
  induction n with
  | zero => intros; exact fr_none
  | succ n ih =>
    intro b5 σ hK0
    rw [LX1_dip_13]
    refine fr_if (fun _ => ?_) (fun _ => ?_)
    · skip
      exact hke _ hK0
    · skip
      refine fr_gi (fun hv1 => ?_)
      refine fr_gi (fun hv2 => ?_)
      refine fr_ltv (fun x3 => ?_)
      refine fr_LX1_dip_39 (S := S) _ _ _ _ _ _ (kp_sub hs (kp_pick [0, 1] rfl)) _ (fun σ10 hK3 => ?_) FU _ _ hK0
      exact ih _ _ hK3
theorem fr_fX1_dip (p1 : Int32) (p2 : Int32) (p3 : Int32) (p4 : Int32) (σ : St) : Fr [(1, 0, 1), (22, 0, 6)] σ (fX1_dip p1 p2 p3 p4 σ) := by
  unfold fX1_dip
  refine fr_lts (kp_rf.wI (fr_m 0 rfl (by omega) (by omega))) (fun σ1 hK1 => ?_)
  refine fr_LX1_dip_13 (S := [(1, 0, 1), (22, 0, 6)]) _ _ _ _ (kp_pick [1, 0] rfl) _ (fun σ11 hK2 => ?_) FU _ _ hK1
  exact fr_some hK2
theorem fr_LX1_letGoAll_65 {S : List (Nat × Nat × Nat)} {σ0 : St} (a1 : Int32) (a2 : Int32) (a3 : Int32) (hs : ∀ e ∈ [(1, 0, 1), (22, 0, 6)], e ∈ S) (ke : St → Option (Unit × St)) (hke : ∀ (τ : St), Kp S σ0 τ → Fr S σ0 (ke τ)) : ∀ (n : Nat) (b4 : Int32) (σ : St), Kp S σ0 σ → Fr S σ0 (LX1_letGoAll_65 a1 a2 a3 ke n b4 σ) := by
  intro n
  induction n with
  | zero => intros; exact fr_none
  | succ n ih =>
    intro b4 σ hK0
    rw [LX1_letGoAll_65]
    refine fr_if (fun _ => ?_) (fun _ => ?_)
    · skip
      exact hke _ hK0
    · skip
      refine fr_jn (fun j93 => ∀ (x9 : Int32) (σ8 : St), Kp S σ0 σ8 → Fr S σ0 (j93 x9 σ8)) ?_ ?_
      · intro x9 σ8 hK1
        refine fr_jn (fun j112 => ∀ (σ10 : St), Kp S σ0 σ10 → Fr S σ0 (j112 σ10)) ?_ ?_
        · intro σ10 hK2
          exact ih _ _ hK2
        · intro j112 hj112
          refine fr_if (fun _ => ?_) (fun _ => ?_)
          · skip
            exact hj112 _ hK1
          · skip
            refine fr_bd (fun r τ hh => hK1.tr (fr_fX1_dip _ _ _ _ _ r τ hh) (kp_sub hs (kp_pick [0, 1] rfl))) (fun _ σ11 hK3 => ?_)
            exact hj112 _ hK3
      · intro j93 hj93
        refine fr_if (fun _ => ?_) (fun _ => ?_)
        · skip
          exact hj93 _ _ hK0
        · skip
          refine fr_bd (fun r τ hh => hK0.tr (fr_fX1_nearestDriver _ _ _ _ r τ hh) (kp_sub hs (kp_pick [] rfl))) (fun r13 σ12 hK4 => ?_)
          exact hj93 _ _ hK4
theorem fr_LX1_letGoAll_2 {S : List (Nat × Nat × Nat)} {σ0 : St} (a1 : Int32) (hs : ∀ e ∈ [(1, 0, 1), (22, 0, 6)], e ∈ S) (ke : St → Option (Unit × St)) (hke : ∀ (τ : St), Kp S σ0 τ → Fr S σ0 (ke τ)) : ∀ (n : Nat) (b2 : Int32) (σ : St), Kp S σ0 σ → Fr S σ0 (LX1_letGoAll_2 a1 ke n b2 σ) := by
  intro n
  induction n with
  | zero => intros; exact fr_none
  | succ n ih =>
    intro b2 σ hK0
    rw [LX1_letGoAll_2]
    refine fr_if (fun _ => ?_) (fun _ => ?_)
    · skip
      exact hke _ hK0
    · skip
      refine fr_if (fun _ => ?_) (fun _ => ?_)
      · skip
        exact hke _ hK0
      · skip
        refine fr_gi (fun hv1 => ?_)
        refine fr_gi (fun hv2 => ?_)
        refine fr_gi (fun hv3 => ?_)
        refine fr_gi (fun hv4 => ?_)
        refine fr_jn (fun j118 => ∀ (σ3 : St), Kp S σ0 σ3 → Fr S σ0 (j118 σ3)) ?_ ?_
        · intro σ3 hK5
          exact ih _ _ hK5
        · intro j118 hj118
          refine fr_if (fun _ => ?_) (fun _ => ?_)
          · skip
            exact hj118 _ hK0
          · skip
            refine fr_lts (hK0.wI (fr_h hs 0 rfl (by omega) (by omega))) (fun σ4 hK6 => ?_)
            refine fr_gi (fun hv7 => ?_)
            refine fr_gi (fun hv8 => ?_)
            refine fr_gi (fun hv9 => ?_)
            refine fr_gi (fun hv10 => ?_)
            refine fr_ltv (fun x7 => ?_)
            refine fr_LX1_letGoAll_65 (S := S) _ _ _ (kp_sub hs (kp_pick [0, 1] rfl)) _ (fun σ14 hK11 => ?_) FU _ _ hK6
            exact hj118 _ hK11
theorem fr_fX1_letGoAll (p1 : Int32) (σ : St) : Fr [(1, 0, 1), (22, 0, 6)] σ (fX1_letGoAll p1 σ) := by
  unfold fX1_letGoAll
  refine fr_LX1_letGoAll_2 (S := [(1, 0, 1), (22, 0, 6)]) _ (kp_pick [0, 1] rfl) _ (fun σ15 hK1 => ?_) FU _ _ kp_rf
  exact fr_some hK1
theorem fr_LX1_look_5 {S : List (Nat × Nat × Nat)} {σ0 : St} (a1 : Int32) (a2 : Int32) (hs : ∀ e ∈ ([] : List (Nat × Nat × Nat)), e ∈ S) (ke : Int32 → St → Option (Int32 × St)) (hke : ∀ (e0 : Int32) (τ : St), Kp S σ0 τ → Fr S σ0 (ke e0 τ)) : ∀ (n : Nat) (b3 : Int32) (b4 : Int32) (σ : St), Kp S σ0 σ → Fr S σ0 (LX1_look_5 a1 a2 ke n b3 b4 σ) := by
  intro n
  induction n with
  | zero => intros; exact fr_none
  | succ n ih =>
    intro b3 b4 σ hK0
    rw [LX1_look_5]
    refine fr_if (fun _ => ?_) (fun _ => ?_)
    · skip
      exact hke _ _ hK0
    · skip
      refine fr_gi (fun hv1 => ?_)
      refine fr_gi (fun hv2 => ?_)
      refine fr_ltv (fun x2 => ?_)
      refine fr_jn (fun j51 => ∀ (x4 : Int32) (σ3 : St), Kp S σ0 σ3 → Fr S σ0 (j51 x4 σ3)) ?_ ?_
      · intro x4 σ3 hK3
        exact ih _ _ _ hK3
      · intro j51 hj51
        refine fr_if (fun _ => ?_) (fun _ => ?_)
        · skip
          exact hj51 _ _ hK0
        · skip
          refine fr_if (fun _ => ?_) (fun _ => ?_)
          · skip
            exact hj51 _ _ hK0
          · skip
            refine fr_gi (fun hv4 => ?_)
            refine fr_gi (fun hv5 => ?_)
            refine fr_ltv (fun x6 => ?_)
            exact hj51 _ _ hK0
theorem fr_fX1_look (p1 : Int32) (p2 : Int32) (σ : St) : Fr ([] : List (Nat × Nat × Nat)) σ (fX1_look p1 p2 σ) := by
  unfold fX1_look
  refine fr_LX1_look_5 (S := []) _ _ (kp_pick [] rfl) _ (fun x7 σ8 hK1 => ?_) FU _ _ _ kp_rf
  refine fr_gi (fun hv2 => ?_)
  refine fr_gi (fun hv3 => ?_)
  refine fr_gi (fun hv4 => ?_)
  refine fr_gi (fun hv5 => ?_)
  exact fr_some hK1
theorem fr_LX1_filtered_26 {S : List (Nat × Nat × Nat)} {σ0 : St} (a1 : Int32) (a2 : Int32) (hs : ∀ e ∈ ([] : List (Nat × Nat × Nat)), e ∈ S) (ke : Int32 → St → Option (Int32 × St)) (hke : ∀ (e0 : Int32) (τ : St), Kp S σ0 τ → Fr S σ0 (ke e0 τ)) : ∀ (n : Nat) (b3 : Int32) (b5 : Int32) (σ : St), Kp S σ0 σ → Fr S σ0 (LX1_filtered_26 a1 a2 ke n b3 b5 σ) := by
  intro n
  induction n with
  | zero => intros; exact fr_none
  | succ n ih =>
    intro b3 b5 σ hK0
    rw [LX1_filtered_26]
    refine fr_if (fun _ => ?_) (fun _ => ?_)
    · skip
      exact hke _ _ hK0
    · skip
      refine fr_gi (fun hv1 => ?_)
      refine fr_gi (fun hv2 => ?_)
      refine fr_ltv (fun x6 => ?_)
      exact ih _ _ _ hK0
theorem fr_fX1_filtered (p1 : Int32) (p2 : Int32) (σ : St) : Fr ([] : List (Nat × Nat × Nat)) σ (fX1_filtered p1 p2 σ) := by
  unfold fX1_filtered
  refine fr_ltv (fun x4 => ?_)
  refine fr_LX1_filtered_26 (S := []) _ _ (kp_pick [] rfl) _ (fun x7 σ8 hK1 => ?_) FU _ _ _ kp_rf
  exact fr_some hK1
theorem fr_LX1_highest_2 {S : List (Nat × Nat × Nat)} {σ0 : St} (a0 : Int32) (hs : ∀ e ∈ ([] : List (Nat × Nat × Nat)), e ∈ S) (ke : St → Option (Int32 × St)) (hke : ∀ (τ : St), Kp S σ0 τ → Fr S σ0 (ke τ)) : ∀ (n : Nat) (b1 : Int32) (σ : St), Kp S σ0 σ → Fr S σ0 (LX1_highest_2 a0 ke n b1 σ) := by
  intro n
  induction n with
  | zero => intros; exact fr_none
  | succ n ih =>
    intro b1 σ hK0
    rw [LX1_highest_2]
    refine fr_if (fun _ => ?_) (fun _ => ?_)
    · skip
      exact hke _ hK0
    · skip
      refine fr_if (fun _ => ?_) (fun _ => ?_)
      · skip
        exact ih _ _ hK0
      · skip
        exact fr_some hK0
theorem fr_fX1_highest (p0 : Int32) (σ : St) : Fr ([] : List (Nat × Nat × Nat)) σ (fX1_highest p0 σ) := by
  unfold fX1_highest
  refine fr_LX1_highest_2 (S := []) _ (kp_pick [] rfl) _ (fun σ1 hK1 => ?_) FU _ _ kp_rf
  exact fr_some hK1
theorem fr_LX1_seeAll_2 {S : List (Nat × Nat × Nat)} {σ0 : St} (a1 : Int32) (hs : ∀ e ∈ [(16, 0, 6), (18, 0, 6), (20, 0, 6)], e ∈ S) (ke : St → Option (Unit × St)) (hke : ∀ (τ : St), Kp S σ0 τ → Fr S σ0 (ke τ)) : ∀ (n : Nat) (b2 : Int32) (σ : St), Kp S σ0 σ → Fr S σ0 (LX1_seeAll_2 a1 ke n b2 σ) := by
  intro n
  induction n with
  | zero => intros; exact fr_none
  | succ n ih =>
    intro b2 σ hK0
    rw [LX1_seeAll_2]
    refine fr_if (fun _ => ?_) (fun _ => ?_)
    · skip
      exact hke _ hK0
    · skip
      refine fr_gi (fun hv1 => ?_)
      refine fr_bd (fun r τ hh => hK0.tr (fr_fX1_look _ _ _ r τ hh) (kp_sub hs (kp_pick [] rfl))) (fun r3 σ2 hK2 => ?_)
      refine fr_gi (fun hv3 => ?_)
      refine fr_lts (hK2.wI (fr_h hs 0 rfl (by omega) (by omega))) (fun σ4 hK4 => ?_)
      refine fr_gi (fun hv5 => ?_)
      refine fr_bd (fun r τ hh => hK4.tr (fr_fX1_filtered _ _ _ r τ hh) (kp_sub hs (kp_pick [] rfl))) (fun r7 σ6 hK6 => ?_)
      refine fr_gi (fun hv7 => ?_)
      refine fr_lts (hK6.wI (fr_h hs 1 rfl (by omega) (by omega))) (fun σ8 hK8 => ?_)
      refine fr_gi (fun hv9 => ?_)
      refine fr_gi (fun hv10 => ?_)
      refine fr_gi (fun hv11 => ?_)
      refine fr_ltv (fun x10 => ?_)
      refine fr_gi (fun hv12 => ?_)
      refine fr_jn (fun j83 => ∀ (x13 : Int32) (σ12 : St), Kp S σ0 σ12 → Fr S σ0 (j83 x13 σ12)) ?_ ?_
      · intro x13 σ12 hK13
        refine fr_gi (fun hv14 => ?_)
        refine fr_lts (hK13.wI (fr_h hs 2 rfl (by omega) (by omega))) (fun σ14 hK15 => ?_)
        exact ih _ _ hK15
      · intro j83 hj83
        refine fr_if (fun _ => ?_) (fun _ => ?_)
        · skip
          exact hj83 _ _ hK8
        · skip
          refine fr_bd (fun r τ hh => hK8.tr (fr_fX1_highest _ _ r τ hh) (kp_sub hs (kp_pick [] rfl))) (fun r16 σ15 hK16 => ?_)
          exact hj83 _ _ hK16
theorem fr_fX1_seeAll (p1 : Int32) (σ : St) : Fr [(16, 0, 6), (18, 0, 6), (20, 0, 6)] σ (fX1_seeAll p1 σ) := by
  unfold fX1_seeAll
  refine fr_LX1_seeAll_2 (S := [(16, 0, 6), (18, 0, 6), (20, 0, 6)]) _ (kp_pick [0, 1, 2] rfl) _ (fun σ17 hK1 => ?_) FU _ _ kp_rf
  exact fr_some hK1
theorem fr_LX1_play_35 {S : List (Nat × Nat × Nat)} {σ0 : St} (a3 : Int32) (hs : ∀ e ∈ [(14, 0, 6), (1, 0, 1), (22, 0, 6), (16, 0, 6), (18, 0, 6), (20, 0, 6)], e ∈ S) (ke : St → Option (Unit × St)) (hke : ∀ (τ : St), Kp S σ0 τ → Fr S σ0 (ke τ)) : ∀ (n : Nat) (b4 : Int32) (b5 : Int32) (σ : St), Kp S σ0 σ → Fr S σ0 (LX1_play_35 a3 ke n b4 b5 σ) := by
  intro n
  induction n with
  | zero => intros; exact fr_none
  | succ n ih =>
    intro b4 b5 σ hK0
    rw [LX1_play_35]
    refine fr_if (fun _ => ?_) (fun _ => ?_)
    · skip
      exact hke _ hK0
    · skip
      refine fr_if (fun _ => ?_) (fun _ => ?_)
      · skip
        exact hke _ hK0
      · skip
        refine fr_if (fun _ => ?_) (fun _ => ?_)
        · skip
          exact hke _ hK0
        · skip
          refine fr_bd (fun r τ hh => hK0.tr (fr_fX1_driveAll _ _ r τ hh) (kp_sub hs (kp_pick [0] rfl))) (fun _ σ7 hK1 => ?_)
          refine fr_bd (fun r τ hh => hK1.tr (fr_fX1_letGoAll _ _ r τ hh) (kp_sub hs (kp_pick [1, 2] rfl))) (fun _ σ8 hK2 => ?_)
          refine fr_bd (fun r τ hh => hK2.tr (fr_fX1_seeAll _ _ r τ hh) (kp_sub hs (kp_pick [3, 4, 5] rfl))) (fun _ σ9 hK3 => ?_)
          refine fr_lts (hK3.wI (fr_h hs 1 rfl (by omega) (by omega))) (fun σ10 hK4 => ?_)
          refine fr_ltv (fun x14 => ?_)
          exact ih _ _ _ hK4
theorem fr_fX1_play (p1 : Int32) (p2 : Int32) (p3 : Int32) (σ : St) : Fr [(1, 0, 1), (22, 0, 6), (14, 0, 6), (16, 0, 6), (18, 0, 6), (20, 0, 6)] σ (fX1_play p1 p2 p3 σ) := by
  unfold fX1_play
  refine fr_lts (kp_rf.wI (fr_m 0 rfl (by omega) (by omega))) (fun σ1 hK1 => ?_)
  refine fr_lts (hK1.wI (fr_m 0 rfl (by omega) (by omega))) (fun σ2 hK2 => ?_)
  refine fr_lts (hK2.wI (fr_m 0 rfl (by omega) (by omega))) (fun σ3 hK3 => ?_)
  refine fr_lts (hK3.wI (fr_m 0 rfl (by omega) (by omega))) (fun σ4 hK4 => ?_)
  refine fr_lts (hK4.wI (fr_m 0 rfl (by omega) (by omega))) (fun σ5 hK5 => ?_)
  refine fr_bd (fun r τ hh => hK5.tr (fr_fX1_clearDips _ r τ hh) (kp_pick [1, 0] rfl)) (fun _ σ6 hK6 => ?_)
  refine fr_LX1_play_35 (S := [(1, 0, 1), (22, 0, 6), (14, 0, 6), (16, 0, 6), (18, 0, 6), (20, 0, 6)]) _ (kp_pick [2, 0, 1, 3, 4, 5] rfl) _ (fun σ15 hK7 => ?_) FU _ _ _ hK6
  exact fr_some hK7
theorem fr_fX1_playedTick (p1 : Int32) (σ : St) : Fr ([] : List (Nat × Nat × Nat)) σ (fX1_playedTick p1 σ) := by
  unfold fX1_playedTick
  exact fr_some kp_rf
theorem fr_fX1_yieldedAt (p1 : Int32) (p2 : Int32) (σ : St) : Fr ([] : List (Nat × Nat × Nat)) σ (fX1_yieldedAt p1 p2 σ) := by
  unfold fX1_yieldedAt
  refine fr_if (fun _ => ?_) (fun _ => ?_)
  · skip
    exact fr_some kp_rf
  · skip
    refine fr_gi (fun hv1 => ?_)
    refine fr_bd (fun r τ hh => kp_rf.tr (fr_fX1_playedTick _ _ r τ hh) (kp_pick [] rfl)) (fun r3 σ2 hK2 => ?_)
    refine fr_gi (fun hv3 => ?_)
    exact fr_some hK2
theorem fr_LX1_winnersAt_4 {S : List (Nat × Nat × Nat)} {σ0 : St} (a1 : Int32) (hs : ∀ e ∈ ([] : List (Nat × Nat × Nat)), e ∈ S) (ke : Int32 → St → Option (Int32 × St)) (hke : ∀ (e0 : Int32) (τ : St), Kp S σ0 τ → Fr S σ0 (ke e0 τ)) : ∀ (n : Nat) (b2 : Int32) (b3 : Int32) (σ : St), Kp S σ0 σ → Fr S σ0 (LX1_winnersAt_4 a1 ke n b2 b3 σ) := by
  intro n
  induction n with
  | zero => intros; exact fr_none
  | succ n ih =>
    intro b2 b3 σ hK0
    rw [LX1_winnersAt_4]
    refine fr_if (fun _ => ?_) (fun _ => ?_)
    · skip
      exact hke _ _ hK0
    · skip
      refine fr_jn (fun j40 => ∀ (x2 : Int32) (σ1 : St), Kp S σ0 σ1 → Fr S σ0 (j40 x2 σ1)) ?_ ?_
      · intro x2 σ1 hK1
        exact ih _ _ _ hK1
      · intro j40 hj40
        refine fr_if (fun _ => ?_) (fun _ => ?_)
        · skip
          exact hj40 _ _ hK0
        · skip
          refine fr_bd (fun r τ hh => hK0.tr (fr_fX1_yieldedAt _ _ _ r τ hh) (kp_sub hs (kp_pick [] rfl))) (fun r4 σ3 hK2 => ?_)
          refine fr_if (fun _ => ?_) (fun _ => ?_)
          · skip
            refine fr_ltv (fun x5 => ?_)
            exact hj40 _ _ hK2
          · skip
            exact hj40 _ _ hK2
theorem fr_fX1_winnersAt (p1 : Int32) (σ : St) : Fr ([] : List (Nat × Nat × Nat)) σ (fX1_winnersAt p1 σ) := by
  unfold fX1_winnersAt
  refine fr_LX1_winnersAt_4 (S := []) _ (kp_pick [] rfl) _ (fun x6 σ7 hK1 => ?_) FU _ _ _ kp_rf
  exact fr_some hK1
theorem fr_fX1_believedAt (p1 : Int32) (p2 : Int32) (σ : St) : Fr ([] : List (Nat × Nat × Nat)) σ (fX1_believedAt p1 p2 σ) := by
  unfold fX1_believedAt
  refine fr_if (fun _ => ?_) (fun _ => ?_)
  · skip
    exact fr_some kp_rf
  · skip
    refine fr_gi (fun hv1 => ?_)
    refine fr_bd (fun r τ hh => kp_rf.tr (fr_fX1_playedTick _ _ r τ hh) (kp_pick [] rfl)) (fun r3 σ2 hK2 => ?_)
    refine fr_gi (fun hv3 => ?_)
    exact fr_some hK2
theorem fr_LX1_isEvenAt_2 {S : List (Nat × Nat × Nat)} {σ0 : St} (a1 : Int32) (hs : ∀ e ∈ ([] : List (Nat × Nat × Nat)), e ∈ S) (ke : St → Option (Int32 × St)) (hke : ∀ (τ : St), Kp S σ0 τ → Fr S σ0 (ke τ)) : ∀ (n : Nat) (b2 : Int32) (σ : St), Kp S σ0 σ → Fr S σ0 (LX1_isEvenAt_2 a1 ke n b2 σ) := by
  intro n
  induction n with
  | zero => intros; exact fr_none
  | succ n ih =>
    intro b2 σ hK0
    rw [LX1_isEvenAt_2]
    refine fr_if (fun _ => ?_) (fun _ => ?_)
    · skip
      exact hke _ hK0
    · skip
      refine fr_bd (fun r τ hh => hK0.tr (fr_fX1_believedAt _ _ _ r τ hh) (kp_sub hs (kp_pick [] rfl))) (fun r2 σ1 hK1 => ?_)
      refine fr_bd (fun r τ hh => hK1.tr (fr_fJ6_bitCount_0f7a4 _ _ r τ hh) (kp_sub hs (kp_pick [] rfl))) (fun r4 σ3 hK2 => ?_)
      refine fr_if (fun _ => ?_) (fun _ => ?_)
      · skip
        exact fr_some hK2
      · skip
        exact ih _ _ hK2
theorem fr_fX1_isEvenAt (p1 : Int32) (σ : St) : Fr ([] : List (Nat × Nat × Nat)) σ (fX1_isEvenAt p1 σ) := by
  unfold fX1_isEvenAt
  refine fr_LX1_isEvenAt_2 (S := []) _ (kp_pick [] rfl) _ (fun σ5 hK1 => ?_) FU _ _ kp_rf
  exact fr_some hK1
theorem fr_LX0_only_2 {S : List (Nat × Nat × Nat)} {σ0 : St} (a0 : Int32) (hs : ∀ e ∈ ([] : List (Nat × Nat × Nat)), e ∈ S) (ke : St → Option (Int32 × St)) (hke : ∀ (τ : St), Kp S σ0 τ → Fr S σ0 (ke τ)) : ∀ (n : Nat) (b1 : Int32) (σ : St), Kp S σ0 σ → Fr S σ0 (LX0_only_2 a0 ke n b1 σ) := by
  intro n
  induction n with
  | zero => intros; exact fr_none
  | succ n ih =>
    intro b1 σ hK0
    rw [LX0_only_2]
    refine fr_if (fun _ => ?_) (fun _ => ?_)
    · skip
      exact hke _ hK0
    · skip
      refine fr_if (fun _ => ?_) (fun _ => ?_)
      · skip
        exact fr_some hK0
      · skip
        exact ih _ _ hK0
theorem fr_fX0_only (p0 : Int32) (σ : St) : Fr ([] : List (Nat × Nat × Nat)) σ (fX0_only p0 σ) := by
  unfold fX0_only
  refine fr_LX0_only_2 (S := []) _ (kp_pick [] rfl) _ (fun σ1 hK1 => ?_) FU _ _ kp_rf
  exact fr_some hK1
theorem fr_fX0_decide (k1 : Nat) (c2 : Nat) (k2 : Nat) (p3 : Int32) (σ : St) : Fr [(1, 0, 1), (12, 0, 6), (10, 0, 1), (22, 0, 6), (14, 0, 6), (16, 0, 6), (18, 0, 6), (20, 0, 6), (0, 0, 1)] σ (fX0_decide k1 c2 k2 p3 σ) := by
  unfold fX0_decide
  refine fr_gd (fun _ => ?_)
  refine fr_ltv (fun x2 => ?_)
  refine fr_bd (fun r τ hh => kp_rf.tr (fr_fX4_linesThat _ _ _ r τ hh) (kp_pick [] rfl)) (fun r4 σ3 hK1 => ?_)
  refine fr_bd (fun r τ hh => hK1.tr (fr_fX4_linesThat _ _ _ r τ hh) (kp_pick [] rfl)) (fun r6 σ5 hK2 => ?_)
  refine fr_bd (fun r τ hh => hK2.tr (fr_fX1_wire _ _ _ _ r τ hh) (kp_pick [0, 1] rfl)) (fun _ σ7 hK3 => ?_)
  refine fr_gd (fun _ => ?_)
  refine fr_lts (hK3.wA (fr_m 2 rfl (by omega) (by omega))) (fun σ8 hK4 => ?_)
  refine fr_bd (fun r τ hh => hK4.tr (fr_fX1_play _ _ _ _ r τ hh) (kp_pick [0, 3, 4, 5, 6, 7] rfl)) (fun _ σ9 hK5 => ?_)
  refine fr_bd (fun r τ hh => hK5.tr (fr_fX1_winnersAt _ _ r τ hh) (kp_pick [] rfl)) (fun r11 σ10 hK6 => ?_)
  refine fr_lts (hK6.wI (fr_m 8 rfl (by omega) (by omega))) (fun σ12 hK7 => ?_)
  refine fr_bd (fun r τ hh => hK7.tr (fr_fX1_isEvenAt _ _ r τ hh) (kp_pick [] rfl)) (fun r14 σ13 hK8 => ?_)
  refine fr_lts (hK8.wI (fr_m 8 rfl (by omega) (by omega))) (fun σ18 hK9 => ?_)
  refine fr_lts (hK9.wI (fr_m 8 rfl (by omega) (by omega))) (fun σ19 hK10 => ?_)
  refine fr_jn (fun j184 => ∀ (σ20 : St), Kp ([(1, 0, 1), (12, 0, 6), (10, 0, 1), (22, 0, 6), (14, 0, 6), (16, 0, 6), (18, 0, 6), (20, 0, 6), (0, 0, 1)]) σ σ20 → Fr ([(1, 0, 1), (12, 0, 6), (10, 0, 1), (22, 0, 6), (14, 0, 6), (16, 0, 6), (18, 0, 6), (20, 0, 6), (0, 0, 1)]) σ (j184 σ20)) ?_ ?_
  · intro σ20 hK11
    refine fr_bd (fun r τ hh => hK11.tr (fr_fX0_only _ _ r τ hh) (kp_pick [] rfl)) (fun r22 σ21 hK12 => ?_)
    refine fr_lts (hK12.wI (fr_m 8 rfl (by omega) (by omega))) (fun σ23 hK13 => ?_)
    exact fr_some hK13
  · intro j184 hj184
    refine fr_if (fun _ => ?_) (fun _ => ?_)
    · skip
      exact hj184 _ hK10
    · skip
      refine fr_gd (fun _ => ?_)
      refine fr_lts (hK10.wA (fr_m 2 rfl (by omega) (by omega))) (fun σ24 hK14 => ?_)
      refine fr_bd (fun r τ hh => hK14.tr (fr_fX1_play _ _ _ _ r τ hh) (kp_pick [0, 3, 4, 5, 6, 7] rfl)) (fun _ σ25 hK15 => ?_)
      refine fr_bd (fun r τ hh => hK15.tr (fr_fX1_winnersAt _ _ r τ hh) (kp_pick [] rfl)) (fun r27 σ26 hK16 => ?_)
      refine fr_lts (hK16.wI (fr_m 8 rfl (by omega) (by omega))) (fun σ28 hK17 => ?_)
      refine fr_bd (fun r τ hh => hK17.tr (fr_fX1_isEvenAt _ _ r τ hh) (kp_pick [] rfl)) (fun r30 σ29 hK18 => ?_)
      refine fr_lts (hK18.wI (fr_m 8 rfl (by omega) (by omega))) (fun σ34 hK19 => ?_)
      exact hj184 _ hK19
theorem fr_LX1_greatestOf_7 {S : List (Nat × Nat × Nat)} {σ0 : St} (a1 : Int32) (hs : ∀ e ∈ ([] : List (Nat × Nat × Nat)), e ∈ S) (ke : Int32 → St → Option (Int32 × St)) (hke : ∀ (e0 : Int32) (τ : St), Kp S σ0 τ → Fr S σ0 (ke e0 τ)) : ∀ (n : Nat) (b2 : Int32) (b3 : Int32) (b4 : Int32) (σ : St), Kp S σ0 σ → Fr S σ0 (LX1_greatestOf_7 a1 ke n b2 b3 b4 σ) := by
  intro n
  induction n with
  | zero => intros; exact fr_none
  | succ n ih =>
    intro b2 b3 b4 σ hK0
    rw [LX1_greatestOf_7]
    refine fr_if (fun _ => ?_) (fun _ => ?_)
    · skip
      exact hke _ _ hK0
    · skip
      refine fr_jn (fun j69 => ∀ (x2 : Int32) (x3 : Int32) (σ1 : St), Kp S σ0 σ1 → Fr S σ0 (j69 x2 x3 σ1)) ?_ ?_
      · intro x2 x3 σ1 hK1
        exact ih _ _ _ _ hK1
      · intro j69 hj69
        refine fr_if (fun _ => ?_) (fun _ => ?_)
        · skip
          exact hj69 _ _ _ hK0
        · skip
          refine fr_gi (fun hv2 => ?_)
          refine fr_if (fun _ => ?_) (fun _ => ?_)
          · skip
            exact hj69 _ _ _ hK0
          · skip
            refine fr_gi (fun hv3 => ?_)
            refine fr_ltv (fun x7 => ?_)
            refine fr_gi (fun hv4 => ?_)
            refine fr_ltv (fun x8 => ?_)
            exact hj69 _ _ _ hK0
theorem fr_fX1_greatestOf (p1 : Int32) (σ : St) : Fr ([] : List (Nat × Nat × Nat)) σ (fX1_greatestOf p1 σ) := by
  unfold fX1_greatestOf
  refine fr_LX1_greatestOf_7 (S := []) _ (kp_pick [] rfl) _ (fun x9 σ10 hK1 => ?_) FU _ _ _ _ kp_rf
  exact fr_some hK1
theorem fr_LX1_sureFrom_17 {S : List (Nat × Nat × Nat)} {σ0 : St} (a1 : Int32) (hs : ∀ e ∈ ([] : List (Nat × Nat × Nat)), e ∈ S) (ke : Int32 → St → Option (Int32 × St)) (hke : ∀ (e0 : Int32) (τ : St), Kp S σ0 τ → Fr S σ0 (ke e0 τ)) : ∀ (n : Nat) (b2 : Int32) (b3 : Int32) (σ : St), Kp S σ0 σ → Fr S σ0 (LX1_sureFrom_17 a1 ke n b2 b3 σ) := by
  intro n
  induction n with
  | zero => intros; exact fr_none
  | succ n ih =>
    intro b2 b3 σ hK0
    rw [LX1_sureFrom_17]
    refine fr_if (fun _ => ?_) (fun _ => ?_)
    · skip
      exact hke _ _ hK0
    · skip
      refine fr_bd (fun r τ hh => hK0.tr (fr_fX1_winnersAt _ _ r τ hh) (kp_sub hs (kp_pick [] rfl))) (fun r5 σ4 hK1 => ?_)
      refine fr_if (fun _ => ?_) (fun _ => ?_)
      · skip
        exact ih _ _ _ hK1
      · skip
        exact hke _ _ hK1
theorem fr_fX1_sureFrom (σ : St) : Fr ([] : List (Nat × Nat × Nat)) σ (fX1_sureFrom σ) := by
  unfold fX1_sureFrom
  refine fr_bd (fun r τ hh => kp_rf.tr (fr_fX1_greatestOf _ _ r τ hh) (kp_pick [] rfl)) (fun r2 σ1 hK1 => ?_)
  refine fr_ltv (fun x3 => ?_)
  refine fr_LX1_sureFrom_17 (S := []) _ (kp_pick [] rfl) _ (fun x6 σ7 hK2 => ?_) FU _ _ _ hK1
  exact fr_some hK2
theorem fr_fX1_sightAt (p1 : Int32) (p2 : Int32) (σ : St) : Fr ([] : List (Nat × Nat × Nat)) σ (fX1_sightAt p1 p2 σ) := by
  unfold fX1_sightAt
  refine fr_if (fun _ => ?_) (fun _ => ?_)
  · skip
    exact fr_some kp_rf
  · skip
    refine fr_gi (fun hv1 => ?_)
    refine fr_bd (fun r τ hh => kp_rf.tr (fr_fX1_playedTick _ _ r τ hh) (kp_pick [] rfl)) (fun r3 σ2 hK2 => ?_)
    refine fr_gi (fun hv3 => ?_)
    exact fr_some hK2
theorem fr_LX1_edgesOf_5 {S : List (Nat × Nat × Nat)} {σ0 : St} (a1 : Int32) (a2 : Int32) (hs : ∀ e ∈ ([] : List (Nat × Nat × Nat)), e ∈ S) (ke : Int32 → St → Option (Int32 × St)) (hke : ∀ (e0 : Int32) (τ : St), Kp S σ0 τ → Fr S σ0 (ke e0 τ)) : ∀ (n : Nat) (b3 : Int32) (b4 : Int32) (σ : St), Kp S σ0 σ → Fr S σ0 (LX1_edgesOf_5 a1 a2 ke n b3 b4 σ) := by
  intro n
  induction n with
  | zero => intros; exact fr_none
  | succ n ih =>
    intro b3 b4 σ hK0
    rw [LX1_edgesOf_5]
    refine fr_if (fun _ => ?_) (fun _ => ?_)
    · skip
      exact hke _ _ hK0
    · skip
      refine fr_bd (fun r τ hh => hK0.tr (fr_fX1_sightAt _ _ _ r τ hh) (kp_sub hs (kp_pick [] rfl))) (fun r2 σ1 hK1 => ?_)
      refine fr_bd (fun r τ hh => hK1.tr (fr_fX1_sightAt _ _ _ r τ hh) (kp_sub hs (kp_pick [] rfl))) (fun r4 σ3 hK2 => ?_)
      refine fr_jn (fun j41 => ∀ (x6 : Int32) (σ5 : St), Kp S σ0 σ5 → Fr S σ0 (j41 x6 σ5)) ?_ ?_
      · intro x6 σ5 hK3
        exact ih _ _ _ hK3
      · intro j41 hj41
        refine fr_if (fun _ => ?_) (fun _ => ?_)
        · skip
          exact hj41 _ _ hK2
        · skip
          exact hj41 _ _ hK2
theorem fr_fX1_edgesOf (p1 : Int32) (p2 : Int32) (σ : St) : Fr ([] : List (Nat × Nat × Nat)) σ (fX1_edgesOf p1 p2 σ) := by
  unfold fX1_edgesOf
  refine fr_LX1_edgesOf_5 (S := []) _ _ (kp_pick [] rfl) _ (fun x7 σ8 hK1 => ?_) FU _ _ _ kp_rf
  exact fr_some hK1
theorem fr_fX1_drivenAt (p1 : Int32) (p2 : Int32) (σ : St) : Fr ([] : List (Nat × Nat × Nat)) σ (fX1_drivenAt p1 p2 σ) := by
  unfold fX1_drivenAt
  refine fr_if (fun _ => ?_) (fun _ => ?_)
  · skip
    exact fr_some kp_rf
  · skip
    refine fr_gi (fun hv1 => ?_)
    refine fr_bd (fun r τ hh => kp_rf.tr (fr_fX1_playedTick _ _ r τ hh) (kp_pick [] rfl)) (fun r3 σ2 hK2 => ?_)
    refine fr_gi (fun hv3 => ?_)
    exact fr_some hK2
theorem fr_fX2_clear (k0 : Nat) (σ : St) : Fr [(2, k0, k0 + 1)] σ (fX2_clear k0 σ) := by
  unfold fX2_clear
  refine fr_lts (kp_rf.wI (fr_m 0 rfl (by omega) (by omega))) (fun σ1 hK1 => ?_)
  refine fr_lts (hK1.wI (fr_m 0 rfl (by omega) (by omega))) (fun σ2 hK2 => ?_)
  refine fr_lts (hK2.wI (fr_m 0 rfl (by omega) (by omega))) (fun σ3 hK3 => ?_)
  refine fr_lts (hK3.wI (fr_m 0 rfl (by omega) (by omega))) (fun σ4 hK4 => ?_)
  refine fr_lts (hK4.wI (fr_m 0 rfl (by omega) (by omega))) (fun σ5 hK5 => ?_)
  refine fr_gd (fun _ => ?_)
  refine fr_lts (hK5.wI (fr_m 0 rfl (by omega) (by omega))) (fun σ6 hK6 => ?_)
  exact fr_some hK6
theorem fr_fX7_odd (p0 : Int32) (σ : St) : Fr ([] : List (Nat × Nat × Nat)) σ (fX7_odd p0 σ) := by
  unfold fX7_odd
  refine fr_bd (fun r τ hh => kp_rf.tr (fr_fJ6_bitCount_0f7a4 _ _ r τ hh) (kp_pick [] rfl)) (fun r2 σ1 hK1 => ?_)
  exact fr_some hK1
theorem fr_fX2_addBoard (k0 : Nat) (p1 : Int32) (p2 : Int32) (p3 : Int32) (p4 : Int32) (σ : St) : Fr [(23, k0, k0 + 1), (24, k0, k0 + 1), (25, k0, k0 + 1), (26, k0, k0 + 1), (27, k0, k0 + 1), (2, k0, k0 + 1)] σ (fX2_addBoard k0 p1 p2 p3 p4 σ) := by
  unfold fX2_addBoard
  refine fr_if (fun _ => ?_) (fun _ => ?_)
  · skip
    exact fr_some kp_rf
  · skip
    refine fr_gi (fun hv1 => ?_)
    refine fr_lts (kp_rf.wI (fr_m 0 rfl (by omega) (by omega))) (fun σ1 hK2 => ?_)
    refine fr_gi (fun hv3 => ?_)
    refine fr_lts (hK2.wI (fr_m 1 rfl (by omega) (by omega))) (fun σ2 hK4 => ?_)
    refine fr_gi (fun hv5 => ?_)
    refine fr_lts (hK4.wI (fr_m 2 rfl (by omega) (by omega))) (fun σ3 hK6 => ?_)
    refine fr_gi (fun hv7 => ?_)
    refine fr_lts (hK6.wI (fr_m 3 rfl (by omega) (by omega))) (fun σ4 hK8 => ?_)
    refine fr_bd (fun r τ hh => hK8.tr (fr_fX7_odd _ _ r τ hh) (kp_pick [] rfl)) (fun r6 σ5 hK9 => ?_)
    refine fr_gi (fun hv10 => ?_)
    refine fr_lts (hK9.wI (fr_m 4 rfl (by omega) (by omega))) (fun σ7 hK11 => ?_)
    refine fr_lts (hK11.wI (fr_m 5 rfl (by omega) (by omega))) (fun σ8 hK12 => ?_)
    exact fr_some hK12
theorem fr_fX2_addAsk (k0 : Nat) (p1 : Int32) (p2 : Int32) (p3 : Int32) (σ : St) : Fr [(28, k0, k0 + 1), (29, k0, k0 + 1), (30, k0, k0 + 1), (2, k0, k0 + 1)] σ (fX2_addAsk k0 p1 p2 p3 σ) := by
  unfold fX2_addAsk
  refine fr_if (fun _ => ?_) (fun _ => ?_)
  · skip
    exact fr_some kp_rf
  · skip
    refine fr_gi (fun hv1 => ?_)
    refine fr_lts (kp_rf.wI (fr_m 0 rfl (by omega) (by omega))) (fun σ1 hK2 => ?_)
    refine fr_gi (fun hv3 => ?_)
    refine fr_lts (hK2.wI (fr_m 1 rfl (by omega) (by omega))) (fun σ2 hK4 => ?_)
    refine fr_gi (fun hv5 => ?_)
    refine fr_lts (hK4.wI (fr_m 2 rfl (by omega) (by omega))) (fun σ3 hK6 => ?_)
    refine fr_lts (hK6.wI (fr_m 3 rfl (by omega) (by omega))) (fun σ4 hK7 => ?_)
    exact fr_some hK7
theorem fr_fX2_latestAsk (k0 : Nat) (σ : St) : Fr ([] : List (Nat × Nat × Nat)) σ (fX2_latestAsk k0 σ) := by
  unfold fX2_latestAsk
  refine fr_if (fun _ => ?_) (fun _ => ?_)
  · skip
    exact fr_some kp_rf
  · skip
    refine fr_if (fun _ => ?_) (fun _ => ?_)
    · skip
      exact fr_some kp_rf
    · skip
      refine fr_gi (fun hv1 => ?_)
      exact fr_some kp_rf
theorem fr_LX2_find_2 {S : List (Nat × Nat × Nat)} {σ0 : St} (k0 : Nat) (c1 : Nat) (k1 : Nat) (a2 : Int32) (hs : ∀ e ∈ ([] : List (Nat × Nat × Nat)), e ∈ S) (ke : St → Option (Int32 × St)) (hke : ∀ (τ : St), Kp S σ0 τ → Fr S σ0 (ke τ)) : ∀ (n : Nat) (b3 : Int32) (σ : St), Kp S σ0 σ → Fr S σ0 (LX2_find_2 k0 c1 k1 a2 ke n b3 σ) := by
  intro n
  induction n with
  | zero => intros; exact fr_none
  | succ n ih =>
    intro b3 σ hK0
    rw [LX2_find_2]
    refine fr_if (fun _ => ?_) (fun _ => ?_)
    · skip
      exact hke _ hK0
    · skip
      refine fr_if (fun _ => ?_) (fun _ => ?_)
      · skip
        exact hke _ hK0
      · skip
        refine fr_gi (fun hv1 => ?_)
        refine fr_if (fun _ => ?_) (fun _ => ?_)
        · skip
          exact fr_some hK0
        · skip
          exact ih _ _ hK0
theorem fr_fX2_find (k0 : Nat) (c1 : Nat) (k1 : Nat) (p2 : Int32) (σ : St) : Fr ([] : List (Nat × Nat × Nat)) σ (fX2_find k0 c1 k1 p2 σ) := by
  unfold fX2_find
  refine fr_LX2_find_2 (S := []) _ _ _ _ (kp_pick [] rfl) _ (fun σ1 hK1 => ?_) FU _ _ kp_rf
  exact fr_some hK1
theorem fr_fX2_boardOfName (k0 : Nat) (p1 : Int32) (σ : St) : Fr ([] : List (Nat × Nat × Nat)) σ (fX2_boardOfName k0 p1 σ) := by
  unfold fX2_boardOfName
  refine fr_bd (fun r τ hh => kp_rf.tr (fr_fX2_find _ _ _ _ _ r τ hh) (kp_pick [] rfl)) (fun r2 σ1 hK1 => ?_)
  exact fr_some hK1
theorem fr_fX2_boardOfSlot (k0 : Nat) (p1 : Int32) (σ : St) : Fr ([] : List (Nat × Nat × Nat)) σ (fX2_boardOfSlot k0 p1 σ) := by
  unfold fX2_boardOfSlot
  refine fr_bd (fun r τ hh => kp_rf.tr (fr_fX2_find _ _ _ _ _ r τ hh) (kp_pick [] rfl)) (fun r2 σ1 hK1 => ?_)
  exact fr_some hK1
theorem fr_fX2_boardOfCode (k0 : Nat) (p1 : Int32) (σ : St) : Fr ([] : List (Nat × Nat × Nat)) σ (fX2_boardOfCode k0 p1 σ) := by
  unfold fX2_boardOfCode
  refine fr_bd (fun r τ hh => kp_rf.tr (fr_fX2_find _ _ _ _ _ r τ hh) (kp_pick [] rfl)) (fun r2 σ1 hK1 => ?_)
  exact fr_some hK1
theorem fr_fX2_holds (k0 : Nat) (p1 : Int32) (σ : St) : Fr ([] : List (Nat × Nat × Nat)) σ (fX2_holds k0 p1 σ) := by
  unfold fX2_holds
  exact fr_rz kp_rf
theorem fr_fX2_boardFact (k0 : Nat) (p1 : Int32) (p2 : Int32) (σ : St) : Fr ([] : List (Nat × Nat × Nat)) σ (fX2_boardFact k0 p1 p2 σ) := by
  unfold fX2_boardFact
  refine fr_bd (fun r τ hh => kp_rf.tr (fr_fX2_holds _ _ _ r τ hh) (kp_pick [] rfl)) (fun r2 σ1 hK1 => ?_)
  refine fr_if (fun _ => ?_) (fun _ => ?_)
  · skip
    exact fr_some hK1
  · skip
    refine fr_if (fun _ => ?_) (fun _ => ?_)
    · skip
      refine fr_gi (fun hv2 => ?_)
      exact fr_some hK1
    · skip
      refine fr_if (fun _ => ?_) (fun _ => ?_)
      · skip
        refine fr_gi (fun hv3 => ?_)
        exact fr_some hK1
      · skip
        refine fr_gi (fun hv4 => ?_)
        exact fr_some hK1
theorem fr_fX2_sets (k0 : Nat) (σ : St) : Fr ([] : List (Nat × Nat × Nat)) σ (fX2_sets k0 σ) := by
  unfold fX2_sets
  exact fr_some kp_rf
theorem fr_fX2_fact (k0 : Nat) (p1 : Int32) (σ : St) : Fr ([] : List (Nat × Nat × Nat)) σ (fX2_fact k0 p1 σ) := by
  unfold fX2_fact
  refine fr_if (fun _ => ?_) (fun _ => ?_)
  · skip
    exact fr_some kp_rf
  · skip
    refine fr_if (fun _ => ?_) (fun _ => ?_)
    · skip
      exact fr_some kp_rf
    · skip
      refine fr_if (fun _ => ?_) (fun _ => ?_)
      · skip
        exact fr_some kp_rf
      · skip
        refine fr_if (fun _ => ?_) (fun _ => ?_)
        · skip
          exact fr_some kp_rf
        · skip
          exact fr_some kp_rf
theorem fr_fX6_byteAt (p1 : Int32) (σ : St) : Fr ([] : List (Nat × Nat × Nat)) σ (fX6_byteAt p1 σ) := by
  unfold fX6_byteAt
  refine fr_if (fun _ => ?_) (fun _ => ?_)
  · skip
    exact fr_some kp_rf
  · skip
    refine fr_if (fun _ => ?_) (fun _ => ?_)
    · skip
      exact fr_some kp_rf
    · skip
      refine fr_gi (fun hv1 => ?_)
      exact fr_some kp_rf
theorem fr_LX3_stepOverWord_0 {S : List (Nat × Nat × Nat)} {σ0 : St} (hs : ∀ e ∈ [(3, 0, 1)], e ∈ S) (ke : St → Option (Unit × St)) (hke : ∀ (τ : St), Kp S σ0 τ → Fr S σ0 (ke τ)) : ∀ (n : Nat) (σ : St), Kp S σ0 σ → Fr S σ0 (LX3_stepOverWord_0 ke n σ) := by
  intro n
  induction n with
  | zero => intros; exact fr_none
  | succ n ih =>
    intro σ hK0
    rw [LX3_stepOverWord_0]
    refine fr_if (fun _ => ?_) (fun _ => ?_)
    · skip
      exact hke _ hK0
    · skip
      refine fr_bd (fun r τ hh => hK0.tr (fr_fX6_byteAt _ _ r τ hh) (kp_sub hs (kp_pick [] rfl))) (fun r2 σ1 hK1 => ?_)
      refine fr_if (fun _ => ?_) (fun _ => ?_)
      · skip
        exact hke _ hK1
      · skip
        refine fr_bd (fun r τ hh => hK1.tr (fr_fX6_byteAt _ _ r τ hh) (kp_sub hs (kp_pick [] rfl))) (fun r4 σ3 hK2 => ?_)
        refine fr_lts (hK2.wI (fr_h hs 0 rfl (by omega) (by omega))) (fun σ5 hK3 => ?_)
        refine fr_lts (hK3.wI (fr_h hs 0 rfl (by omega) (by omega))) (fun σ6 hK4 => ?_)
        exact ih _ hK4
theorem fr_fX3_stepOverWord (σ : St) : Fr [(3, 0, 1)] σ (fX3_stepOverWord σ) := by
  unfold fX3_stepOverWord
  refine fr_LX3_stepOverWord_0 (S := [(3, 0, 1)])  (kp_pick [0] rfl) _ (fun σ7 hK1 => ?_) FU _ kp_rf
  refine fr_lts (hK1.wI (fr_m 0 rfl (by omega) (by omega))) (fun σ11 hK2 => ?_)
  exact fr_some hK2
theorem fr_LX3_stepOverWhole_0 {S : List (Nat × Nat × Nat)} {σ0 : St} (hs : ∀ e ∈ [(3, 0, 1)], e ∈ S) (ke : St → Option (Unit × St)) (hke : ∀ (τ : St), Kp S σ0 τ → Fr S σ0 (ke τ)) : ∀ (n : Nat) (σ : St), Kp S σ0 σ → Fr S σ0 (LX3_stepOverWhole_0 ke n σ) := by
  intro n
  induction n with
  | zero => intros; exact fr_none
  | succ n ih =>
    intro σ hK0
    rw [LX3_stepOverWhole_0]
    refine fr_if (fun _ => ?_) (fun _ => ?_)
    · skip
      exact hke _ hK0
    · skip
      refine fr_bd (fun r τ hh => hK0.tr (fr_fX6_byteAt _ _ r τ hh) (kp_sub hs (kp_pick [] rfl))) (fun r2 σ1 hK1 => ?_)
      refine fr_if (fun _ => ?_) (fun _ => ?_)
      · skip
        exact hke _ hK1
      · skip
        refine fr_bd (fun r τ hh => hK1.tr (fr_fX6_byteAt _ _ r τ hh) (kp_sub hs (kp_pick [] rfl))) (fun r4 σ3 hK2 => ?_)
        refine fr_lts (hK2.wI (fr_h hs 0 rfl (by omega) (by omega))) (fun σ5 hK3 => ?_)
        refine fr_lts (hK3.wI (fr_h hs 0 rfl (by omega) (by omega))) (fun σ6 hK4 => ?_)
        exact ih _ hK4
theorem fr_fX3_stepOverWhole (σ : St) : Fr [(3, 0, 1)] σ (fX3_stepOverWhole σ) := by
  unfold fX3_stepOverWhole
  refine fr_LX3_stepOverWhole_0 (S := [(3, 0, 1)])  (kp_pick [0] rfl) _ (fun σ7 hK1 => ?_) FU _ kp_rf
  refine fr_lts (hK1.wI (fr_m 0 rfl (by omega) (by omega))) (fun σ11 hK2 => ?_)
  exact fr_some hK2
theorem fr_LX3_step_0 {S : List (Nat × Nat × Nat)} {σ0 : St} (hs : ∀ e ∈ [(3, 0, 1)], e ∈ S) (ke : St → Option (Unit × St)) (hke : ∀ (τ : St), Kp S σ0 τ → Fr S σ0 (ke τ)) : ∀ (n : Nat) (σ : St), Kp S σ0 σ → Fr S σ0 (LX3_step_0 ke n σ) := by
  intro n
  induction n with
  | zero => intros; exact fr_none
  | succ n ih =>
    intro σ hK0
    rw [LX3_step_0]
    refine fr_if (fun _ => ?_) (fun _ => ?_)
    · skip
      exact hke _ hK0
    · skip
      refine fr_bd (fun r τ hh => hK0.tr (fr_fX6_byteAt _ _ r τ hh) (kp_sub hs (kp_pick [] rfl))) (fun r2 σ1 hK1 => ?_)
      refine fr_if (fun _ => ?_) (fun _ => ?_)
      · skip
        refine fr_lts (hK1.wI (fr_h hs 0 rfl (by omega) (by omega))) (fun σ3 hK2 => ?_)
        exact ih _ hK2
      · skip
        exact hke _ hK1
theorem fr_fX3_step (σ : St) : Fr [(3, 0, 1)] σ (fX3_step σ) := by
  unfold fX3_step
  refine fr_LX3_step_0 (S := [(3, 0, 1)])  (kp_pick [0] rfl) _ (fun σ4 hK1 => ?_) FU _ kp_rf
  refine fr_lts (hK1.wI (fr_m 0 rfl (by omega) (by omega))) (fun σ5 hK2 => ?_)
  refine fr_lts (hK2.wI (fr_m 0 rfl (by omega) (by omega))) (fun σ6 hK3 => ?_)
  refine fr_if (fun _ => ?_) (fun _ => ?_)
  · skip
    refine fr_bd (fun r τ hh => hK3.tr (fr_fX6_byteAt _ _ r τ hh) (kp_pick [] rfl)) (fun r8 σ7 hK4 => ?_)
    refine fr_if (fun _ => ?_) (fun _ => ?_)
    · skip
      refine fr_bd (fun r τ hh => hK4.tr (fr_fX6_byteAt _ _ r τ hh) (kp_pick [] rfl)) (fun r10 σ9 hK5 => ?_)
      refine fr_if (fun _ => ?_) (fun _ => ?_)
      · skip
        refine fr_bd (fun r τ hh => hK5.tr (fr_fX6_byteAt _ _ r τ hh) (kp_pick [] rfl)) (fun r12 σ11 hK6 => ?_)
        refine fr_lts (hK6.wI (fr_m 0 rfl (by omega) (by omega))) (fun σ16 hK7 => ?_)
        refine fr_lts (hK7.wI (fr_m 0 rfl (by omega) (by omega))) (fun σ17 hK8 => ?_)
        exact fr_some hK8
      · skip
        refine fr_bd (fun r τ hh => hK5.tr (fr_fX3_stepOverWhole _ r τ hh) (kp_pick [0] rfl)) (fun _ σ18 hK9 => ?_)
        exact fr_some hK9
    · skip
      refine fr_bd (fun r τ hh => hK4.tr (fr_fX3_stepOverWord _ r τ hh) (kp_pick [0] rfl)) (fun _ σ19 hK10 => ?_)
      exact fr_some hK10
  · skip
    refine fr_lts (hK3.wI (fr_m 0 rfl (by omega) (by omega))) (fun σ20 hK11 => ?_)
    exact fr_some hK11
theorem fr_fX3_fail (p1 : Int32) (σ : St) : Fr [(3, 0, 1)] σ (fX3_fail p1 σ) := by
  unfold fX3_fail
  refine fr_lts (kp_rf.wI (fr_m 0 rfl (by omega) (by omega))) (fun σ1 hK1 => ?_)
  refine fr_lts (hK1.wI (fr_m 0 rfl (by omega) (by omega))) (fun σ2 hK2 => ?_)
  exact fr_some hK2
theorem fr_fX3_whole (p1 : Int32) (p2 : Int32) (σ : St) : Fr [(3, 0, 1)] σ (fX3_whole p1 p2 σ) := by
  unfold fX3_whole
  refine fr_bd (fun r τ hh => kp_rf.tr (fr_fX3_step _ r τ hh) (kp_pick [0] rfl)) (fun _ σ1 hK1 => ?_)
  refine fr_if (fun _ => ?_) (fun _ => ?_)
  · skip
    refine fr_jn (fun j42 => ∀ (σ2 : St), Kp ([(3, 0, 1)]) σ σ2 → Fr ([(3, 0, 1)]) σ (j42 σ2)) ?_ ?_
    · intro σ2 hK2
      exact fr_some hK2
    · intro j42 hj42
      refine fr_jn (fun j34 => ∀ (σ3 : St), Kp ([(3, 0, 1)]) σ σ3 → Fr ([(3, 0, 1)]) σ (j34 σ3)) ?_ ?_
      · intro σ3 hK3
        refine fr_bd (fun r τ hh => hK3.tr (fr_fX3_fail _ _ r τ hh) (kp_pick [0] rfl)) (fun r5 σ4 hK4 => ?_)
        refine fr_if (fun _ => ?_) (fun _ => ?_)
        · skip
          exact fr_some hK4
        · skip
          exact hj42 _ hK4
      · intro j34 hj34
        refine fr_if (fun _ => ?_) (fun _ => ?_)
        · skip
          exact hj34 _ hK1
        · skip
          refine fr_if (fun _ => ?_) (fun _ => ?_)
          · skip
            exact hj42 _ hK1
          · skip
            exact hj34 _ hK1
  · skip
    refine fr_bd (fun r τ hh => hK1.tr (fr_fX3_fail _ _ r τ hh) (kp_pick [0] rfl)) (fun r7 σ6 hK5 => ?_)
    exact fr_rz hK5
theorem fr_fX3_goesOn (σ : St) : Fr [(3, 0, 1)] σ (fX3_goesOn σ) := by
  unfold fX3_goesOn
  refine fr_bd (fun r τ hh => kp_rf.tr (fr_fX3_step _ r τ hh) (kp_pick [0] rfl)) (fun _ σ1 hK1 => ?_)
  refine fr_if (fun _ => ?_) (fun _ => ?_)
  · skip
    refine fr_gd (fun _ => ?_)
    refine fr_if (fun _ => ?_) (fun _ => ?_)
    · skip
      refine fr_bd (fun r τ hh => hK1.tr (fr_fX3_fail _ _ r τ hh) (kp_pick [0] rfl)) (fun r7 σ6 hK2 => ?_)
      exact fr_rz hK2
    · skip
      exact fr_some hK1
  · skip
    refine fr_jn (fun j48 => ∀ (σ2 : St), Kp ([(3, 0, 1)]) σ σ2 → Fr ([(3, 0, 1)]) σ (j48 σ2)) ?_ ?_
    · intro σ2 hK3
      exact fr_some hK3
    · intro j48 hj48
      refine fr_if (fun _ => ?_) (fun _ => ?_)
      · skip
        exact hj48 _ hK1
      · skip
        refine fr_bd (fun r τ hh => hK1.tr (fr_fX3_fail _ _ r τ hh) (kp_pick [0] rfl)) (fun r4 σ3 hK4 => ?_)
        refine fr_if (fun _ => ?_) (fun _ => ?_)
        · skip
          exact fr_some hK4
        · skip
          exact hj48 _ hK4
theorem fr_LX5_start_27 {S : List (Nat × Nat × Nat)} {σ0 : St} (k0 : Nat) (hs : ∀ e ∈ [(38, 6 * k0, 6 * k0 + 6)], e ∈ S) (ke : St → Option (Unit × St)) (hke : ∀ (τ : St), Kp S σ0 τ → Fr S σ0 (ke τ)) : ∀ (n : Nat) (b1 : Int32) (σ : St), Kp S σ0 σ → Fr S σ0 (LX5_start_27 k0 ke n b1 σ) := by
  intro n
  induction n with
  | zero => intros; exact fr_none
  | succ n ih =>
    intro b1 σ hK0
    rw [LX5_start_27]
    refine fr_if (fun _ => ?_) (fun _ => ?_)
    · skip
      exact hke _ hK0
    · skip
      refine fr_gi (fun hv1 => ?_)
      refine fr_bd (fun r τ hh => hK0.tc (fr_fJ7_fill_53178 _ _ _ _ r τ hh) (kp_cov hs (by simp [Cv] <;> omega))) (fun _ σ7 hK2 => ?_)
      refine fr_gi (fun hv3 => ?_)
      refine fr_gi (fun hv4 => ?_)
      refine fr_lts (hK2.wI (fr_h hs 0 rfl (by omega) (by omega))) (fun σ9 hK5 => ?_)
      exact ih _ _ hK5
theorem fr_LX5_start_61 {S : List (Nat × Nat × Nat)} {σ0 : St} (k0 : Nat) (hs : ∀ e ∈ [(40, 16 * k0, 16 * k0 + 16)], e ∈ S) (ke : St → Option (Unit × St)) (hke : ∀ (τ : St), Kp S σ0 τ → Fr S σ0 (ke τ)) : ∀ (n : Nat) (b1 : Int32) (σ : St), Kp S σ0 σ → Fr S σ0 (LX5_start_61 k0 ke n b1 σ) := by
  intro n
  induction n with
  | zero => intros; exact fr_none
  | succ n ih =>
    intro b1 σ hK0
    rw [LX5_start_61]
    refine fr_if (fun _ => ?_) (fun _ => ?_)
    · skip
      exact hke _ hK0
    · skip
      refine fr_gi (fun hv1 => ?_)
      refine fr_bd (fun r τ hh => hK0.tc (fr_fJ7_fill_53178 _ _ _ _ r τ hh) (kp_cov hs (by simp [Cv] <;> omega))) (fun _ σ12 hK2 => ?_)
      exact ih _ _ hK2
theorem fr_fX5_start (k0 : Nat) (σ : St) : Fr [(5, k0, k0 + 1), (38, 6 * k0, 6 * k0 + 6), (40, 16 * k0, 16 * k0 + 16), (41, k0, k0 + 1)] σ (fX5_start k0 σ) := by
  unfold fX5_start
  refine fr_lts (kp_rf.wI (fr_m 0 rfl (by omega) (by omega))) (fun σ1 hK1 => ?_)
  refine fr_lts (hK1.wI (fr_m 0 rfl (by omega) (by omega))) (fun σ2 hK2 => ?_)
  refine fr_lts (hK2.wI (fr_m 0 rfl (by omega) (by omega))) (fun σ3 hK3 => ?_)
  refine fr_lts (hK3.wI (fr_m 0 rfl (by omega) (by omega))) (fun σ4 hK4 => ?_)
  refine fr_lts (hK4.wI (fr_m 0 rfl (by omega) (by omega))) (fun σ5 hK5 => ?_)
  refine fr_LX5_start_27 (S := [(5, k0, k0 + 1), (38, 6 * k0, 6 * k0 + 6), (40, 16 * k0, 16 * k0 + 16), (41, k0, k0 + 1)]) _ (kp_pick [1] rfl) _ (fun σ10 hK6 => ?_) FU _ _ hK5
  refine fr_LX5_start_61 (S := [(5, k0, k0 + 1), (38, 6 * k0, 6 * k0 + 6), (40, 16 * k0, 16 * k0 + 16), (41, k0, k0 + 1)]) _ (kp_pick [2] rfl) _ (fun σ13 hK7 => ?_) FU _ _ hK6
  refine fr_bd (fun r τ hh => hK7.tr (fr_fJ7_fill_53178 _ _ _ _ r τ hh) (kp_pick [3] rfl)) (fun _ σ14 hK8 => ?_)
  exact fr_some hK8
theorem fr_fX4_start (k0 : Nat) (k1 : Nat) (σ : St) : Fr [(4, k0, k0 + 1), (32, k0, k0 + 1), (33, k0, k0 + 1), (34, k0, k0 + 1), (35, k0, k0 + 1), (36, k0, k0 + 1), (5, k0, k0 + 1), (38, 6 * k0, 6 * k0 + 6), (40, 16 * k0, 16 * k0 + 16), (41, k0, k0 + 1)] σ (fX4_start k0 k1 σ) := by
  unfold fX4_start
  refine fr_lts (kp_rf.wR (fr_m 0 rfl (by omega) (by omega))) (fun σ1 hK1 => ?_)
  refine fr_lts (hK1.wI (fr_m 0 rfl (by omega) (by omega))) (fun σ2 hK2 => ?_)
  refine fr_lts (hK2.wI (fr_m 0 rfl (by omega) (by omega))) (fun σ3 hK3 => ?_)
  refine fr_lts (hK3.wI (fr_m 0 rfl (by omega) (by omega))) (fun σ4 hK4 => ?_)
  refine fr_lts (hK4.wI (fr_m 0 rfl (by omega) (by omega))) (fun σ5 hK5 => ?_)
  refine fr_lts (hK5.wI (fr_m 0 rfl (by omega) (by omega))) (fun σ6 hK6 => ?_)
  refine fr_lts (hK6.wI (fr_m 0 rfl (by omega) (by omega))) (fun σ7 hK7 => ?_)
  refine fr_gd (fun _ => ?_)
  refine fr_bd (fun r τ hh => hK7.tr (fr_fX2_sets _ _ r τ hh) (kp_pick [] rfl)) (fun r10 σ9 hK8 => ?_)
  refine fr_lts (hK8.wI (fr_m 0 rfl (by omega) (by omega))) (fun σ11 hK9 => ?_)
  refine fr_bd (fun r τ hh => hK9.tr (fr_fJ7_fill_53178 _ _ _ _ r τ hh) (kp_pick [1] rfl)) (fun _ σ12 hK10 => ?_)
  refine fr_bd (fun r τ hh => hK10.tr (fr_fJ7_fill_53178 _ _ _ _ r τ hh) (kp_pick [2] rfl)) (fun _ σ13 hK11 => ?_)
  refine fr_bd (fun r τ hh => hK11.tr (fr_fJ7_fill_53178 _ _ _ _ r τ hh) (kp_pick [3] rfl)) (fun _ σ14 hK12 => ?_)
  refine fr_bd (fun r τ hh => hK12.tr (fr_fJ7_fill_53178 _ _ _ _ r τ hh) (kp_pick [4] rfl)) (fun _ σ15 hK13 => ?_)
  refine fr_bd (fun r τ hh => hK13.tr (fr_fJ7_fill_53178 _ _ _ _ r τ hh) (kp_pick [5] rfl)) (fun _ σ16 hK14 => ?_)
  refine fr_bd (fun r τ hh => hK14.tr (fr_fX5_start _ _ r τ hh) (kp_pick [6, 7, 8, 9] rfl)) (fun _ σ17 hK15 => ?_)
  exact fr_some hK15
theorem fr_LX5_copy_42 {S : List (Nat × Nat × Nat)} {σ0 : St} (k0 : Nat) (k1 : Nat) (hs : ∀ e ∈ [(38, 6 * k0, 6 * k0 + 6)], e ∈ S) (ke : St → Option (Unit × St)) (hke : ∀ (τ : St), Kp S σ0 τ → Fr S σ0 (ke τ)) : ∀ (n : Nat) (b2 : Int32) (σ : St), Kp S σ0 σ → Fr S σ0 (LX5_copy_42 k0 k1 ke n b2 σ) := by
  intro n
  induction n with
  | zero => intros; exact fr_none
  | succ n ih =>
    intro b2 σ hK0
    rw [LX5_copy_42]
    refine fr_if (fun _ => ?_) (fun _ => ?_)
    · skip
      exact hke _ hK0
    · skip
      refine fr_gi (fun hv1 => ?_)
      refine fr_gi (fun hv2 => ?_)
      refine fr_gd (fun _ => ?_)
      refine fr_lts (hK0.wA (fr_h hs 0 rfl (by omega) (by omega))) (fun σ8 hK3 => ?_)
      exact ih _ _ hK3
theorem fr_LX5_copy_75 {S : List (Nat × Nat × Nat)} {σ0 : St} (k0 : Nat) (k1 : Nat) (hs : ∀ e ∈ [(40, 16 * k0, 16 * k0 + 16)], e ∈ S) (ke : St → Option (Unit × St)) (hke : ∀ (τ : St), Kp S σ0 τ → Fr S σ0 (ke τ)) : ∀ (n : Nat) (b2 : Int32) (σ : St), Kp S σ0 σ → Fr S σ0 (LX5_copy_75 k0 k1 ke n b2 σ) := by
  intro n
  induction n with
  | zero => intros; exact fr_none
  | succ n ih =>
    intro b2 σ hK0
    rw [LX5_copy_75]
    refine fr_if (fun _ => ?_) (fun _ => ?_)
    · skip
      exact hke _ hK0
    · skip
      refine fr_gi (fun hv1 => ?_)
      refine fr_gi (fun hv2 => ?_)
      refine fr_gd (fun _ => ?_)
      refine fr_lts (hK0.wA (fr_h hs 0 rfl (by omega) (by omega))) (fun σ12 hK3 => ?_)
      exact ih _ _ hK3
theorem fr_fX5_copy (k0 : Nat) (k1 : Nat) (σ : St) : Fr [(5, k0, k0 + 1), (38, 6 * k0, 6 * k0 + 6), (40, 16 * k0, 16 * k0 + 16), (41, k0, k0 + 1)] σ (fX5_copy k0 k1 σ) := by
  unfold fX5_copy
  refine fr_lts (kp_rf.wI (fr_m 0 rfl (by omega) (by omega))) (fun σ1 hK1 => ?_)
  refine fr_lts (hK1.wI (fr_m 0 rfl (by omega) (by omega))) (fun σ2 hK2 => ?_)
  refine fr_lts (hK2.wI (fr_m 0 rfl (by omega) (by omega))) (fun σ3 hK3 => ?_)
  refine fr_lts (hK3.wI (fr_m 0 rfl (by omega) (by omega))) (fun σ4 hK4 => ?_)
  refine fr_lts (hK4.wI (fr_m 0 rfl (by omega) (by omega))) (fun σ5 hK5 => ?_)
  refine fr_LX5_copy_42 (S := [(5, k0, k0 + 1), (38, 6 * k0, 6 * k0 + 6), (40, 16 * k0, 16 * k0 + 16), (41, k0, k0 + 1)]) _ _ (kp_pick [1] rfl) _ (fun σ9 hK6 => ?_) FU _ _ hK5
  refine fr_LX5_copy_75 (S := [(5, k0, k0 + 1), (38, 6 * k0, 6 * k0 + 6), (40, 16 * k0, 16 * k0 + 16), (41, k0, k0 + 1)]) _ _ (kp_pick [2] rfl) _ (fun σ13 hK7 => ?_) FU _ _ hK6
  refine fr_gd (fun _ => ?_)
  refine fr_lts (hK7.wA (fr_m 3 rfl (by omega) (by omega))) (fun σ14 hK8 => ?_)
  exact fr_some hK8
theorem fr_fX4_copy (k0 : Nat) (k1 : Nat) (σ : St) : Fr [(4, k0, k0 + 1), (32, k0, k0 + 1), (33, k0, k0 + 1), (34, k0, k0 + 1), (35, k0, k0 + 1), (36, k0, k0 + 1), (5, k0, k0 + 1), (38, 6 * k0, 6 * k0 + 6), (40, 16 * k0, 16 * k0 + 16), (41, k0, k0 + 1)] σ (fX4_copy k0 k1 σ) := by
  unfold fX4_copy
  refine fr_gd (fun _ => ?_)
  refine fr_lts (kp_rf.wR (fr_m 0 rfl (by omega) (by omega))) (fun σ2 hK1 => ?_)
  refine fr_lts (hK1.wI (fr_m 0 rfl (by omega) (by omega))) (fun σ3 hK2 => ?_)
  refine fr_lts (hK2.wI (fr_m 0 rfl (by omega) (by omega))) (fun σ4 hK3 => ?_)
  refine fr_lts (hK3.wI (fr_m 0 rfl (by omega) (by omega))) (fun σ5 hK4 => ?_)
  refine fr_lts (hK4.wI (fr_m 0 rfl (by omega) (by omega))) (fun σ6 hK5 => ?_)
  refine fr_lts (hK5.wI (fr_m 0 rfl (by omega) (by omega))) (fun σ7 hK6 => ?_)
  refine fr_lts (hK6.wI (fr_m 0 rfl (by omega) (by omega))) (fun σ8 hK7 => ?_)
  refine fr_lts (hK7.wI (fr_m 0 rfl (by omega) (by omega))) (fun σ9 hK8 => ?_)
  refine fr_gd (fun _ => ?_)
  refine fr_lts (hK8.wA (fr_m 1 rfl (by omega) (by omega))) (fun σ10 hK9 => ?_)
  refine fr_gd (fun _ => ?_)
  refine fr_lts (hK9.wA (fr_m 2 rfl (by omega) (by omega))) (fun σ11 hK10 => ?_)
  refine fr_gd (fun _ => ?_)
  refine fr_lts (hK10.wA (fr_m 3 rfl (by omega) (by omega))) (fun σ12 hK11 => ?_)
  refine fr_gd (fun _ => ?_)
  refine fr_lts (hK11.wA (fr_m 4 rfl (by omega) (by omega))) (fun σ13 hK12 => ?_)
  refine fr_gd (fun _ => ?_)
  refine fr_lts (hK12.wA (fr_m 5 rfl (by omega) (by omega))) (fun σ14 hK13 => ?_)
  refine fr_bd (fun r τ hh => hK13.tr (fr_fX5_copy _ _ _ r τ hh) (kp_pick [6, 7, 8, 9] rfl)) (fun _ σ15 hK14 => ?_)
  exact fr_some hK14
theorem fr_fX5_account (k0 : Nat) (p1 : Int32) (p2 : Int32) (σ : St) : Fr ([] : List (Nat × Nat × Nat)) σ (fX5_account k0 p1 p2 σ) := by
  unfold fX5_account
  refine fr_if (fun _ => ?_) (fun _ => ?_)
  · skip
    exact fr_some kp_rf
  · skip
    refine fr_gi (fun hv1 => ?_)
    refine fr_gi (fun hv2 => ?_)
    exact fr_some kp_rf
theorem fr_fX5_count (k0 : Nat) (p1 : Int32) (p2 : Int32) (σ : St) : Fr [(38, 6 * k0, 6 * k0 + 6)] σ (fX5_count k0 p1 p2 σ) := by
  unfold fX5_count
  refine fr_if (fun _ => ?_) (fun _ => ?_)
  · skip
    exact fr_some kp_rf
  · skip
    refine fr_gi (fun hv1 => ?_)
    refine fr_gi (fun hv2 => ?_)
    refine fr_gi (fun hv3 => ?_)
    refine fr_lts (kp_rf.wI (fr_m 0 rfl (by omega) (by omega))) (fun σ2 hK4 => ?_)
    exact fr_some hK4
theorem fr_fX4_hear (k0 : Nat) (p1 : Int32) (p2 : Int32) (σ : St) : Fr [(38, 6 * k0, 6 * k0 + 6), (34, k0, k0 + 1), (35, k0, k0 + 1)] σ (fX4_hear k0 p1 p2 σ) := by
  unfold fX4_hear
  refine fr_gd (fun _ => ?_)
  refine fr_bd (fun r τ hh => kp_rf.tr (fr_fX2_holds _ _ _ r τ hh) (kp_pick [] rfl)) (fun r3 σ2 hK1 => ?_)
  refine fr_if (fun _ => ?_) (fun _ => ?_)
  · skip
    exact fr_some hK1
  · skip
    refine fr_gi (fun hv2 => ?_)
    refine fr_jn (fun j30 => ∀ (σ4 : St), Kp ([(38, 6 * k0, 6 * k0 + 6), (34, k0, k0 + 1), (35, k0, k0 + 1)]) σ σ4 → Fr ([(38, 6 * k0, 6 * k0 + 6), (34, k0, k0 + 1), (35, k0, k0 + 1)]) σ (j30 σ4)) ?_ ?_
    · intro σ4 hK3
      refine fr_bd (fun r τ hh => hK3.tr (fr_fX5_count _ _ _ _ r τ hh) (kp_pick [0] rfl)) (fun _ σ5 hK4 => ?_)
      exact fr_some hK4
    · intro j30 hj30
      refine fr_if (fun _ => ?_) (fun _ => ?_)
      · skip
        exact hj30 _ hK1
      · skip
        refine fr_if (fun _ => ?_) (fun _ => ?_)
        · skip
          exact hj30 _ hK1
        · skip
          refine fr_gi (fun hv5 => ?_)
          refine fr_lts (hK1.wI (fr_m 1 rfl (by omega) (by omega))) (fun σ6 hK6 => ?_)
          refine fr_gi (fun hv7 => ?_)
          refine fr_lts (hK6.wI (fr_m 2 rfl (by omega) (by omega))) (fun σ7 hK8 => ?_)
          exact fr_some hK8
theorem fr_LX4_hearTold_2 {S : List (Nat × Nat × Nat)} {σ0 : St} (k0 : Nat) (hs : ∀ e ∈ [(38, 6 * k0, 6 * k0 + 6), (34, k0, k0 + 1), (35, k0, k0 + 1)], e ∈ S) (ke : St → Option (Unit × St)) (hke : ∀ (τ : St), Kp S σ0 τ → Fr S σ0 (ke τ)) : ∀ (n : Nat) (b1 : Int32) (σ : St), Kp S σ0 σ → Fr S σ0 (LX4_hearTold_2 k0 ke n b1 σ) := by
  intro n
  induction n with
  | zero => intros; exact fr_none
  | succ n ih =>
    intro b1 σ hK0
    rw [LX4_hearTold_2]
    refine fr_gd (fun _ => ?_)
    refine fr_if (fun _ => ?_) (fun _ => ?_)
    · skip
      exact hke _ hK0
    · skip
      refine fr_if (fun _ => ?_) (fun _ => ?_)
      · skip
        exact hke _ hK0
      · skip
        refine fr_gd (fun _ => ?_)
        refine fr_gi (fun hv1 => ?_)
        refine fr_jn (fun j58 => ∀ (σ3 : St), Kp S σ0 σ3 → Fr S σ0 (j58 σ3)) ?_ ?_
        · intro σ3 hK2
          exact ih _ _ hK2
        · intro j58 hj58
          refine fr_if (fun _ => ?_) (fun _ => ?_)
          · skip
            refine fr_gd (fun _ => ?_)
            refine fr_gi (fun hv3 => ?_)
            refine fr_gd (fun _ => ?_)
            refine fr_gi (fun hv4 => ?_)
            refine fr_bd (fun r τ hh => hK0.tr (fr_fX4_hear _ _ _ _ r τ hh) (kp_sub hs (kp_pick [0, 1, 2] rfl))) (fun r7 σ6 hK5 => ?_)
            exact hj58 _ hK5
          · skip
            exact hj58 _ hK0
theorem fr_fX4_hearTold (k0 : Nat) (σ : St) : Fr [(38, 6 * k0, 6 * k0 + 6), (34, k0, k0 + 1), (35, k0, k0 + 1)] σ (fX4_hearTold k0 σ) := by
  unfold fX4_hearTold
  refine fr_LX4_hearTold_2 (S := [(38, 6 * k0, 6 * k0 + 6), (34, k0, k0 + 1), (35, k0, k0 + 1)]) _ (kp_pick [0, 1, 2] rfl) _ (fun σ8 hK1 => ?_) FU _ _ kp_rf
  exact fr_some hK1
theorem fr_fX5_putOff (k0 : Nat) (p1 : Int32) (σ : St) : Fr [(5, k0, k0 + 1), (38, 6 * k0, 6 * k0 + 6)] σ (fX5_putOff k0 p1 σ) := by
  unfold fX5_putOff
  refine fr_lts (kp_rf.wI (fr_m 0 rfl (by omega) (by omega))) (fun σ1 hK1 => ?_)
  refine fr_bd (fun r τ hh => hK1.tr (fr_fX5_count _ _ _ _ r τ hh) (kp_pick [1] rfl)) (fun _ σ2 hK2 => ?_)
  exact fr_some hK2
theorem fr_fX4_spendTurn (k0 : Nat) (p1 : Int32) (σ : St) : Fr [(4, k0, k0 + 1), (5, k0, k0 + 1)] σ (fX4_spendTurn k0 p1 σ) := by
  unfold fX4_spendTurn
  refine fr_jn (fun j37 => ∀ (σ1 : St), Kp ([(4, k0, k0 + 1), (5, k0, k0 + 1)]) σ σ1 → Fr ([(4, k0, k0 + 1), (5, k0, k0 + 1)]) σ (j37 σ1)) ?_ ?_
  · intro σ1 hK1
    refine fr_lts (hK1.wI (fr_m 0 rfl (by omega) (by omega))) (fun σ2 hK2 => ?_)
    exact fr_some hK2
  · intro j37 hj37
    refine fr_if (fun _ => ?_) (fun _ => ?_)
    · skip
      refine fr_lts (kp_rf.wI (fr_m 1 rfl (by omega) (by omega))) (fun σ3 hK3 => ?_)
      refine fr_gd (fun _ => ?_)
      refine fr_bd (fun r τ hh => hK3.tr (fr_fX2_sets _ _ r τ hh) (kp_pick [] rfl)) (fun r6 σ5 hK4 => ?_)
      refine fr_lts (hK4.wI (fr_m 0 rfl (by omega) (by omega))) (fun σ7 hK5 => ?_)
      exact hj37 _ hK5
    · skip
      exact hj37 _ kp_rf
theorem fr_fX5_enter (k0 : Nat) (p1 : Int32) (p2 : Int32) (σ : St) : Fr [(40, 16 * k0, 16 * k0 + 16), (5, k0, k0 + 1)] σ (fX5_enter k0 p1 p2 σ) := by
  unfold fX5_enter
  refine fr_bd (fun r τ hh => kp_rf.tr (fr_fJ9_floorMod_7cf53 _ _ _ r τ hh) (kp_pick [] rfl)) (fun r2 σ1 hK1 => ?_)
  refine fr_gi (fun hv2 => ?_)
  refine fr_gi (fun hv3 => ?_)
  refine fr_lts (hK1.wI (fr_m 0 rfl (by omega) (by omega))) (fun σ4 hK4 => ?_)
  refine fr_gi (fun hv5 => ?_)
  refine fr_lts (hK4.wI (fr_m 0 rfl (by omega) (by omega))) (fun σ5 hK6 => ?_)
  refine fr_gi (fun hv7 => ?_)
  refine fr_lts (hK6.wI (fr_m 0 rfl (by omega) (by omega))) (fun σ6 hK8 => ?_)
  refine fr_gi (fun hv9 => ?_)
  refine fr_lts (hK8.wI (fr_m 0 rfl (by omega) (by omega))) (fun σ7 hK10 => ?_)
  refine fr_gi (fun hv11 => ?_)
  refine fr_lts (hK10.wI (fr_m 0 rfl (by omega) (by omega))) (fun σ8 hK12 => ?_)
  refine fr_gi (fun hv13 => ?_)
  refine fr_lts (hK12.wI (fr_m 0 rfl (by omega) (by omega))) (fun σ9 hK14 => ?_)
  refine fr_lts (hK14.wI (fr_m 1 rfl (by omega) (by omega))) (fun σ10 hK15 => ?_)
  refine fr_lts (hK15.wI (fr_m 1 rfl (by omega) (by omega))) (fun σ11 hK16 => ?_)
  refine fr_if (fun _ => ?_) (fun _ => ?_)
  · skip
    refine fr_lts (hK16.wI (fr_m 1 rfl (by omega) (by omega))) (fun σ12 hK17 => ?_)
    exact fr_some hK17
  · skip
    exact fr_some hK16
theorem fr_fX4_finish (k0 : Nat) (σ : St) : Fr [(4, k0, k0 + 1), (1, 0, 1), (12, 0, 6), (10, 0, 1), (22, 0, 6), (14, 0, 6), (16, 0, 6), (18, 0, 6), (20, 0, 6), (0, 0, 1), (40, 16 * k0, 16 * k0 + 16), (5, k0, k0 + 1), (38, 6 * k0, 6 * k0 + 6)] σ (fX4_finish k0 σ) := by
  unfold fX4_finish
  refine fr_ltv (fun x1 => ?_)
  refine fr_lts (kp_rf.wI (fr_m 0 rfl (by omega) (by omega))) (fun σ2 hK1 => ?_)
  refine fr_lts (hK1.wI (fr_m 0 rfl (by omega) (by omega))) (fun σ3 hK2 => ?_)
  refine fr_bd (fun r τ hh => hK2.tr (fr_fX0_decide _ _ _ _ _ r τ hh) (kp_pick [1, 2, 3, 4, 5, 6, 7, 8, 9] rfl)) (fun _ σ4 hK3 => ?_)
  refine fr_ltv (fun x5 => ?_)
  refine fr_gd (fun _ => ?_)
  refine fr_bd (fun r τ hh => hK3.tr (fr_fX2_holds _ _ _ r τ hh) (kp_pick [] rfl)) (fun r8 σ7 hK4 => ?_)
  refine fr_jn (fun j84 => ∀ (σ9 : St), Kp ([(4, k0, k0 + 1), (1, 0, 1), (12, 0, 6), (10, 0, 1), (22, 0, 6), (14, 0, 6), (16, 0, 6), (18, 0, 6), (20, 0, 6), (0, 0, 1), (40, 16 * k0, 16 * k0 + 16), (5, k0, k0 + 1), (38, 6 * k0, 6 * k0 + 6)]) σ σ9 → Fr ([(4, k0, k0 + 1), (1, 0, 1), (12, 0, 6), (10, 0, 1), (22, 0, 6), (14, 0, 6), (16, 0, 6), (18, 0, 6), (20, 0, 6), (0, 0, 1), (40, 16 * k0, 16 * k0 + 16), (5, k0, k0 + 1), (38, 6 * k0, 6 * k0 + 6)]) σ (j84 σ9)) ?_ ?_
  · intro σ9 hK5
    refine fr_lts (hK5.wI (fr_m 0 rfl (by omega) (by omega))) (fun σ10 hK6 => ?_)
    refine fr_bd (fun r τ hh => hK6.tr (fr_fX5_enter _ _ _ _ r τ hh) (kp_pick [10, 11] rfl)) (fun _ σ11 hK7 => ?_)
    exact fr_some hK7
  · intro j84 hj84
    refine fr_if (fun _ => ?_) (fun _ => ?_)
    · skip
      exact hj84 _ hK4
    · skip
      refine fr_jn (fun j70 => ∀ (σ12 : St), Kp ([(4, k0, k0 + 1), (1, 0, 1), (12, 0, 6), (10, 0, 1), (22, 0, 6), (14, 0, 6), (16, 0, 6), (18, 0, 6), (20, 0, 6), (0, 0, 1), (40, 16 * k0, 16 * k0 + 16), (5, k0, k0 + 1), (38, 6 * k0, 6 * k0 + 6)]) σ σ12 → Fr ([(4, k0, k0 + 1), (1, 0, 1), (12, 0, 6), (10, 0, 1), (22, 0, 6), (14, 0, 6), (16, 0, 6), (18, 0, 6), (20, 0, 6), (0, 0, 1), (40, 16 * k0, 16 * k0 + 16), (5, k0, k0 + 1), (38, 6 * k0, 6 * k0 + 6)]) σ (j70 σ12)) ?_ ?_
      · intro σ12 hK8
        refine fr_bd (fun r τ hh => hK8.tr (fr_fX4_spendTurn _ _ _ r τ hh) (kp_pick [0, 11] rfl)) (fun _ σ13 hK9 => ?_)
        refine fr_bd (fun r τ hh => hK9.tr (fr_fX5_count _ _ _ _ r τ hh) (kp_pick [12] rfl)) (fun _ σ14 hK10 => ?_)
        exact hj84 _ hK10
      · intro j70 hj70
        refine fr_if (fun _ => ?_) (fun _ => ?_)
        · skip
          exact hj70 _ hK4
        · skip
          refine fr_if (fun _ => ?_) (fun _ => ?_)
          · skip
            exact hj70 _ hK4
          · skip
            refine fr_bd (fun r τ hh => hK4.tr (fr_fX5_putOff _ _ _ r τ hh) (kp_pick [11, 12] rfl)) (fun _ σ15 hK11 => ?_)
            exact hj70 _ hK11
theorem fr_fX5_enthrone (k0 : Nat) (p1 : Int32) (p2 : Int32) (σ : St) : Fr [(38, 6 * k0, 6 * k0 + 6)] σ (fX5_enthrone k0 p1 p2 σ) := by
  unfold fX5_enthrone
  refine fr_if (fun _ => ?_) (fun _ => ?_)
  · skip
    exact fr_some kp_rf
  · skip
    refine fr_bd (fun r τ hh => kp_rf.tr (fr_fX5_count _ _ _ _ r τ hh) (kp_pick [0] rfl)) (fun _ σ1 hK1 => ?_)
    refine fr_gi (fun hv2 => ?_)
    refine fr_gi (fun hv3 => ?_)
    refine fr_gi (fun hv4 => ?_)
    refine fr_gi (fun hv5 => ?_)
    refine fr_lts (hK1.wI (fr_m 0 rfl (by omega) (by omega))) (fun σ4 hK6 => ?_)
    exact fr_some hK6
theorem fr_fX4_handOver (k0 : Nat) (σ : St) : Fr [(4, k0, k0 + 1), (38, 6 * k0, 6 * k0 + 6), (34, k0, k0 + 1)] σ (fX4_handOver k0 σ) := by
  unfold fX4_handOver
  refine fr_ltv (fun x1 => ?_)
  refine fr_lts (kp_rf.wI (fr_m 0 rfl (by omega) (by omega))) (fun σ2 hK1 => ?_)
  refine fr_gd (fun _ => ?_)
  refine fr_bd (fun r τ hh => hK1.tr (fr_fX2_holds _ _ _ r τ hh) (kp_pick [] rfl)) (fun r5 σ4 hK2 => ?_)
  refine fr_if (fun _ => ?_) (fun _ => ?_)
  · skip
    exact fr_some hK2
  · skip
    refine fr_lts (hK2.wI (fr_m 0 rfl (by omega) (by omega))) (fun σ6 hK3 => ?_)
    refine fr_gi (fun hv4 => ?_)
    refine fr_lts (hK3.wI (fr_m 0 rfl (by omega) (by omega))) (fun σ7 hK5 => ?_)
    refine fr_gi (fun hv6 => ?_)
    refine fr_bd (fun r τ hh => hK5.tr (fr_fX5_enthrone _ _ _ _ r τ hh) (kp_pick [1] rfl)) (fun _ σ8 hK7 => ?_)
    refine fr_gi (fun hv8 => ?_)
    refine fr_lts (hK7.wI (fr_m 2 rfl (by omega) (by omega))) (fun σ9 hK9 => ?_)
    exact fr_some hK9
theorem fr_LX4_askers_4 {S : List (Nat × Nat × Nat)} {σ0 : St} (k0 : Nat) (hs : ∀ e ∈ ([] : List (Nat × Nat × Nat)), e ∈ S) (ke : Int32 → St → Option (Int32 × St)) (hke : ∀ (e0 : Int32) (τ : St), Kp S σ0 τ → Fr S σ0 (ke e0 τ)) : ∀ (n : Nat) (b1 : Int32) (b2 : Int32) (σ : St), Kp S σ0 σ → Fr S σ0 (LX4_askers_4 k0 ke n b1 b2 σ) := by
  intro n
  induction n with
  | zero => intros; exact fr_none
  | succ n ih =>
    intro b1 b2 σ hK0
    rw [LX4_askers_4]
    refine fr_gd (fun _ => ?_)
    refine fr_if (fun _ => ?_) (fun _ => ?_)
    · skip
      exact hke _ _ hK0
    · skip
      refine fr_gi (fun hv1 => ?_)
      refine fr_jn (fun j30 => ∀ (x3 : Int32) (σ2 : St), Kp S σ0 σ2 → Fr S σ0 (j30 x3 σ2)) ?_ ?_
      · intro x3 σ2 hK2
        exact ih _ _ _ hK2
      · intro j30 hj30
        refine fr_if (fun _ => ?_) (fun _ => ?_)
        · skip
          exact hj30 _ _ hK0
        · skip
          refine fr_ltv (fun x4 => ?_)
          exact hj30 _ _ hK0
theorem fr_fX4_askers (k0 : Nat) (σ : St) : Fr ([] : List (Nat × Nat × Nat)) σ (fX4_askers k0 σ) := by
  unfold fX4_askers
  refine fr_LX4_askers_4 (S := []) _ (kp_pick [] rfl) _ (fun x5 σ6 hK1 => ?_) FU _ _ _ kp_rf
  exact fr_some hK1
theorem fr_LX4_waitersOf_18 {S : List (Nat × Nat × Nat)} {σ0 : St} (k0 : Nat) (a1 : Int32) (a3 : Int32) (hs : ∀ e ∈ ([] : List (Nat × Nat × Nat)), e ∈ S) (ke : Int32 → St → Option (Int32 × St)) (hke : ∀ (e0 : Int32) (τ : St), Kp S σ0 τ → Fr S σ0 (ke e0 τ)) : ∀ (n : Nat) (b2 : Int32) (b4 : Int32) (σ : St), Kp S σ0 σ → Fr S σ0 (LX4_waitersOf_18 k0 a1 a3 ke n b2 b4 σ) := by
  intro n
  induction n with
  | zero => intros; exact fr_none
  | succ n ih =>
    intro b2 b4 σ hK0
    rw [LX4_waitersOf_18]
    refine fr_gd (fun _ => ?_)
    refine fr_if (fun _ => ?_) (fun _ => ?_)
    · skip
      exact hke _ _ hK0
    · skip
      refine fr_gi (fun hv1 => ?_)
      refine fr_ltv (fun x3 => ?_)
      refine fr_jn (fun j66 => ∀ (x5 : Int32) (σ4 : St), Kp S σ0 σ4 → Fr S σ0 (j66 x5 σ4)) ?_ ?_
      · intro x5 σ4 hK2
        exact ih _ _ _ hK2
      · intro j66 hj66
        refine fr_jn (fun j59 => ∀ (σ6 : St), Kp S σ0 σ6 → Fr S σ0 (j59 σ6)) ?_ ?_
        · intro σ6 hK3
          refine fr_ltv (fun x7 => ?_)
          exact hj66 _ _ hK3
        · intro j59 hj59
          refine fr_if (fun _ => ?_) (fun _ => ?_)
          · skip
            exact hj59 _ hK0
          · skip
            refine fr_if (fun _ => ?_) (fun _ => ?_)
            · skip
              exact hj66 _ _ hK0
            · skip
              refine fr_if (fun _ => ?_) (fun _ => ?_)
              · skip
                exact hj66 _ _ hK0
              · skip
                exact hj59 _ hK0
theorem fr_LX4_waitersOf_4 {S : List (Nat × Nat × Nat)} {σ0 : St} (k0 : Nat) (a1 : Int32) (hs : ∀ e ∈ ([] : List (Nat × Nat × Nat)), e ∈ S) (ke : Int32 → St → Option (Int32 × St)) (hke : ∀ (e0 : Int32) (τ : St), Kp S σ0 τ → Fr S σ0 (ke e0 τ)) : ∀ (n : Nat) (b2 : Int32) (b3 : Int32) (σ : St), Kp S σ0 σ → Fr S σ0 (LX4_waitersOf_4 k0 a1 ke n b2 b3 σ) := by
  intro n
  induction n with
  | zero => intros; exact fr_none
  | succ n ih =>
    intro b2 b3 σ hK0
    rw [LX4_waitersOf_4]
    refine fr_gd (fun _ => ?_)
    refine fr_if (fun _ => ?_) (fun _ => ?_)
    · skip
      exact hke _ _ hK0
    · skip
      refine fr_LX4_waitersOf_18 (S := S) _ _ _ (kp_sub hs (kp_pick [] rfl)) _ (fun x8 σ9 hK1 => ?_) FU _ _ _ hK0
      exact ih _ _ _ hK1
theorem fr_fX4_waitersOf (k0 : Nat) (p1 : Int32) (σ : St) : Fr ([] : List (Nat × Nat × Nat)) σ (fX4_waitersOf k0 p1 σ) := by
  unfold fX4_waitersOf
  refine fr_LX4_waitersOf_4 (S := []) _ _ (kp_pick [] rfl) _ (fun x10 σ11 hK1 => ?_) FU _ _ _ kp_rf
  exact fr_some hK1
theorem fr_LX4_rankOfDay_15 {S : List (Nat × Nat × Nat)} {σ0 : St} (k0 : Nat) (a3 : Int32) (hs : ∀ e ∈ ([] : List (Nat × Nat × Nat)), e ∈ S) (ke : Int32 → St → Option (Int32 × St)) (hke : ∀ (e0 : Int32) (τ : St), Kp S σ0 τ → Fr S σ0 (ke e0 τ)) : ∀ (n : Nat) (b2 : Int32) (b4 : Int32) (σ : St), Kp S σ0 σ → Fr S σ0 (LX4_rankOfDay_15 k0 a3 ke n b2 b4 σ) := by
  intro n
  induction n with
  | zero => intros; exact fr_none
  | succ n ih =>
    intro b2 b4 σ hK0
    rw [LX4_rankOfDay_15]
    refine fr_gd (fun _ => ?_)
    refine fr_if (fun _ => ?_) (fun _ => ?_)
    · skip
      exact hke _ _ hK0
    · skip
      refine fr_jn (fun j51 => ∀ (x6 : Int32) (σ5 : St), Kp S σ0 σ5 → Fr S σ0 (j51 x6 σ5)) ?_ ?_
      · intro x6 σ5 hK1
        exact ih _ _ _ hK1
      · intro j51 hj51
        refine fr_if (fun _ => ?_) (fun _ => ?_)
        · skip
          exact hj51 _ _ hK0
        · skip
          refine fr_gd (fun _ => ?_)
          refine fr_gi (fun hv2 => ?_)
          refine fr_ltv (fun x8 => ?_)
          exact hj51 _ _ hK0
theorem fr_fX4_rankOfDay (k0 : Nat) (p1 : Int32) (σ : St) : Fr ([] : List (Nat × Nat × Nat)) σ (fX4_rankOfDay k0 p1 σ) := by
  unfold fX4_rankOfDay
  refine fr_bd (fun r τ hh => kp_rf.tr (fr_fX4_waitersOf _ _ _ r τ hh) (kp_pick [] rfl)) (fun r2 σ1 hK1 => ?_)
  refine fr_ltv (fun x3 => ?_)
  refine fr_LX4_rankOfDay_15 (S := []) _ _ (kp_pick [] rfl) _ (fun x9 σ10 hK2 => ?_) FU _ _ _ hK1
  exact fr_some hK2
theorem fr_LX4_isContested_33 {S : List (Nat × Nat × Nat)} {σ0 : St} (k0 : Nat) (a1 : Int32) (hs : ∀ e ∈ ([] : List (Nat × Nat × Nat)), e ∈ S) (ke : St → Option (Int32 × St)) (hke : ∀ (τ : St), Kp S σ0 τ → Fr S σ0 (ke τ)) : ∀ (n : Nat) (b2 : Int32) (σ : St), Kp S σ0 σ → Fr S σ0 (LX4_isContested_33 k0 a1 ke n b2 σ) := by
  intro n
  induction n with
  | zero => intros; exact fr_none
  | succ n ih =>
    intro b2 σ hK0
    rw [LX4_isContested_33]
    refine fr_gd (fun _ => ?_)
    refine fr_if (fun _ => ?_) (fun _ => ?_)
    · skip
      exact hke _ hK0
    · skip
      refine fr_gi (fun hv1 => ?_)
      refine fr_jn (fun j64 => ∀ (σ4 : St), Kp S σ0 σ4 → Fr S σ0 (j64 σ4)) ?_ ?_
      · intro σ4 hK2
        exact ih _ _ hK2
      · intro j64 hj64
        refine fr_if (fun _ => ?_) (fun _ => ?_)
        · skip
          exact hj64 _ hK0
        · skip
          refine fr_bd (fun r τ hh => hK0.tr (fr_fX4_rankOfDay _ _ _ r τ hh) (kp_sub hs (kp_pick [] rfl))) (fun r6 σ5 hK3 => ?_)
          refine fr_if (fun _ => ?_) (fun _ => ?_)
          · skip
            exact hj64 _ hK3
          · skip
            exact fr_some hK3
theorem fr_fX4_isContested (k0 : Nat) (σ : St) : Fr ([] : List (Nat × Nat × Nat)) σ (fX4_isContested k0 σ) := by
  unfold fX4_isContested
  refine fr_if (fun _ => ?_) (fun _ => ?_)
  · skip
    refine fr_bd (fun r τ hh => kp_rf.tr (fr_fX4_askers _ _ r τ hh) (kp_pick [] rfl)) (fun r9 σ8 hK1 => ?_)
    exact fr_rz hK1
  · skip
    refine fr_bd (fun r τ hh => kp_rf.tr (fr_fX4_rankOfDay _ _ _ r τ hh) (kp_pick [] rfl)) (fun r2 σ1 hK2 => ?_)
    refine fr_LX4_isContested_33 (S := []) _ _ (kp_pick [] rfl) _ (fun σ7 hK3 => ?_) FU _ _ hK2
    exact fr_some hK3
theorem fr_LX4_rankWords_2 {S : List (Nat × Nat × Nat)} {σ0 : St} (k0 : Nat) (hs : ∀ e ∈ [(31, k0, k0 + 1)], e ∈ S) (ke : St → Option (Unit × St)) (hke : ∀ (τ : St), Kp S σ0 τ → Fr S σ0 (ke τ)) : ∀ (n : Nat) (b1 : Int32) (σ : St), Kp S σ0 σ → Fr S σ0 (LX4_rankWords_2 k0 ke n b1 σ) := by
  intro n
  induction n with
  | zero => intros; exact fr_none
  | succ n ih =>
    intro b1 σ hK0
    rw [LX4_rankWords_2]
    refine fr_gd (fun _ => ?_)
    refine fr_if (fun _ => ?_) (fun _ => ?_)
    · skip
      exact hke _ hK0
    · skip
      refine fr_if (fun _ => ?_) (fun _ => ?_)
      · skip
        exact hke _ hK0
      · skip
        refine fr_bd (fun r τ hh => hK0.tr (fr_fX4_rankOfDay _ _ _ r τ hh) (kp_sub hs (kp_pick [] rfl))) (fun r3 σ2 hK1 => ?_)
        refine fr_bd (fun r τ hh => hK1.tr (fr_fX7_odd _ _ r τ hh) (kp_sub hs (kp_pick [] rfl))) (fun r5 σ4 hK2 => ?_)
        refine fr_gi (fun hv3 => ?_)
        refine fr_lts (hK2.wI (fr_h hs 0 rfl (by omega) (by omega))) (fun σ6 hK4 => ?_)
        exact ih _ _ hK4
theorem fr_fX4_rankWords (k0 : Nat) (σ : St) : Fr [(31, k0, k0 + 1)] σ (fX4_rankWords k0 σ) := by
  unfold fX4_rankWords
  refine fr_LX4_rankWords_2 (S := [(31, k0, k0 + 1)]) _ (kp_pick [0] rfl) _ (fun σ7 hK1 => ?_) FU _ _ kp_rf
  exact fr_some hK1
theorem fr_fX4_begin (k0 : Nat) (σ : St) : Fr [(4, k0, k0 + 1), (31, k0, k0 + 1), (32, k0, k0 + 1)] σ (fX4_begin k0 σ) := by
  unfold fX4_begin
  refine fr_bd (fun r τ hh => kp_rf.tr (fr_fX4_askers _ _ r τ hh) (kp_pick [] rfl)) (fun r2 σ1 hK1 => ?_)
  refine fr_lts (hK1.wI (fr_m 0 rfl (by omega) (by omega))) (fun σ3 hK2 => ?_)
  refine fr_gd (fun _ => ?_)
  refine fr_lts (hK2.wI (fr_m 0 rfl (by omega) (by omega))) (fun σ5 hK3 => ?_)
  refine fr_bd (fun r τ hh => hK3.tr (fr_fX4_rankWords _ _ r τ hh) (kp_pick [1] rfl)) (fun _ σ6 hK4 => ?_)
  refine fr_gd (fun _ => ?_)
  refine fr_lts (hK4.wA (fr_m 2 rfl (by omega) (by omega))) (fun σ7 hK5 => ?_)
  exact fr_some hK5
theorem fr_fX5_endTick (k0 : Nat) (p1 : Int32) (p2 : Int32) (σ : St) : Fr [(41, k0, k0 + 1), (38, 6 * k0, 6 * k0 + 6)] σ (fX5_endTick k0 p1 p2 σ) := by
  unfold fX5_endTick
  refine fr_bd (fun r τ hh => kp_rf.tr (fr_fJ9_floorMod_7cf53 _ _ _ r τ hh) (kp_pick [] rfl)) (fun r2 σ1 hK1 => ?_)
  refine fr_gi (fun hv2 => ?_)
  refine fr_lts (hK1.wI (fr_m 0 rfl (by omega) (by omega))) (fun σ3 hK3 => ?_)
  refine fr_bd (fun r τ hh => hK3.tr (fr_fX5_count _ _ _ _ r τ hh) (kp_pick [1] rfl)) (fun _ σ4 hK4 => ?_)
  exact fr_some hK4
theorem fr_fX4_tick (k0 : Nat) (σ : St) : Fr [(4, k0, k0 + 1), (38, 6 * k0, 6 * k0 + 6), (34, k0, k0 + 1), (35, k0, k0 + 1), (41, k0, k0 + 1), (31, k0, k0 + 1), (32, k0, k0 + 1), (1, 0, 1), (12, 0, 6), (10, 0, 1), (22, 0, 6), (14, 0, 6), (16, 0, 6), (18, 0, 6), (20, 0, 6), (0, 0, 1), (40, 16 * k0, 16 * k0 + 16), (5, k0, k0 + 1)] σ (fX4_tick k0 σ) := by
  unfold fX4_tick
  refine fr_lts (kp_rf.wI (fr_m 0 rfl (by omega) (by omega))) (fun σ1 hK1 => ?_)
  refine fr_bd (fun r τ hh => hK1.tr (fr_fX4_hearTold _ _ r τ hh) (kp_pick [1, 2, 3] rfl)) (fun _ σ2 hK2 => ?_)
  refine fr_jn (fun j37 => ∀ (σ3 : St), Kp ([(4, k0, k0 + 1), (38, 6 * k0, 6 * k0 + 6), (34, k0, k0 + 1), (35, k0, k0 + 1), (41, k0, k0 + 1), (31, k0, k0 + 1), (32, k0, k0 + 1), (1, 0, 1), (12, 0, 6), (10, 0, 1), (22, 0, 6), (14, 0, 6), (16, 0, 6), (18, 0, 6), (20, 0, 6), (0, 0, 1), (40, 16 * k0, 16 * k0 + 16), (5, k0, k0 + 1)]) σ σ3 → Fr ([(4, k0, k0 + 1), (38, 6 * k0, 6 * k0 + 6), (34, k0, k0 + 1), (35, k0, k0 + 1), (41, k0, k0 + 1), (31, k0, k0 + 1), (32, k0, k0 + 1), (1, 0, 1), (12, 0, 6), (10, 0, 1), (22, 0, 6), (14, 0, 6), (16, 0, 6), (18, 0, 6), (20, 0, 6), (0, 0, 1), (40, 16 * k0, 16 * k0 + 16), (5, k0, k0 + 1)]) σ (j37 σ3)) ?_ ?_
  · intro σ3 hK3
    refine fr_jn (fun j53 => ∀ (σ4 : St), Kp ([(4, k0, k0 + 1), (38, 6 * k0, 6 * k0 + 6), (34, k0, k0 + 1), (35, k0, k0 + 1), (41, k0, k0 + 1), (31, k0, k0 + 1), (32, k0, k0 + 1), (1, 0, 1), (12, 0, 6), (10, 0, 1), (22, 0, 6), (14, 0, 6), (16, 0, 6), (18, 0, 6), (20, 0, 6), (0, 0, 1), (40, 16 * k0, 16 * k0 + 16), (5, k0, k0 + 1)]) σ σ4 → Fr ([(4, k0, k0 + 1), (38, 6 * k0, 6 * k0 + 6), (34, k0, k0 + 1), (35, k0, k0 + 1), (41, k0, k0 + 1), (31, k0, k0 + 1), (32, k0, k0 + 1), (1, 0, 1), (12, 0, 6), (10, 0, 1), (22, 0, 6), (14, 0, 6), (16, 0, 6), (18, 0, 6), (20, 0, 6), (0, 0, 1), (40, 16 * k0, 16 * k0 + 16), (5, k0, k0 + 1)]) σ (j53 σ4)) ?_ ?_
    · intro σ4 hK4
      refine fr_jn (fun j84 => ∀ (σ5 : St), Kp ([(4, k0, k0 + 1), (38, 6 * k0, 6 * k0 + 6), (34, k0, k0 + 1), (35, k0, k0 + 1), (41, k0, k0 + 1), (31, k0, k0 + 1), (32, k0, k0 + 1), (1, 0, 1), (12, 0, 6), (10, 0, 1), (22, 0, 6), (14, 0, 6), (16, 0, 6), (18, 0, 6), (20, 0, 6), (0, 0, 1), (40, 16 * k0, 16 * k0 + 16), (5, k0, k0 + 1)]) σ σ5 → Fr ([(4, k0, k0 + 1), (38, 6 * k0, 6 * k0 + 6), (34, k0, k0 + 1), (35, k0, k0 + 1), (41, k0, k0 + 1), (31, k0, k0 + 1), (32, k0, k0 + 1), (1, 0, 1), (12, 0, 6), (10, 0, 1), (22, 0, 6), (14, 0, 6), (16, 0, 6), (18, 0, 6), (20, 0, 6), (0, 0, 1), (40, 16 * k0, 16 * k0 + 16), (5, k0, k0 + 1)]) σ (j84 σ5)) ?_ ?_
      · intro σ5 hK5
        refine fr_jn (fun j104 => ∀ (σ6 : St), Kp ([(4, k0, k0 + 1), (38, 6 * k0, 6 * k0 + 6), (34, k0, k0 + 1), (35, k0, k0 + 1), (41, k0, k0 + 1), (31, k0, k0 + 1), (32, k0, k0 + 1), (1, 0, 1), (12, 0, 6), (10, 0, 1), (22, 0, 6), (14, 0, 6), (16, 0, 6), (18, 0, 6), (20, 0, 6), (0, 0, 1), (40, 16 * k0, 16 * k0 + 16), (5, k0, k0 + 1)]) σ σ6 → Fr ([(4, k0, k0 + 1), (38, 6 * k0, 6 * k0 + 6), (34, k0, k0 + 1), (35, k0, k0 + 1), (41, k0, k0 + 1), (31, k0, k0 + 1), (32, k0, k0 + 1), (1, 0, 1), (12, 0, 6), (10, 0, 1), (22, 0, 6), (14, 0, 6), (16, 0, 6), (18, 0, 6), (20, 0, 6), (0, 0, 1), (40, 16 * k0, 16 * k0 + 16), (5, k0, k0 + 1)]) σ (j104 σ6)) ?_ ?_
        · intro σ6 hK6
          refine fr_bd (fun r τ hh => hK6.tr (fr_fX5_endTick _ _ _ _ r τ hh) (kp_pick [4, 1] rfl)) (fun _ σ7 hK7 => ?_)
          exact fr_some hK7
        · intro j104 hj104
          refine fr_if (fun _ => ?_) (fun _ => ?_)
          · skip
            refine fr_bd (fun r τ hh => hK5.tr (fr_fX4_isContested _ _ r τ hh) (kp_pick [] rfl)) (fun r9 σ8 hK8 => ?_)
            refine fr_if (fun _ => ?_) (fun _ => ?_)
            · skip
              exact hj104 _ hK8
            · skip
              refine fr_bd (fun r τ hh => hK8.tr (fr_fX4_begin _ _ r τ hh) (kp_pick [0, 5, 6] rfl)) (fun _ σ10 hK9 => ?_)
              exact hj104 _ hK9
          · skip
            exact hj104 _ hK5
      · intro j84 hj84
        refine fr_if (fun _ => ?_) (fun _ => ?_)
        · skip
          refine fr_if (fun _ => ?_) (fun _ => ?_)
          · skip
            refine fr_if (fun _ => ?_) (fun _ => ?_)
            · skip
              exact hj84 _ hK4
            · skip
              refine fr_bd (fun r τ hh => hK4.tr (fr_fX4_handOver _ _ r τ hh) (kp_pick [0, 1, 2] rfl)) (fun _ σ11 hK10 => ?_)
              exact hj84 _ hK10
          · skip
            exact hj84 _ hK4
        · skip
          exact hj84 _ hK4
    · intro j53 hj53
      refine fr_if (fun _ => ?_) (fun _ => ?_)
      · skip
        refine fr_bd (fun r τ hh => hK3.tr (fr_fX4_finish _ _ r τ hh) (kp_pick [0, 7, 8, 9, 10, 11, 12, 13, 14, 15, 16, 17, 1] rfl)) (fun _ σ12 hK11 => ?_)
        exact hj53 _ hK11
      · skip
        exact hj53 _ hK3
  · intro j37 hj37
    refine fr_if (fun _ => ?_) (fun _ => ?_)
    · skip
      refine fr_lts (hK2.wI (fr_m 0 rfl (by omega) (by omega))) (fun σ13 hK12 => ?_)
      refine fr_lts (hK12.wI (fr_m 0 rfl (by omega) (by omega))) (fun σ14 hK13 => ?_)
      exact hj37 _ hK13
    · skip
      exact hj37 _ hK2
theorem fr_LX4_ticksToMaster_13 {S : List (Nat × Nat × Nat)} {σ0 : St} (k0 : Nat) (a1 : Int32) (a3 : Int32) (hs : ∀ e ∈ [(4, k0, k0 + 1), (38, 6 * k0, 6 * k0 + 6), (34, k0, k0 + 1), (35, k0, k0 + 1), (41, k0, k0 + 1), (31, k0, k0 + 1), (32, k0, k0 + 1), (1, 0, 1), (12, 0, 6), (10, 0, 1), (22, 0, 6), (14, 0, 6), (16, 0, 6), (18, 0, 6), (20, 0, 6), (0, 0, 1), (40, 16 * k0, 16 * k0 + 16), (5, k0, k0 + 1)], e ∈ S) (ke : St → Option (Int32 × St)) (hke : ∀ (τ : St), Kp S σ0 τ → Fr S σ0 (ke τ)) : ∀ (n : Nat) (b4 : Int32) (σ : St), Kp S σ0 σ → Fr S σ0 (LX4_ticksToMaster_13 k0 a1 a3 ke n b4 σ) := by
  intro n
  induction n with
  | zero => intros; exact fr_none
  | succ n ih =>
    intro b4 σ hK0
    rw [LX4_ticksToMaster_13]
    refine fr_if (fun _ => ?_) (fun _ => ?_)
    · skip
      exact hke _ hK0
    · skip
      refine fr_bd (fun r τ hh => hK0.tr (fr_fX4_tick _ _ r τ hh) (kp_sub hs (kp_pick [0, 1, 2, 3, 4, 5, 6, 7, 8, 9, 10, 11, 12, 13, 14, 15, 16, 17] rfl))) (fun _ σ3 hK1 => ?_)
      refine fr_bd (fun r τ hh => hK1.tr (fr_fX5_account _ _ _ _ r τ hh) (kp_sub hs (kp_pick [] rfl))) (fun r5 σ4 hK2 => ?_)
      refine fr_if (fun _ => ?_) (fun _ => ?_)
      · skip
        exact ih _ _ hK2
      · skip
        exact fr_some hK2
theorem fr_fX4_ticksToMaster (k0 : Nat) (p1 : Int32) (σ : St) : Fr [(4, k0, k0 + 1), (38, 6 * k0, 6 * k0 + 6), (34, k0, k0 + 1), (35, k0, k0 + 1), (41, k0, k0 + 1), (31, k0, k0 + 1), (32, k0, k0 + 1), (1, 0, 1), (12, 0, 6), (10, 0, 1), (22, 0, 6), (14, 0, 6), (16, 0, 6), (18, 0, 6), (20, 0, 6), (0, 0, 1), (40, 16 * k0, 16 * k0 + 16), (5, k0, k0 + 1)] σ (fX4_ticksToMaster k0 p1 σ) := by
  unfold fX4_ticksToMaster
  refine fr_bd (fun r τ hh => kp_rf.tr (fr_fX5_account _ _ _ _ r τ hh) (kp_pick [] rfl)) (fun r2 σ1 hK1 => ?_)
  refine fr_LX4_ticksToMaster_13 (S := [(4, k0, k0 + 1), (38, 6 * k0, 6 * k0 + 6), (34, k0, k0 + 1), (35, k0, k0 + 1), (41, k0, k0 + 1), (31, k0, k0 + 1), (32, k0, k0 + 1), (1, 0, 1), (12, 0, 6), (10, 0, 1), (22, 0, 6), (14, 0, 6), (16, 0, 6), (18, 0, 6), (20, 0, 6), (0, 0, 1), (40, 16 * k0, 16 * k0 + 16), (5, k0, k0 + 1)]) _ _ _ (kp_pick [0, 1, 2, 3, 4, 5, 6, 7, 8, 9, 10, 11, 12, 13, 14, 15, 16, 17] rfl) _ (fun σ6 hK2 => ?_) FU _ _ hK1
  exact fr_some hK2
theorem fr_fX4_letWait (k0 : Nat) (p1 : Int32) (p2 : Int32) (σ : St) : Fr [(36, k0, k0 + 1)] σ (fX4_letWait k0 p1 p2 σ) := by
  unfold fX4_letWait
  refine fr_gd (fun _ => ?_)
  refine fr_bd (fun r τ hh => kp_rf.tr (fr_fX2_holds _ _ _ r τ hh) (kp_pick [] rfl)) (fun r3 σ2 hK1 => ?_)
  refine fr_if (fun _ => ?_) (fun _ => ?_)
  · skip
    exact fr_some hK1
  · skip
    refine fr_gi (fun hv2 => ?_)
    refine fr_ltv (fun x4 => ?_)
    refine fr_gi (fun hv3 => ?_)
    refine fr_lts (hK1.wI (fr_m 0 rfl (by omega) (by omega))) (fun σ5 hK4 => ?_)
    exact fr_some hK4
theorem fr_fX4_boardState (k0 : Nat) (p1 : Int32) (p2 : Int32) (σ : St) : Fr ([] : List (Nat × Nat × Nat)) σ (fX4_boardState k0 p1 p2 σ) := by
  unfold fX4_boardState
  refine fr_gd (fun _ => ?_)
  refine fr_bd (fun r τ hh => kp_rf.tr (fr_fX2_holds _ _ _ r τ hh) (kp_pick [] rfl)) (fun r3 σ2 hK1 => ?_)
  refine fr_if (fun _ => ?_) (fun _ => ?_)
  · skip
    exact fr_some hK1
  · skip
    refine fr_if (fun _ => ?_) (fun _ => ?_)
    · skip
      refine fr_bd (fun r τ hh => hK1.tr (fr_fX4_rankOfDay _ _ _ r τ hh) (kp_pick [] rfl)) (fun r6 σ5 hK2 => ?_)
      exact fr_some hK2
    · skip
      refine fr_if (fun _ => ?_) (fun _ => ?_)
      · skip
        exact fr_some hK1
      · skip
        refine fr_if (fun _ => ?_) (fun _ => ?_)
        · skip
          refine fr_gi (fun hv3 => ?_)
          exact fr_some hK1
        · skip
          refine fr_gi (fun hv4 => ?_)
          exact fr_some hK1
theorem fr_LX4_longestAsking_5 {S : List (Nat × Nat × Nat)} {σ0 : St} (k0 : Nat) (hs : ∀ e ∈ ([] : List (Nat × Nat × Nat)), e ∈ S) (ke : Int32 → St → Option (Int32 × St)) (hke : ∀ (e0 : Int32) (τ : St), Kp S σ0 τ → Fr S σ0 (ke e0 τ)) : ∀ (n : Nat) (b1 : Int32) (b2 : Int32) (σ : St), Kp S σ0 σ → Fr S σ0 (LX4_longestAsking_5 k0 ke n b1 b2 σ) := by
  intro n
  induction n with
  | zero => intros; exact fr_none
  | succ n ih =>
    intro b1 b2 σ hK0
    rw [LX4_longestAsking_5]
    refine fr_if (fun _ => ?_) (fun _ => ?_)
    · skip
      exact hke _ _ hK0
    · skip
      refine fr_gd (fun _ => ?_)
      refine fr_bd (fun r τ hh => hK0.tr (fr_fX2_boardOfSlot _ _ _ r τ hh) (kp_sub hs (kp_pick [] rfl))) (fun r3 σ2 hK1 => ?_)
      refine fr_gd (fun _ => ?_)
      refine fr_bd (fun r τ hh => hK1.tr (fr_fX2_holds _ _ _ r τ hh) (kp_sub hs (kp_pick [] rfl))) (fun r6 σ5 hK2 => ?_)
      refine fr_jn (fun j61 => ∀ (x8 : Int32) (σ7 : St), Kp S σ0 σ7 → Fr S σ0 (j61 x8 σ7)) ?_ ?_
      · intro x8 σ7 hK3
        exact ih _ _ _ hK3
      · intro j61 hj61
        refine fr_if (fun _ => ?_) (fun _ => ?_)
        · skip
          exact hj61 _ _ hK2
        · skip
          refine fr_gi (fun hv4 => ?_)
          refine fr_if (fun _ => ?_) (fun _ => ?_)
          · skip
            exact hj61 _ _ hK2
          · skip
            refine fr_jn (fun j59 => ∀ (σ9 : St), Kp S σ0 σ9 → Fr S σ0 (j59 σ9)) ?_ ?_
            · intro σ9 hK5
              exact hj61 _ _ hK5
            · intro j59 hj59
              refine fr_if (fun _ => ?_) (fun _ => ?_)
              · skip
                exact hj59 _ hK2
              · skip
                refine fr_gi (fun hv6 => ?_)
                refine fr_gi (fun hv7 => ?_)
                refine fr_if (fun _ => ?_) (fun _ => ?_)
                · skip
                  exact hj61 _ _ hK2
                · skip
                  exact hj59 _ hK2
theorem fr_fX4_longestAsking (k0 : Nat) (σ : St) : Fr ([] : List (Nat × Nat × Nat)) σ (fX4_longestAsking k0 σ) := by
  unfold fX4_longestAsking
  refine fr_LX4_longestAsking_5 (S := []) _ (kp_pick [] rfl) _ (fun x10 σ11 hK1 => ?_) FU _ _ _ kp_rf
  exact fr_some hK1
theorem fr_fX4_hurtLines (k0 : Nat) (σ : St) : Fr ([] : List (Nat × Nat × Nat)) σ (fX4_hurtLines k0 σ) := by
  unfold fX4_hurtLines
  refine fr_bd (fun r τ hh => kp_rf.tr (fr_fX4_linesThat _ _ _ r τ hh) (kp_pick [] rfl)) (fun r2 σ1 hK1 => ?_)
  refine fr_bd (fun r τ hh => hK1.tr (fr_fJ6_bitCount_0f7a4 _ _ r τ hh) (kp_pick [] rfl)) (fun r4 σ3 hK2 => ?_)
  exact fr_some hK2
theorem fr_LX4_advance_2 {S : List (Nat × Nat × Nat)} {σ0 : St} (k0 : Nat) (a1 : Int32) (hs : ∀ e ∈ [(4, k0, k0 + 1), (38, 6 * k0, 6 * k0 + 6), (34, k0, k0 + 1), (35, k0, k0 + 1), (41, k0, k0 + 1), (31, k0, k0 + 1), (32, k0, k0 + 1), (1, 0, 1), (12, 0, 6), (10, 0, 1), (22, 0, 6), (14, 0, 6), (16, 0, 6), (18, 0, 6), (20, 0, 6), (0, 0, 1), (40, 16 * k0, 16 * k0 + 16), (5, k0, k0 + 1)], e ∈ S) (ke : St → Option (Unit × St)) (hke : ∀ (τ : St), Kp S σ0 τ → Fr S σ0 (ke τ)) : ∀ (n : Nat) (b3 : Int32) (σ : St), Kp S σ0 σ → Fr S σ0 (LX4_advance_2 k0 a1 ke n b3 σ) := by
  intro n
  induction n with
  | zero => intros; exact fr_none
  | succ n ih =>
    intro b3 σ hK0
    rw [LX4_advance_2]
    refine fr_if (fun _ => ?_) (fun _ => ?_)
    · skip
      exact hke _ hK0
    · skip
      refine fr_bd (fun r τ hh => hK0.tr (fr_fX4_tick _ _ r τ hh) (kp_sub hs (kp_pick [0, 1, 2, 3, 4, 5, 6, 7, 8, 9, 10, 11, 12, 13, 14, 15, 16, 17] rfl))) (fun _ σ1 hK1 => ?_)
      exact ih _ _ hK1
theorem fr_fX4_advance (k0 : Nat) (p1 : Int32) (σ : St) : Fr [(4, k0, k0 + 1), (38, 6 * k0, 6 * k0 + 6), (34, k0, k0 + 1), (35, k0, k0 + 1), (41, k0, k0 + 1), (31, k0, k0 + 1), (32, k0, k0 + 1), (1, 0, 1), (12, 0, 6), (10, 0, 1), (22, 0, 6), (14, 0, 6), (16, 0, 6), (18, 0, 6), (20, 0, 6), (0, 0, 1), (40, 16 * k0, 16 * k0 + 16), (5, k0, k0 + 1)] σ (fX4_advance k0 p1 σ) := by
  unfold fX4_advance
  refine fr_LX4_advance_2 (S := [(4, k0, k0 + 1), (38, 6 * k0, 6 * k0 + 6), (34, k0, k0 + 1), (35, k0, k0 + 1), (41, k0, k0 + 1), (31, k0, k0 + 1), (32, k0, k0 + 1), (1, 0, 1), (12, 0, 6), (10, 0, 1), (22, 0, 6), (14, 0, 6), (16, 0, 6), (18, 0, 6), (20, 0, 6), (0, 0, 1), (40, 16 * k0, 16 * k0 + 16), (5, k0, k0 + 1)]) _ _ (kp_pick [0, 1, 2, 3, 4, 5, 6, 7, 8, 9, 10, 11, 12, 13, 14, 15, 16, 17] rfl) _ (fun σ2 hK1 => ?_) FU _ _ kp_rf
  exact fr_some hK1
theorem fr_LX4_asksToCome_4 {S : List (Nat × Nat × Nat)} {σ0 : St} (k0 : Nat) (hs : ∀ e ∈ ([] : List (Nat × Nat × Nat)), e ∈ S) (ke : Int32 → St → Option (Int32 × St)) (hke : ∀ (e0 : Int32) (τ : St), Kp S σ0 τ → Fr S σ0 (ke e0 τ)) : ∀ (n : Nat) (b1 : Int32) (b2 : Int32) (σ : St), Kp S σ0 σ → Fr S σ0 (LX4_asksToCome_4 k0 ke n b1 b2 σ) := by
  intro n
  induction n with
  | zero => intros; exact fr_none
  | succ n ih =>
    intro b1 b2 σ hK0
    rw [LX4_asksToCome_4]
    refine fr_gd (fun _ => ?_)
    refine fr_if (fun _ => ?_) (fun _ => ?_)
    · skip
      exact hke _ _ hK0
    · skip
      refine fr_if (fun _ => ?_) (fun _ => ?_)
      · skip
        exact hke _ _ hK0
      · skip
        refine fr_gd (fun _ => ?_)
        refine fr_gi (fun hv1 => ?_)
        refine fr_jn (fun j40 => ∀ (x4 : Int32) (σ3 : St), Kp S σ0 σ3 → Fr S σ0 (j40 x4 σ3)) ?_ ?_
        · intro x4 σ3 hK2
          exact ih _ _ _ hK2
        · intro j40 hj40
          refine fr_if (fun _ => ?_) (fun _ => ?_)
          · skip
            exact hj40 _ _ hK0
          · skip
            exact hj40 _ _ hK0
theorem fr_fX4_asksToCome (k0 : Nat) (σ : St) : Fr ([] : List (Nat × Nat × Nat)) σ (fX4_asksToCome k0 σ) := by
  unfold fX4_asksToCome
  refine fr_LX4_asksToCome_4 (S := []) _ (kp_pick [] rfl) _ (fun x5 σ6 hK1 => ?_) FU _ _ _ kp_rf
  exact fr_some hK1
theorem fr_fX4_letLine (k0 : Nat) (p1 : Int32) (p2 : Int32) (σ : St) : Fr [(33, k0, k0 + 1)] σ (fX4_letLine k0 p1 p2 σ) := by
  unfold fX4_letLine
  refine fr_if (fun _ => ?_) (fun _ => ?_)
  · skip
    exact fr_some kp_rf
  · skip
    refine fr_gi (fun hv1 => ?_)
    refine fr_ltv (fun x1 => ?_)
    refine fr_gi (fun hv2 => ?_)
    refine fr_lts (kp_rf.wI (fr_m 0 rfl (by omega) (by omega))) (fun σ2 hK3 => ?_)
    exact fr_some hK3
theorem fr_LX4_neverMaster_4 {S : List (Nat × Nat × Nat)} {σ0 : St} (k0 : Nat) (hs : ∀ e ∈ ([] : List (Nat × Nat × Nat)), e ∈ S) (ke : St → Option (Int32 × St)) (hke : ∀ (τ : St), Kp S σ0 τ → Fr S σ0 (ke τ)) : ∀ (n : Nat) (b2 : Int32) (b3 : Int32) (σ : St), Kp S σ0 σ → Fr S σ0 (LX4_neverMaster_4 k0 ke n b2 b3 σ) := by
  intro n
  induction n with
  | zero => intros; exact fr_none
  | succ n ih =>
    intro b2 b3 σ hK0
    rw [LX4_neverMaster_4]
    refine fr_if (fun _ => ?_) (fun _ => ?_)
    · skip
      exact hke _ hK0
    · skip
      refine fr_gd (fun _ => ?_)
      refine fr_bd (fun r τ hh => hK0.tr (fr_fX2_boardOfSlot _ _ _ r τ hh) (kp_sub hs (kp_pick [] rfl))) (fun r3 σ2 hK1 => ?_)
      refine fr_gd (fun _ => ?_)
      refine fr_bd (fun r τ hh => hK1.tr (fr_fX2_holds _ _ _ r τ hh) (kp_sub hs (kp_pick [] rfl))) (fun r6 σ5 hK2 => ?_)
      refine fr_jn (fun j55 => ∀ (x8 : Int32) (σ7 : St), Kp S σ0 σ7 → Fr S σ0 (j55 x8 σ7)) ?_ ?_
      · intro x8 σ7 hK3
        exact ih _ _ _ hK3
      · intro j55 hj55
        refine fr_if (fun _ => ?_) (fun _ => ?_)
        · skip
          exact hj55 _ _ hK2
        · skip
          refine fr_bd (fun r τ hh => hK2.tr (fr_fX5_account _ _ _ _ r τ hh) (kp_sub hs (kp_pick [] rfl))) (fun r10 σ9 hK4 => ?_)
          refine fr_if (fun _ => ?_) (fun _ => ?_)
          · skip
            refine fr_if (fun _ => ?_) (fun _ => ?_)
            · skip
              exact fr_some hK4
            · skip
              exact hj55 _ _ hK4
          · skip
            exact hj55 _ _ hK4
theorem fr_fX4_neverMaster (k0 : Nat) (p1 : Int32) (σ : St) : Fr ([] : List (Nat × Nat × Nat)) σ (fX4_neverMaster k0 p1 σ) := by
  unfold fX4_neverMaster
  refine fr_LX4_neverMaster_4 (S := []) _ (kp_pick [] rfl) _ (fun σ11 hK1 => ?_) FU _ _ _ kp_rf
  exact fr_some hK1
theorem fr_fX5_total (k0 : Nat) (p1 : Int32) (σ : St) : Fr ([] : List (Nat × Nat × Nat)) σ (fX5_total k0 p1 σ) := by
  unfold fX5_total
  refine fr_if (fun _ => ?_) (fun _ => ?_)
  · skip
    exact fr_some kp_rf
  · skip
    refine fr_if (fun _ => ?_) (fun _ => ?_)
    · skip
      exact fr_some kp_rf
    · skip
      refine fr_if (fun _ => ?_) (fun _ => ?_)
      · skip
        exact fr_some kp_rf
      · skip
        refine fr_if (fun _ => ?_) (fun _ => ?_)
        · skip
          exact fr_some kp_rf
        · skip
          exact fr_some kp_rf
theorem fr_fX4_state (k0 : Nat) (p1 : Int32) (σ : St) : Fr ([] : List (Nat × Nat × Nat)) σ (fX4_state k0 p1 σ) := by
  unfold fX4_state
  refine fr_if (fun _ => ?_) (fun _ => ?_)
  · skip
    exact fr_some kp_rf
  · skip
    refine fr_if (fun _ => ?_) (fun _ => ?_)
    · skip
      exact fr_some kp_rf
    · skip
      refine fr_if (fun _ => ?_) (fun _ => ?_)
      · skip
        exact fr_some kp_rf
      · skip
        refine fr_if (fun _ => ?_) (fun _ => ?_)
        · skip
          exact fr_some kp_rf
        · skip
          refine fr_if (fun _ => ?_) (fun _ => ?_)
          · skip
            exact fr_some kp_rf
          · skip
            refine fr_if (fun _ => ?_) (fun _ => ?_)
            · skip
              refine fr_bd (fun r τ hh => kp_rf.tr (fr_fX4_askers _ _ r τ hh) (kp_pick [] rfl)) (fun r8 σ7 hK1 => ?_)
              exact fr_some hK1
            · skip
              refine fr_bd (fun r τ hh => kp_rf.tr (fr_fX5_total _ _ _ r τ hh) (kp_pick [] rfl)) (fun r10 σ9 hK2 => ?_)
              exact fr_some hK2
theorem fr_fX5_logged (k0 : Nat) (σ : St) : Fr ([] : List (Nat × Nat × Nat)) σ (fX5_logged k0 σ) := by
  unfold fX5_logged
  exact fr_some kp_rf
theorem fr_fX5_masterAt (k0 : Nat) (p1 : Int32) (σ : St) : Fr ([] : List (Nat × Nat × Nat)) σ (fX5_masterAt k0 p1 σ) := by
  unfold fX5_masterAt
  refine fr_if (fun _ => ?_) (fun _ => ?_)
  · skip
    exact fr_some kp_rf
  · skip
    refine fr_bd (fun r τ hh => kp_rf.tr (fr_fJ9_floorMod_7cf53 _ _ _ r τ hh) (kp_pick [] rfl)) (fun r2 σ1 hK1 => ?_)
    refine fr_gi (fun hv2 => ?_)
    exact fr_some hK1
theorem fr_LX5_idleTicks_4 {S : List (Nat × Nat × Nat)} {σ0 : St} (k0 : Nat) (a1 : Int32) (hs : ∀ e ∈ ([] : List (Nat × Nat × Nat)), e ∈ S) (ke : Int32 → St → Option (Int32 × St)) (hke : ∀ (e0 : Int32) (τ : St), Kp S σ0 τ → Fr S σ0 (ke e0 τ)) : ∀ (n : Nat) (b2 : Int32) (b3 : Int32) (σ : St), Kp S σ0 σ → Fr S σ0 (LX5_idleTicks_4 k0 a1 ke n b2 b3 σ) := by
  intro n
  induction n with
  | zero => intros; exact fr_none
  | succ n ih =>
    intro b2 b3 σ hK0
    rw [LX5_idleTicks_4]
    refine fr_if (fun _ => ?_) (fun _ => ?_)
    · skip
      exact hke _ _ hK0
    · skip
      refine fr_if (fun _ => ?_) (fun _ => ?_)
      · skip
        exact hke _ _ hK0
      · skip
        refine fr_bd (fun r τ hh => hK0.tr (fr_fX5_masterAt _ _ _ r τ hh) (kp_sub hs (kp_pick [] rfl))) (fun r2 σ1 hK1 => ?_)
        refine fr_jn (fun j30 => ∀ (x4 : Int32) (σ3 : St), Kp S σ0 σ3 → Fr S σ0 (j30 x4 σ3)) ?_ ?_
        · intro x4 σ3 hK2
          exact ih _ _ _ hK2
        · intro j30 hj30
          refine fr_if (fun _ => ?_) (fun _ => ?_)
          · skip
            exact hj30 _ _ hK1
          · skip
            exact hj30 _ _ hK1
theorem fr_fX5_idleTicks (k0 : Nat) (p1 : Int32) (σ : St) : Fr ([] : List (Nat × Nat × Nat)) σ (fX5_idleTicks k0 p1 σ) := by
  unfold fX5_idleTicks
  refine fr_LX5_idleTicks_4 (S := []) _ _ (kp_pick [] rfl) _ (fun x5 σ6 hK1 => ?_) FU _ _ _ kp_rf
  exact fr_some hK1
theorem fr_fX5_entry (k0 : Nat) (p1 : Int32) (p2 : Int32) (σ : St) : Fr ([] : List (Nat × Nat × Nat)) σ (fX5_entry k0 p1 p2 σ) := by
  unfold fX5_entry
  refine fr_bd (fun r τ hh => kp_rf.tr (fr_fX5_logged _ _ r τ hh) (kp_pick [] rfl)) (fun r2 σ1 hK1 => ?_)
  refine fr_if (fun _ => ?_) (fun _ => ?_)
  · skip
    exact fr_some hK1
  · skip
    refine fr_if (fun _ => ?_) (fun _ => ?_)
    · skip
      exact fr_some hK1
    · skip
      refine fr_bd (fun r τ hh => hK1.tr (fr_fJ9_floorMod_7cf53 _ _ _ r τ hh) (kp_pick [] rfl)) (fun r4 σ3 hK2 => ?_)
      refine fr_gi (fun hv3 => ?_)
      refine fr_gi (fun hv4 => ?_)
      exact fr_some hK2
theorem fr_fX6_hasRoom (p1 : Int32) (σ : St) : Fr ([] : List (Nat × Nat × Nat)) σ (fX6_hasRoom p1 σ) := by
  unfold fX6_hasRoom
  exact fr_rz kp_rf
theorem fr_fX6_clear (σ : St) : Fr [(6, 0, 1)] σ (fX6_clear σ) := by
  unfold fX6_clear
  refine fr_lts (kp_rf.wI (fr_m 0 rfl (by omega) (by omega))) (fun σ1 hK1 => ?_)
  exact fr_some hK1
theorem fr_LX6_append_3 {S : List (Nat × Nat × Nat)} {σ0 : St} (a1 : Int32) (hs : ∀ e ∈ [(42, 0, 1), (6, 0, 1)], e ∈ S) (ke : St → Option (Unit × St)) (hke : ∀ (τ : St), Kp S σ0 τ → Fr S σ0 (ke τ)) : ∀ (n : Nat) (b2 : Int32) (σ : St), Kp S σ0 σ → Fr S σ0 (LX6_append_3 a1 ke n b2 σ) := by
  intro n
  induction n with
  | zero => intros; exact fr_none
  | succ n ih =>
    intro b2 σ hK0
    rw [LX6_append_3]
    refine fr_if (fun _ => ?_) (fun _ => ?_)
    · skip
      exact hke _ hK0
    · skip
      refine fr_if (fun _ => ?_) (fun _ => ?_)
      · skip
        exact hke _ hK0
      · skip
        refine fr_gi (fun hv1 => ?_)
        refine fr_lts (hK0.wI (fr_h hs 0 rfl (by omega) (by omega))) (fun σ1 hK2 => ?_)
        refine fr_lts (hK2.wI (fr_h hs 1 rfl (by omega) (by omega))) (fun σ2 hK3 => ?_)
        exact ih _ _ hK3
theorem fr_fX6_append (p1 : Int32) (σ : St) : Fr [(42, 0, 1), (6, 0, 1)] σ (fX6_append p1 σ) := by
  unfold fX6_append
  refine fr_LX6_append_3 (S := [(42, 0, 1), (6, 0, 1)]) _ (kp_pick [0, 1] rfl) _ (fun σ3 hK1 => ?_) FU _ _ kp_rf
  exact fr_some hK1
theorem fr_fX7_feed (p1 : Int32) (p2 : Int32) (p3 : Int32) (p4 : Int32) (p5 : Int32) (σ : St) : Fr [(42, 0, 1), (6, 0, 1)] σ (fX7_feed p1 p2 p3 p4 p5 σ) := by
  unfold fX7_feed
  refine fr_bd (fun r τ hh => kp_rf.tr (fr_fX6_hasRoom _ _ r τ hh) (kp_pick [] rfl)) (fun r2 σ1 hK1 => ?_)
  refine fr_if (fun _ => ?_) (fun _ => ?_)
  · skip
    exact fr_some hK1
  · skip
    refine fr_bd (fun r τ hh => hK1.tr (fr_fX6_append _ _ r τ hh) (kp_pick [0, 1] rfl)) (fun _ σ3 hK2 => ?_)
    refine fr_bd (fun r τ hh => hK2.tr (fr_fX6_append _ _ r τ hh) (kp_pick [0, 1] rfl)) (fun _ σ4 hK3 => ?_)
    refine fr_bd (fun r τ hh => hK3.tr (fr_fX6_append _ _ r τ hh) (kp_pick [0, 1] rfl)) (fun _ σ5 hK4 => ?_)
    refine fr_bd (fun r τ hh => hK4.tr (fr_fX6_append _ _ r τ hh) (kp_pick [0, 1] rfl)) (fun _ σ6 hK5 => ?_)
    refine fr_bd (fun r τ hh => hK5.tr (fr_fX6_append _ _ r τ hh) (kp_pick [0, 1] rfl)) (fun _ σ7 hK6 => ?_)
    exact fr_some hK6
theorem fr_fX7_fault (σ : St) : Fr ([] : List (Nat × Nat × Nat)) σ (fX7_fault σ) := by
  unfold fX7_fault
  exact fr_some kp_rf
theorem fr_fX7_where (σ : St) : Fr ([] : List (Nat × Nat × Nat)) σ (fX7_where σ) := by
  unfold fX7_where
  exact fr_some kp_rf
theorem fr_fX7_refused (p1 : Int32) (σ : St) : Fr [(7, 0, 1)] σ (fX7_refused p1 σ) := by
  unfold fX7_refused
  refine fr_lts (kp_rf.wI (fr_m 0 rfl (by omega) (by omega))) (fun σ1 hK1 => ?_)
  exact fr_some hK1
theorem fr_fX7_accepted (p1 : Int32) (σ : St) : Fr [(7, 0, 1)] σ (fX7_accepted p1 σ) := by
  unfold fX7_accepted
  refine fr_lts (kp_rf.wI (fr_m 0 rfl (by omega) (by omega))) (fun σ1 hK1 => ?_)
  exact fr_some hK1
theorem fr_fX7_about (p1 : Int32) (σ : St) : Fr [(7, 0, 1)] σ (fX7_about p1 σ) := by
  unfold fX7_about
  refine fr_jn (fun j16 => ∀ (σ1 : St), Kp ([(7, 0, 1)]) σ σ1 → Fr ([(7, 0, 1)]) σ (j16 σ1)) ?_ ?_
  · intro σ1 hK1
    refine fr_bd (fun r τ hh => hK1.tr (fr_fX7_refused _ _ r τ hh) (kp_pick [0] rfl)) (fun r3 σ2 hK2 => ?_)
    exact fr_some hK2
  · intro j16 hj16
    refine fr_if (fun _ => ?_) (fun _ => ?_)
    · skip
      exact hj16 _ kp_rf
    · skip
      refine fr_if (fun _ => ?_) (fun _ => ?_)
      · skip
        exact hj16 _ kp_rf
      · skip
        refine fr_jn (fun j46 => ∀ (x5 : Int32) (σ4 : St), Kp ([(7, 0, 1)]) σ σ4 → Fr ([(7, 0, 1)]) σ (j46 x5 σ4)) ?_ ?_
        · intro x5 σ4 hK3
          refine fr_bd (fun r τ hh => hK3.tr (fr_fX7_accepted _ _ r τ hh) (kp_pick [0] rfl)) (fun r7 σ6 hK4 => ?_)
          exact fr_some hK4
        · intro j46 hj46
          refine fr_if (fun _ => ?_) (fun _ => ?_)
          · skip
            exact hj46 _ _ kp_rf
          · skip
            refine fr_gd (fun _ => ?_)
            refine fr_bd (fun r τ hh => kp_rf.tr (fr_fX2_fact _ _ _ r τ hh) (kp_pick [] rfl)) (fun r10 σ9 hK5 => ?_)
            exact hj46 _ _ hK5
theorem fr_fX7_hasBoard (p1 : Int32) (σ : St) : Fr ([] : List (Nat × Nat × Nat)) σ (fX7_hasBoard p1 σ) := by
  unfold fX7_hasBoard
  refine fr_if (fun _ => ?_) (fun _ => ?_)
  · skip
    exact fr_some kp_rf
  · skip
    refine fr_gd (fun _ => ?_)
    refine fr_bd (fun r τ hh => kp_rf.tr (fr_fX2_holds _ _ _ r τ hh) (kp_pick [] rfl)) (fun r3 σ2 hK1 => ?_)
    exact fr_rz hK1
theorem fr_fX7_board (p1 : Int32) (p2 : Int32) (σ : St) : Fr [(7, 0, 1)] σ (fX7_board p1 p2 σ) := by
  unfold fX7_board
  refine fr_bd (fun r τ hh => kp_rf.tr (fr_fX7_hasBoard _ _ r τ hh) (kp_pick [] rfl)) (fun r2 σ1 hK1 => ?_)
  refine fr_jn (fun j17 => ∀ (σ3 : St), Kp ([(7, 0, 1)]) σ σ3 → Fr ([(7, 0, 1)]) σ (j17 σ3)) ?_ ?_
  · intro σ3 hK2
    refine fr_bd (fun r τ hh => hK2.tr (fr_fX7_refused _ _ r τ hh) (kp_pick [0] rfl)) (fun r5 σ4 hK3 => ?_)
    exact fr_some hK3
  · intro j17 hj17
    refine fr_if (fun _ => ?_) (fun _ => ?_)
    · skip
      exact hj17 _ hK1
    · skip
      refine fr_if (fun _ => ?_) (fun _ => ?_)
      · skip
        exact hj17 _ hK1
      · skip
        refine fr_jn (fun j50 => ∀ (x7 : Int32) (σ6 : St), Kp ([(7, 0, 1)]) σ σ6 → Fr ([(7, 0, 1)]) σ (j50 x7 σ6)) ?_ ?_
        · intro x7 σ6 hK4
          refine fr_bd (fun r τ hh => hK4.tr (fr_fX7_accepted _ _ r τ hh) (kp_pick [0] rfl)) (fun r9 σ8 hK5 => ?_)
          exact fr_some hK5
        · intro j50 hj50
          refine fr_if (fun _ => ?_) (fun _ => ?_)
          · skip
            refine fr_bd (fun r τ hh => hK1.tr (fr_fX4_boardState _ _ _ _ r τ hh) (kp_pick [] rfl)) (fun r11 σ10 hK6 => ?_)
            exact hj50 _ _ hK6
          · skip
            refine fr_gd (fun _ => ?_)
            refine fr_bd (fun r τ hh => hK1.tr (fr_fX2_boardFact _ _ _ _ r τ hh) (kp_pick [] rfl)) (fun r14 σ13 hK7 => ?_)
            exact hj50 _ _ hK7
theorem fr_fX7_named (p1 : Int32) (σ : St) : Fr [(7, 0, 1)] σ (fX7_named p1 σ) := by
  unfold fX7_named
  refine fr_jn (fun j19 => ∀ (x2 : Int32) (σ1 : St), Kp ([(7, 0, 1)]) σ σ1 → Fr ([(7, 0, 1)]) σ (j19 x2 σ1)) ?_ ?_
  · intro x2 σ1 hK1
    refine fr_if (fun _ => ?_) (fun _ => ?_)
    · skip
      refine fr_bd (fun r τ hh => hK1.tr (fr_fX7_refused _ _ r τ hh) (kp_pick [0] rfl)) (fun r6 σ5 hK2 => ?_)
      exact fr_some hK2
    · skip
      refine fr_bd (fun r τ hh => hK1.tr (fr_fX7_accepted _ _ r τ hh) (kp_pick [0] rfl)) (fun r4 σ3 hK3 => ?_)
      exact fr_some hK3
  · intro j19 hj19
    refine fr_if (fun _ => ?_) (fun _ => ?_)
    · skip
      exact hj19 _ _ kp_rf
    · skip
      refine fr_gd (fun _ => ?_)
      refine fr_bd (fun r τ hh => kp_rf.tr (fr_fX2_boardOfCode _ _ _ r τ hh) (kp_pick [] rfl)) (fun r9 σ8 hK4 => ?_)
      exact hj19 _ _ hK4
theorem fr_fX7_word (p1 : Int32) (p2 : Int32) (σ : St) : Fr [(7, 0, 1), (31, 0, 0 + 1)] σ (fX7_word p1 p2 σ) := by
  unfold fX7_word
  refine fr_bd (fun r τ hh => kp_rf.tr (fr_fX7_hasBoard _ _ r τ hh) (kp_pick [] rfl)) (fun r2 σ1 hK1 => ?_)
  refine fr_if (fun _ => ?_) (fun _ => ?_)
  · skip
    refine fr_bd (fun r τ hh => hK1.tr (fr_fX7_refused _ _ r τ hh) (kp_pick [0] rfl)) (fun r12 σ11 hK2 => ?_)
    exact fr_some hK2
  · skip
    refine fr_if (fun _ => ?_) (fun _ => ?_)
    · skip
      refine fr_bd (fun r τ hh => hK1.tr (fr_fX7_refused _ _ r τ hh) (kp_pick [0] rfl)) (fun r10 σ9 hK3 => ?_)
      exact fr_some hK3
    · skip
      refine fr_jn (fun j54 => ∀ (x4 : Int32) (σ3 : St), Kp ([(7, 0, 1), (31, 0, 0 + 1)]) σ σ3 → Fr ([(7, 0, 1), (31, 0, 0 + 1)]) σ (j54 x4 σ3)) ?_ ?_
      · intro x4 σ3 hK4
        refine fr_bd (fun r τ hh => hK4.tr (fr_fX7_accepted _ _ r τ hh) (kp_pick [0] rfl)) (fun r6 σ5 hK5 => ?_)
        exact fr_some hK5
      · intro j54 hj54
        refine fr_if (fun _ => ?_) (fun _ => ?_)
        · skip
          refine fr_bd (fun r τ hh => hK1.tr (fr_fX4_rankWords _ _ r τ hh) (kp_pick [1] rfl)) (fun _ σ8 hK6 => ?_)
          refine fr_gi (fun hv7 => ?_)
          exact hj54 _ _ hK6
        · skip
          refine fr_gd (fun _ => ?_)
          refine fr_gi (fun hv8 => ?_)
          exact hj54 _ _ hK1
theorem fr_fX7_isSet (p1 : Int32) (σ : St) : Fr ([] : List (Nat × Nat × Nat)) σ (fX7_isSet p1 σ) := by
  unfold fX7_isSet
  refine fr_if (fun _ => ?_) (fun _ => ?_)
  · skip
    exact fr_some kp_rf
  · skip
    refine fr_gd (fun _ => ?_)
    refine fr_bd (fun r τ hh => kp_rf.tr (fr_fX2_sets _ _ r τ hh) (kp_pick [] rfl)) (fun r3 σ2 hK1 => ?_)
    exact fr_rz hK1
theorem fr_fX7_isContest (p1 : Int32) (p2 : Int32) (σ : St) : Fr ([] : List (Nat × Nat × Nat)) σ (fX7_isContest p1 p2 σ) := by
  unfold fX7_isContest
  refine fr_if (fun _ => ?_) (fun _ => ?_)
  · skip
    exact fr_some kp_rf
  · skip
    refine fr_bd (fun r τ hh => kp_rf.tr (fr_fX7_isSet _ _ r τ hh) (kp_pick [] rfl)) (fun r2 σ1 hK1 => ?_)
    exact fr_rz hK1
theorem fr_fX7_accepts (p1 : Int32) (p2 : Int32) (σ : St) : Fr [(7, 0, 1)] σ (fX7_accepts p1 p2 σ) := by
  unfold fX7_accepts
  refine fr_lts (kp_rf.wI (fr_m 0 rfl (by omega) (by omega))) (fun σ6 hK1 => ?_)
  exact fr_rz hK1
theorem fr_fX7_laid (p1 : Int32) (σ : St) : Fr [(1, 0, 1), (12, 0, 6), (10, 0, 1), (31, 0, 0 + 1)] σ (fX7_laid p1 σ) := by
  unfold fX7_laid
  refine fr_gd (fun _ => ?_)
  refine fr_bd (fun r τ hh => kp_rf.tr (fr_fX4_linesThat _ _ _ r τ hh) (kp_pick [] rfl)) (fun r3 σ2 hK1 => ?_)
  refine fr_bd (fun r τ hh => hK1.tr (fr_fX4_linesThat _ _ _ r τ hh) (kp_pick [] rfl)) (fun r5 σ4 hK2 => ?_)
  refine fr_bd (fun r τ hh => hK2.tr (fr_fX1_wire _ _ _ _ r τ hh) (kp_pick [0, 1] rfl)) (fun _ σ6 hK3 => ?_)
  refine fr_jn (fun j54 => ∀ (c8 : Nat) (k9 : Nat) (σ7 : St), Kp ([(1, 0, 1), (12, 0, 6), (10, 0, 1), (31, 0, 0 + 1)]) σ σ7 → Fr ([(1, 0, 1), (12, 0, 6), (10, 0, 1), (31, 0, 0 + 1)]) σ (j54 c8 k9 σ7)) ?_ ?_
  · intro c8 k9 σ7 hK4
    refine fr_gd (fun _ => ?_)
    refine fr_lts (hK4.wA (fr_m 2 rfl (by omega) (by omega))) (fun σ13 hK5 => ?_)
    exact fr_some hK5
  · intro j54 hj54
    refine fr_if (fun _ => ?_) (fun _ => ?_)
    · skip
      refine fr_bd (fun r τ hh => hK3.tr (fr_fX4_rankWords _ _ r τ hh) (kp_pick [3] rfl)) (fun _ σ15 hK6 => ?_)
      exact hj54 _ _ _ hK6
    · skip
      refine fr_gd (fun _ => ?_)
      exact hj54 _ _ _ hK3
theorem fr_fX7_played (p1 : Int32) (p2 : Int32) (σ : St) : Fr [(1, 0, 1), (12, 0, 6), (10, 0, 1), (31, 0, 0 + 1), (22, 0, 6), (14, 0, 6), (16, 0, 6), (18, 0, 6), (20, 0, 6)] σ (fX7_played p1 p2 σ) := by
  unfold fX7_played
  refine fr_bd (fun r τ hh => kp_rf.tr (fr_fX7_laid _ _ r τ hh) (kp_pick [0, 1, 2, 3] rfl)) (fun _ σ1 hK1 => ?_)
  refine fr_gd (fun _ => ?_)
  refine fr_bd (fun r τ hh => hK1.tr (fr_fX1_play _ _ _ _ r τ hh) (kp_pick [0, 4, 5, 6, 7, 8] rfl)) (fun _ σ3 hK2 => ?_)
  exact fr_some hK2
theorem fr_fX7_drives (p1 : Int32) (p2 : Int32) (p3 : Int32) (p4 : Int32) (σ : St) : Fr [(7, 0, 1), (1, 0, 1), (12, 0, 6), (10, 0, 1), (31, 0, 0 + 1), (22, 0, 6), (14, 0, 6), (16, 0, 6), (18, 0, 6), (20, 0, 6)] σ (fX7_drives p1 p2 p3 p4 σ) := by
  unfold fX7_drives
  refine fr_bd (fun r τ hh => kp_rf.tr (fr_fX7_hasBoard _ _ r τ hh) (kp_pick [] rfl)) (fun r2 σ1 hK1 => ?_)
  refine fr_bd (fun r τ hh => hK1.tr (fr_fX7_isContest _ _ _ r τ hh) (kp_pick [] rfl)) (fun r4 σ3 hK2 => ?_)
  refine fr_bd (fun r τ hh => hK2.tr (fr_fX7_accepts _ _ _ r τ hh) (kp_pick [0] rfl)) (fun r11 σ10 hK3 => ?_)
  refine fr_if (fun _ => ?_) (fun _ => ?_)
  · skip
    exact fr_some hK3
  · skip
    refine fr_bd (fun r τ hh => hK3.tr (fr_fX7_played _ _ _ r τ hh) (kp_pick [1, 2, 3, 4, 5, 6, 7, 8, 9] rfl)) (fun _ σ12 hK4 => ?_)
    refine fr_bd (fun r τ hh => hK4.tr (fr_fX1_drivenAt _ _ _ r τ hh) (kp_pick [] rfl)) (fun r14 σ13 hK5 => ?_)
    exact fr_some hK5
theorem fr_fX7_seen (p1 : Int32) (p2 : Int32) (p3 : Int32) (p4 : Int32) (σ : St) : Fr [(7, 0, 1), (1, 0, 1), (12, 0, 6), (10, 0, 1), (31, 0, 0 + 1), (22, 0, 6), (14, 0, 6), (16, 0, 6), (18, 0, 6), (20, 0, 6)] σ (fX7_seen p1 p2 p3 p4 σ) := by
  unfold fX7_seen
  refine fr_bd (fun r τ hh => kp_rf.tr (fr_fX7_hasBoard _ _ r τ hh) (kp_pick [] rfl)) (fun r2 σ1 hK1 => ?_)
  refine fr_bd (fun r τ hh => hK1.tr (fr_fX7_isContest _ _ _ r τ hh) (kp_pick [] rfl)) (fun r4 σ3 hK2 => ?_)
  refine fr_bd (fun r τ hh => hK2.tr (fr_fX7_accepts _ _ _ r τ hh) (kp_pick [0] rfl)) (fun r11 σ10 hK3 => ?_)
  refine fr_if (fun _ => ?_) (fun _ => ?_)
  · skip
    exact fr_some hK3
  · skip
    refine fr_bd (fun r τ hh => hK3.tr (fr_fX7_played _ _ _ r τ hh) (kp_pick [1, 2, 3, 4, 5, 6, 7, 8, 9] rfl)) (fun _ σ12 hK4 => ?_)
    refine fr_bd (fun r τ hh => hK4.tr (fr_fX1_sightAt _ _ _ r τ hh) (kp_pick [] rfl)) (fun r14 σ13 hK5 => ?_)
    exact fr_some hK5
theorem fr_fX7_taken (p1 : Int32) (p2 : Int32) (p3 : Int32) (p4 : Int32) (σ : St) : Fr [(7, 0, 1), (1, 0, 1), (12, 0, 6), (10, 0, 1), (31, 0, 0 + 1), (22, 0, 6), (14, 0, 6), (16, 0, 6), (18, 0, 6), (20, 0, 6)] σ (fX7_taken p1 p2 p3 p4 σ) := by
  unfold fX7_taken
  refine fr_bd (fun r τ hh => kp_rf.tr (fr_fX7_hasBoard _ _ r τ hh) (kp_pick [] rfl)) (fun r2 σ1 hK1 => ?_)
  refine fr_bd (fun r τ hh => hK1.tr (fr_fX7_isContest _ _ _ r τ hh) (kp_pick [] rfl)) (fun r4 σ3 hK2 => ?_)
  refine fr_bd (fun r τ hh => hK2.tr (fr_fX7_accepts _ _ _ r τ hh) (kp_pick [0] rfl)) (fun r11 σ10 hK3 => ?_)
  refine fr_if (fun _ => ?_) (fun _ => ?_)
  · skip
    exact fr_some hK3
  · skip
    refine fr_bd (fun r τ hh => hK3.tr (fr_fX7_played _ _ _ r τ hh) (kp_pick [1, 2, 3, 4, 5, 6, 7, 8, 9] rfl)) (fun _ σ12 hK4 => ?_)
    refine fr_bd (fun r τ hh => hK4.tr (fr_fX1_believedAt _ _ _ r τ hh) (kp_pick [] rfl)) (fun r14 σ13 hK5 => ?_)
    exact fr_some hK5
theorem fr_fX7_withdrawn (p1 : Int32) (p2 : Int32) (p3 : Int32) (p4 : Int32) (σ : St) : Fr [(7, 0, 1), (1, 0, 1), (12, 0, 6), (10, 0, 1), (31, 0, 0 + 1), (22, 0, 6), (14, 0, 6), (16, 0, 6), (18, 0, 6), (20, 0, 6)] σ (fX7_withdrawn p1 p2 p3 p4 σ) := by
  unfold fX7_withdrawn
  refine fr_bd (fun r τ hh => kp_rf.tr (fr_fX7_hasBoard _ _ r τ hh) (kp_pick [] rfl)) (fun r2 σ1 hK1 => ?_)
  refine fr_bd (fun r τ hh => hK1.tr (fr_fX7_isContest _ _ _ r τ hh) (kp_pick [] rfl)) (fun r4 σ3 hK2 => ?_)
  refine fr_bd (fun r τ hh => hK2.tr (fr_fX7_accepts _ _ _ r τ hh) (kp_pick [0] rfl)) (fun r11 σ10 hK3 => ?_)
  refine fr_if (fun _ => ?_) (fun _ => ?_)
  · skip
    exact fr_some hK3
  · skip
    refine fr_bd (fun r τ hh => hK3.tr (fr_fX7_played _ _ _ r τ hh) (kp_pick [1, 2, 3, 4, 5, 6, 7, 8, 9] rfl)) (fun _ σ12 hK4 => ?_)
    refine fr_bd (fun r τ hh => hK4.tr (fr_fX1_yieldedAt _ _ _ r τ hh) (kp_pick [] rfl)) (fun r14 σ13 hK5 => ?_)
    exact fr_some hK5
theorem fr_fX7_winners (p1 : Int32) (p2 : Int32) (p3 : Int32) (σ : St) : Fr [(7, 0, 1), (1, 0, 1), (12, 0, 6), (10, 0, 1), (31, 0, 0 + 1), (22, 0, 6), (14, 0, 6), (16, 0, 6), (18, 0, 6), (20, 0, 6)] σ (fX7_winners p1 p2 p3 σ) := by
  unfold fX7_winners
  refine fr_bd (fun r τ hh => kp_rf.tr (fr_fX7_isContest _ _ _ r τ hh) (kp_pick [] rfl)) (fun r2 σ1 hK1 => ?_)
  refine fr_bd (fun r τ hh => hK1.tr (fr_fX7_accepts _ _ _ r τ hh) (kp_pick [0] rfl)) (fun r9 σ8 hK2 => ?_)
  refine fr_if (fun _ => ?_) (fun _ => ?_)
  · skip
    exact fr_some hK2
  · skip
    refine fr_bd (fun r τ hh => hK2.tr (fr_fX7_played _ _ _ r τ hh) (kp_pick [1, 2, 3, 4, 5, 6, 7, 8, 9] rfl)) (fun _ σ10 hK3 => ?_)
    refine fr_bd (fun r τ hh => hK3.tr (fr_fX1_winnersAt _ _ r τ hh) (kp_pick [] rfl)) (fun r12 σ11 hK4 => ?_)
    exact fr_some hK4
theorem fr_fX7_settles (p1 : Int32) (p2 : Int32) (σ : St) : Fr [(7, 0, 1), (1, 0, 1), (12, 0, 6), (10, 0, 1), (31, 0, 0 + 1), (22, 0, 6), (14, 0, 6), (16, 0, 6), (18, 0, 6), (20, 0, 6)] σ (fX7_settles p1 p2 σ) := by
  unfold fX7_settles
  refine fr_bd (fun r τ hh => kp_rf.tr (fr_fX7_isContest _ _ _ r τ hh) (kp_pick [] rfl)) (fun r2 σ1 hK1 => ?_)
  refine fr_bd (fun r τ hh => hK1.tr (fr_fX7_accepts _ _ _ r τ hh) (kp_pick [0] rfl)) (fun r4 σ3 hK2 => ?_)
  refine fr_if (fun _ => ?_) (fun _ => ?_)
  · skip
    exact fr_some hK2
  · skip
    refine fr_bd (fun r τ hh => hK2.tr (fr_fX7_played _ _ _ r τ hh) (kp_pick [1, 2, 3, 4, 5, 6, 7, 8, 9] rfl)) (fun _ σ5 hK3 => ?_)
    exact fr_some hK3
theorem fr_fX7_sure (p1 : Int32) (p2 : Int32) (σ : St) : Fr [(7, 0, 1), (1, 0, 1), (12, 0, 6), (10, 0, 1), (31, 0, 0 + 1), (22, 0, 6), (14, 0, 6), (16, 0, 6), (18, 0, 6), (20, 0, 6)] σ (fX7_sure p1 p2 σ) := by
  unfold fX7_sure
  refine fr_bd (fun r τ hh => kp_rf.tr (fr_fX7_isContest _ _ _ r τ hh) (kp_pick [] rfl)) (fun r2 σ1 hK1 => ?_)
  refine fr_bd (fun r τ hh => hK1.tr (fr_fX7_accepts _ _ _ r τ hh) (kp_pick [0] rfl)) (fun r4 σ3 hK2 => ?_)
  refine fr_if (fun _ => ?_) (fun _ => ?_)
  · skip
    exact fr_some hK2
  · skip
    refine fr_bd (fun r τ hh => hK2.tr (fr_fX7_played _ _ _ r τ hh) (kp_pick [1, 2, 3, 4, 5, 6, 7, 8, 9] rfl)) (fun _ σ5 hK3 => ?_)
    refine fr_bd (fun r τ hh => hK3.tr (fr_fX1_sureFrom _ r τ hh) (kp_pick [] rfl)) (fun r7 σ6 hK4 => ?_)
    exact fr_some hK4
theorem fr_fX7_right (p1 : Int32) (p2 : Int32) (σ : St) : Fr [(7, 0, 1), (1, 0, 1), (12, 0, 6), (10, 0, 1), (31, 0, 0 + 1)] σ (fX7_right p1 p2 σ) := by
  unfold fX7_right
  refine fr_bd (fun r τ hh => kp_rf.tr (fr_fX7_isContest _ _ _ r τ hh) (kp_pick [] rfl)) (fun r2 σ1 hK1 => ?_)
  refine fr_bd (fun r τ hh => hK1.tr (fr_fX7_accepts _ _ _ r τ hh) (kp_pick [0] rfl)) (fun r4 σ3 hK2 => ?_)
  refine fr_if (fun _ => ?_) (fun _ => ?_)
  · skip
    exact fr_some hK2
  · skip
    refine fr_bd (fun r τ hh => hK2.tr (fr_fX7_laid _ _ r τ hh) (kp_pick [1, 2, 3, 4] rfl)) (fun _ σ5 hK3 => ?_)
    refine fr_bd (fun r τ hh => hK3.tr (fr_fX1_greatestOf _ _ r τ hh) (kp_pick [] rfl)) (fun r7 σ6 hK4 => ?_)
    exact fr_some hK4
theorem fr_fX7_dips (p1 : Int32) (p2 : Int32) (σ : St) : Fr [(7, 0, 1), (1, 0, 1), (12, 0, 6), (10, 0, 1), (31, 0, 0 + 1), (22, 0, 6), (14, 0, 6), (16, 0, 6), (18, 0, 6), (20, 0, 6)] σ (fX7_dips p1 p2 σ) := by
  unfold fX7_dips
  refine fr_bd (fun r τ hh => kp_rf.tr (fr_fX7_isContest _ _ _ r τ hh) (kp_pick [] rfl)) (fun r2 σ1 hK1 => ?_)
  refine fr_bd (fun r τ hh => hK1.tr (fr_fX7_accepts _ _ _ r τ hh) (kp_pick [0] rfl)) (fun r4 σ3 hK2 => ?_)
  refine fr_if (fun _ => ?_) (fun _ => ?_)
  · skip
    exact fr_some hK2
  · skip
    refine fr_bd (fun r τ hh => hK2.tr (fr_fX7_played _ _ _ r τ hh) (kp_pick [1, 2, 3, 4, 5, 6, 7, 8, 9] rfl)) (fun _ σ5 hK3 => ?_)
    exact fr_some hK3
theorem fr_fX7_faulty (p1 : Int32) (p2 : Int32) (p3 : Int32) (σ : St) : Fr [(7, 0, 1), (1, 0, 1), (12, 0, 6), (10, 0, 1), (31, 0, 0 + 1), (22, 0, 6), (14, 0, 6), (16, 0, 6), (18, 0, 6), (20, 0, 6)] σ (fX7_faulty p1 p2 p3 σ) := by
  unfold fX7_faulty
  refine fr_bd (fun r τ hh => kp_rf.tr (fr_fX7_isContest _ _ _ r τ hh) (kp_pick [] rfl)) (fun r2 σ1 hK1 => ?_)
  refine fr_bd (fun r τ hh => hK1.tr (fr_fX7_accepts _ _ _ r τ hh) (kp_pick [0] rfl)) (fun r9 σ8 hK2 => ?_)
  refine fr_if (fun _ => ?_) (fun _ => ?_)
  · skip
    exact fr_some hK2
  · skip
    refine fr_bd (fun r τ hh => hK2.tr (fr_fX7_played _ _ _ r τ hh) (kp_pick [1, 2, 3, 4, 5, 6, 7, 8, 9] rfl)) (fun _ σ10 hK3 => ?_)
    refine fr_bd (fun r τ hh => hK3.tr (fr_fX1_isEvenAt _ _ r τ hh) (kp_pick [] rfl)) (fun r12 σ11 hK4 => ?_)
    exact fr_some hK4
theorem fr_fX7_edges (p1 : Int32) (p2 : Int32) (p3 : Int32) (p4 : Int32) (σ : St) : Fr [(7, 0, 1), (1, 0, 1), (12, 0, 6), (10, 0, 1), (31, 0, 0 + 1), (22, 0, 6), (14, 0, 6), (16, 0, 6), (18, 0, 6), (20, 0, 6)] σ (fX7_edges p1 p2 p3 p4 σ) := by
  unfold fX7_edges
  refine fr_bd (fun r τ hh => kp_rf.tr (fr_fX7_hasBoard _ _ r τ hh) (kp_pick [] rfl)) (fun r2 σ1 hK1 => ?_)
  refine fr_bd (fun r τ hh => hK1.tr (fr_fX7_isContest _ _ _ r τ hh) (kp_pick [] rfl)) (fun r9 σ8 hK2 => ?_)
  refine fr_bd (fun r τ hh => hK2.tr (fr_fX7_accepts _ _ _ r τ hh) (kp_pick [0] rfl)) (fun r11 σ10 hK3 => ?_)
  refine fr_if (fun _ => ?_) (fun _ => ?_)
  · skip
    exact fr_some hK3
  · skip
    refine fr_bd (fun r τ hh => hK3.tr (fr_fX7_played _ _ _ r τ hh) (kp_pick [1, 2, 3, 4, 5, 6, 7, 8, 9] rfl)) (fun _ σ12 hK4 => ?_)
    refine fr_bd (fun r τ hh => hK4.tr (fr_fX1_edgesOf _ _ _ r τ hh) (kp_pick [] rfl)) (fun r14 σ13 hK5 => ?_)
    exact fr_some hK5
theorem fr_LX7_filters_28 {S : List (Nat × Nat × Nat)} {σ0 : St} (a2 : Int32) (hs : ∀ e ∈ [(1, 0, 1), (22, 0, 6), (14, 0, 6), (16, 0, 6), (18, 0, 6), (20, 0, 6)], e ∈ S) (ke : St → Option (Int32 × St)) (hke : ∀ (τ : St), Kp S σ0 τ → Fr S σ0 (ke τ)) : ∀ (n : Nat) (b4 : Int32) (σ : St), Kp S σ0 σ → Fr S σ0 (LX7_filters_28 a2 ke n b4 σ) := by
  intro n
  induction n with
  | zero => intros; exact fr_none
  | succ n ih =>
    intro b4 σ hK0
    rw [LX7_filters_28]
    refine fr_if (fun _ => ?_) (fun _ => ?_)
    · skip
      exact hke _ hK0
    · skip
      refine fr_bd (fun r τ hh => hK0.tr (fr_fX1_play _ _ _ _ r τ hh) (kp_sub hs (kp_pick [0, 1, 2, 3, 4, 5] rfl))) (fun _ σ6 hK1 => ?_)
      refine fr_bd (fun r τ hh => hK1.tr (fr_fX1_sureFrom _ r τ hh) (kp_sub hs (kp_pick [] rfl))) (fun r8 σ7 hK2 => ?_)
      refine fr_jn (fun j73 => ∀ (σ9 : St), Kp S σ0 σ9 → Fr S σ0 (j73 σ9)) ?_ ?_
      · intro σ9 hK3
        exact ih _ _ hK3
      · intro j73 hj73
        refine fr_if (fun _ => ?_) (fun _ => ?_)
        · skip
          exact hj73 _ hK2
        · skip
          refine fr_gd (fun _ => ?_)
          refine fr_if (fun _ => ?_) (fun _ => ?_)
          · skip
            exact hj73 _ hK2
          · skip
            exact fr_some hK2
theorem fr_fX7_filters (p1 : Int32) (p2 : Int32) (σ : St) : Fr [(7, 0, 1), (1, 0, 1), (12, 0, 6), (10, 0, 1), (31, 0, 0 + 1), (22, 0, 6), (14, 0, 6), (16, 0, 6), (18, 0, 6), (20, 0, 6)] σ (fX7_filters p1 p2 σ) := by
  unfold fX7_filters
  refine fr_bd (fun r τ hh => kp_rf.tr (fr_fX7_isContest _ _ _ r τ hh) (kp_pick [] rfl)) (fun r2 σ1 hK1 => ?_)
  refine fr_bd (fun r τ hh => hK1.tr (fr_fX7_accepts _ _ _ r τ hh) (kp_pick [0] rfl)) (fun r4 σ3 hK2 => ?_)
  refine fr_if (fun _ => ?_) (fun _ => ?_)
  · skip
    exact fr_some hK2
  · skip
    refine fr_bd (fun r τ hh => hK2.tr (fr_fX7_laid _ _ r τ hh) (kp_pick [1, 2, 3, 4] rfl)) (fun _ σ5 hK3 => ?_)
    refine fr_LX7_filters_28 (S := [(7, 0, 1), (1, 0, 1), (12, 0, 6), (10, 0, 1), (31, 0, 0 + 1), (22, 0, 6), (14, 0, 6), (16, 0, 6), (18, 0, 6), (20, 0, 6)]) _ (kp_pick [1, 5, 6, 7, 8, 9] rfl) _ (fun σ11 hK4 => ?_) FU _ _ hK3
    exact fr_some hK4
theorem fr_LX7_slowest_31 {S : List (Nat × Nat × Nat)} {σ0 : St} (hs : ∀ e ∈ [(1, 0, 1), (22, 0, 6), (14, 0, 6), (16, 0, 6), (18, 0, 6), (20, 0, 6)], e ∈ S) (ke : Int32 → St → Option (Int32 × St)) (hke : ∀ (e0 : Int32) (τ : St), Kp S σ0 τ → Fr S σ0 (ke e0 τ)) : ∀ (n : Nat) (b3 : Int32) (b4 : Int32) (b5 : Int32) (σ : St), Kp S σ0 σ → Fr S σ0 (LX7_slowest_31 ke n b3 b4 b5 σ) := by
  intro n
  induction n with
  | zero => intros; exact fr_none
  | succ n ih =>
    intro b3 b4 b5 σ hK0
    rw [LX7_slowest_31]
    refine fr_gd (fun _ => ?_)
    refine fr_bd (fun r τ hh => hK0.tr (fr_fX2_sets _ _ r τ hh) (kp_sub hs (kp_pick [] rfl))) (fun r6 σ5 hK1 => ?_)
    refine fr_if (fun _ => ?_) (fun _ => ?_)
    · skip
      exact hke _ _ hK1
    · skip
      refine fr_gd (fun _ => ?_)
      refine fr_bd (fun r τ hh => hK1.tr (fr_fX1_play _ _ _ _ r τ hh) (kp_sub hs (kp_pick [0, 1, 2, 3, 4, 5] rfl))) (fun _ σ8 hK2 => ?_)
      refine fr_jn (fun j77 => ∀ (x10 : Int32) (x11 : Int32) (σ9 : St), Kp S σ0 σ9 → Fr S σ0 (j77 x10 x11 σ9)) ?_ ?_
      · intro x10 x11 σ9 hK3
        exact ih _ _ _ _ hK3
      · intro j77 hj77
        refine fr_if (fun _ => ?_) (fun _ => ?_)
        · skip
          exact hj77 _ _ _ hK2
        · skip
          refine fr_ltv (fun x12 => ?_)
          exact hj77 _ _ _ hK2
theorem fr_fX7_slowest (p1 : Int32) (σ : St) : Fr [(7, 0, 1), (1, 0, 1), (12, 0, 6), (10, 0, 1), (31, 0, 0 + 1), (22, 0, 6), (14, 0, 6), (16, 0, 6), (18, 0, 6), (20, 0, 6)] σ (fX7_slowest p1 σ) := by
  unfold fX7_slowest
  refine fr_bd (fun r τ hh => kp_rf.tr (fr_fX7_accepts _ _ _ r τ hh) (kp_pick [0] rfl)) (fun r2 σ1 hK1 => ?_)
  refine fr_if (fun _ => ?_) (fun _ => ?_)
  · skip
    exact fr_some hK1
  · skip
    refine fr_bd (fun r τ hh => hK1.tr (fr_fX7_laid _ _ r τ hh) (kp_pick [1, 2, 3, 4] rfl)) (fun _ σ3 hK2 => ?_)
    refine fr_LX7_slowest_31 (S := [(7, 0, 1), (1, 0, 1), (12, 0, 6), (10, 0, 1), (31, 0, 0 + 1), (22, 0, 6), (14, 0, 6), (16, 0, 6), (18, 0, 6), (20, 0, 6)])  (kp_pick [1, 5, 6, 7, 8, 9] rfl) _ (fun x13 σ14 hK3 => ?_) FU _ _ _ _ hK2
    exact fr_some hK3
theorem fr_LX7_settled_44 {S : List (Nat × Nat × Nat)} {σ0 : St} (a2 : Int32) (hs : ∀ e ∈ [(1, 0, 1), (22, 0, 6), (14, 0, 6), (16, 0, 6), (18, 0, 6), (20, 0, 6)], e ∈ S) (ke : Int32 → St → Option (Int32 × St)) (hke : ∀ (e0 : Int32) (τ : St), Kp S σ0 τ → Fr S σ0 (ke e0 τ)) : ∀ (n : Nat) (b4 : Int32) (b5 : Int32) (σ : St), Kp S σ0 σ → Fr S σ0 (LX7_settled_44 a2 ke n b4 b5 σ) := by
  intro n
  induction n with
  | zero => intros; exact fr_none
  | succ n ih =>
    intro b4 b5 σ hK0
    rw [LX7_settled_44]
    refine fr_gd (fun _ => ?_)
    refine fr_bd (fun r τ hh => hK0.tr (fr_fX2_sets _ _ r τ hh) (kp_sub hs (kp_pick [] rfl))) (fun r11 σ10 hK1 => ?_)
    refine fr_if (fun _ => ?_) (fun _ => ?_)
    · skip
      exact hke _ _ hK1
    · skip
      refine fr_gd (fun _ => ?_)
      refine fr_bd (fun r τ hh => hK1.tr (fr_fX1_play _ _ _ _ r τ hh) (kp_sub hs (kp_pick [0, 1, 2, 3, 4, 5] rfl))) (fun _ σ13 hK2 => ?_)
      refine fr_jn (fun j83 => ∀ (x15 : Int32) (σ14 : St), Kp S σ0 σ14 → Fr S σ0 (j83 x15 σ14)) ?_ ?_
      · intro x15 σ14 hK3
        exact ih _ _ _ hK3
      · intro j83 hj83
        refine fr_if (fun _ => ?_) (fun _ => ?_)
        · skip
          exact hj83 _ _ hK2
        · skip
          exact hj83 _ _ hK2
theorem fr_fX7_settled (p1 : Int32) (p2 : Int32) (σ : St) : Fr [(7, 0, 1), (1, 0, 1), (12, 0, 6), (10, 0, 1), (31, 0, 0 + 1), (22, 0, 6), (14, 0, 6), (16, 0, 6), (18, 0, 6), (20, 0, 6)] σ (fX7_settled p1 p2 σ) := by
  unfold fX7_settled
  refine fr_bd (fun r τ hh => kp_rf.tr (fr_fX7_accepts _ _ _ r τ hh) (kp_pick [0] rfl)) (fun r7 σ6 hK1 => ?_)
  refine fr_if (fun _ => ?_) (fun _ => ?_)
  · skip
    exact fr_some hK1
  · skip
    refine fr_bd (fun r τ hh => hK1.tr (fr_fX7_laid _ _ r τ hh) (kp_pick [1, 2, 3, 4] rfl)) (fun _ σ8 hK2 => ?_)
    refine fr_LX7_settled_44 (S := [(7, 0, 1), (1, 0, 1), (12, 0, 6), (10, 0, 1), (31, 0, 0 + 1), (22, 0, 6), (14, 0, 6), (16, 0, 6), (18, 0, 6), (20, 0, 6)]) _ (kp_pick [1, 5, 6, 7, 8, 9] rfl) _ (fun x16 σ17 hK3 => ?_) FU _ _ _ hK2
    exact fr_some hK3
theorem fr_LX7_enough_28 {S : List (Nat × Nat × Nat)} {σ0 : St} (hs : ∀ e ∈ [(1, 0, 1), (22, 0, 6), (14, 0, 6), (16, 0, 6), (18, 0, 6), (20, 0, 6)], e ∈ S) (ke : Int32 → St → Option (Int32 × St)) (hke : ∀ (e0 : Int32) (τ : St), Kp S σ0 τ → Fr S σ0 (ke e0 τ)) : ∀ (n : Nat) (b3 : Int32) (b4 : Int32) (σ : St), Kp S σ0 σ → Fr S σ0 (LX7_enough_28 ke n b3 b4 σ) := by
  intro n
  induction n with
  | zero => intros; exact fr_none
  | succ n ih =>
    intro b3 b4 σ hK0
    rw [LX7_enough_28]
    refine fr_gd (fun _ => ?_)
    refine fr_bd (fun r τ hh => hK0.tr (fr_fX2_sets _ _ r τ hh) (kp_sub hs (kp_pick [] rfl))) (fun r6 σ5 hK1 => ?_)
    refine fr_if (fun _ => ?_) (fun _ => ?_)
    · skip
      exact hke _ _ hK1
    · skip
      refine fr_gd (fun _ => ?_)
      refine fr_bd (fun r τ hh => hK1.tr (fr_fX1_play _ _ _ _ r τ hh) (kp_sub hs (kp_pick [0, 1, 2, 3, 4, 5] rfl))) (fun _ σ8 hK2 => ?_)
      refine fr_bd (fun r τ hh => hK2.tr (fr_fX1_sureFrom _ r τ hh) (kp_sub hs (kp_pick [] rfl))) (fun r10 σ9 hK3 => ?_)
      refine fr_if (fun _ => ?_) (fun _ => ?_)
      · skip
        exact fr_some hK3
      · skip
        refine fr_ltv (fun x11 => ?_)
        exact ih _ _ _ hK3
theorem fr_fX7_enough (p1 : Int32) (σ : St) : Fr [(7, 0, 1), (1, 0, 1), (12, 0, 6), (10, 0, 1), (31, 0, 0 + 1), (22, 0, 6), (14, 0, 6), (16, 0, 6), (18, 0, 6), (20, 0, 6)] σ (fX7_enough p1 σ) := by
  unfold fX7_enough
  refine fr_bd (fun r τ hh => kp_rf.tr (fr_fX7_accepts _ _ _ r τ hh) (kp_pick [0] rfl)) (fun r2 σ1 hK1 => ?_)
  refine fr_if (fun _ => ?_) (fun _ => ?_)
  · skip
    exact fr_some hK1
  · skip
    refine fr_bd (fun r τ hh => hK1.tr (fr_fX7_laid _ _ r τ hh) (kp_pick [1, 2, 3, 4] rfl)) (fun _ σ3 hK2 => ?_)
    refine fr_LX7_enough_28 (S := [(7, 0, 1), (1, 0, 1), (12, 0, 6), (10, 0, 1), (31, 0, 0 + 1), (22, 0, 6), (14, 0, 6), (16, 0, 6), (18, 0, 6), (20, 0, 6)])  (kp_pick [1, 5, 6, 7, 8, 9] rfl) _ (fun x12 σ13 hK3 => ?_) FU _ _ _ hK2
    exact fr_some hK3
theorem fr_fX7_would (p1 : Int32) (σ : St) : Fr [(7, 0, 1), (31, 0, 0 + 1), (1, 0, 1), (12, 0, 6), (10, 0, 1), (22, 0, 6), (14, 0, 6), (16, 0, 6), (18, 0, 6), (20, 0, 6), (0, 0, 1)] σ (fX7_would p1 σ) := by
  unfold fX7_would
  refine fr_bd (fun r τ hh => kp_rf.tr (fr_fX7_isSet _ _ r τ hh) (kp_pick [] rfl)) (fun r2 σ1 hK1 => ?_)
  refine fr_bd (fun r τ hh => hK1.tr (fr_fX7_accepts _ _ _ r τ hh) (kp_pick [0] rfl)) (fun r4 σ3 hK2 => ?_)
  refine fr_if (fun _ => ?_) (fun _ => ?_)
  · skip
    exact fr_some hK2
  · skip
    refine fr_bd (fun r τ hh => hK2.tr (fr_fX4_rankWords _ _ r τ hh) (kp_pick [1] rfl)) (fun _ σ5 hK3 => ?_)
    refine fr_bd (fun r τ hh => hK3.tr (fr_fX0_decide _ _ _ _ _ r τ hh) (kp_pick [2, 3, 4, 5, 6, 7, 8, 9, 10] rfl)) (fun _ σ6 hK4 => ?_)
    exact fr_some hK4
theorem fr_fX7_now (p1 : Int32) (σ : St) : Fr [(7, 0, 1)] σ (fX7_now p1 σ) := by
  unfold fX7_now
  refine fr_jn (fun j16 => ∀ (σ1 : St), Kp ([(7, 0, 1)]) σ σ1 → Fr ([(7, 0, 1)]) σ (j16 σ1)) ?_ ?_
  · intro σ1 hK1
    refine fr_bd (fun r τ hh => hK1.tr (fr_fX7_refused _ _ r τ hh) (kp_pick [0] rfl)) (fun r3 σ2 hK2 => ?_)
    exact fr_some hK2
  · intro j16 hj16
    refine fr_if (fun _ => ?_) (fun _ => ?_)
    · skip
      exact hj16 _ kp_rf
    · skip
      refine fr_if (fun _ => ?_) (fun _ => ?_)
      · skip
        exact hj16 _ kp_rf
      · skip
        refine fr_bd (fun r τ hh => kp_rf.tr (fr_fX4_state _ _ _ r τ hh) (kp_pick [] rfl)) (fun r5 σ4 hK3 => ?_)
        refine fr_bd (fun r τ hh => hK3.tr (fr_fX7_accepted _ _ r τ hh) (kp_pick [0] rfl)) (fun r7 σ6 hK4 => ?_)
        exact fr_some hK4
theorem fr_fX7_ledger (p1 : Int32) (p2 : Int32) (σ : St) : Fr [(7, 0, 1)] σ (fX7_ledger p1 p2 σ) := by
  unfold fX7_ledger
  refine fr_bd (fun r τ hh => kp_rf.tr (fr_fX7_hasBoard _ _ r τ hh) (kp_pick [] rfl)) (fun r2 σ1 hK1 => ?_)
  refine fr_jn (fun j17 => ∀ (σ3 : St), Kp ([(7, 0, 1)]) σ σ3 → Fr ([(7, 0, 1)]) σ (j17 σ3)) ?_ ?_
  · intro σ3 hK2
    refine fr_bd (fun r τ hh => hK2.tr (fr_fX7_refused _ _ r τ hh) (kp_pick [0] rfl)) (fun r5 σ4 hK3 => ?_)
    exact fr_some hK3
  · intro j17 hj17
    refine fr_if (fun _ => ?_) (fun _ => ?_)
    · skip
      exact hj17 _ hK1
    · skip
      refine fr_if (fun _ => ?_) (fun _ => ?_)
      · skip
        exact hj17 _ hK1
      · skip
        refine fr_bd (fun r τ hh => hK1.tr (fr_fX5_account _ _ _ _ r τ hh) (kp_pick [] rfl)) (fun r7 σ6 hK4 => ?_)
        refine fr_bd (fun r τ hh => hK4.tr (fr_fX7_accepted _ _ r τ hh) (kp_pick [0] rfl)) (fun r9 σ8 hK5 => ?_)
        exact fr_some hK5
theorem fr_fX7_log (p1 : Int32) (p2 : Int32) (σ : St) : Fr [(7, 0, 1)] σ (fX7_log p1 p2 σ) := by
  unfold fX7_log
  refine fr_jn (fun j33 => ∀ (σ1 : St), Kp ([(7, 0, 1)]) σ σ1 → Fr ([(7, 0, 1)]) σ (j33 σ1)) ?_ ?_
  · intro σ1 hK1
    refine fr_bd (fun r τ hh => hK1.tr (fr_fX7_refused _ _ r τ hh) (kp_pick [0] rfl)) (fun r3 σ2 hK2 => ?_)
    exact fr_some hK2
  · intro j33 hj33
    refine fr_if (fun _ => ?_) (fun _ => ?_)
    · skip
      exact hj33 _ kp_rf
    · skip
      refine fr_bd (fun r τ hh => kp_rf.tr (fr_fX5_logged _ _ r τ hh) (kp_pick [] rfl)) (fun r5 σ4 hK3 => ?_)
      refine fr_if (fun _ => ?_) (fun _ => ?_)
      · skip
        exact hj33 _ hK3
      · skip
        refine fr_if (fun _ => ?_) (fun _ => ?_)
        · skip
          exact hj33 _ hK3
        · skip
          refine fr_bd (fun r τ hh => hK3.tr (fr_fX5_entry _ _ _ _ r τ hh) (kp_pick [] rfl)) (fun r7 σ6 hK4 => ?_)
          refine fr_bd (fun r τ hh => hK4.tr (fr_fX7_accepted _ _ r τ hh) (kp_pick [0] rfl)) (fun r9 σ8 hK5 => ?_)
          exact fr_some hK5
theorem fr_fX7_past (p1 : Int32) (σ : St) : Fr [(7, 0, 1)] σ (fX7_past p1 σ) := by
  unfold fX7_past
  refine fr_bd (fun r τ hh => kp_rf.tr (fr_fX7_accepts _ _ _ r τ hh) (kp_pick [0] rfl)) (fun r2 σ1 hK1 => ?_)
  refine fr_if (fun _ => ?_) (fun _ => ?_)
  · skip
    exact fr_some hK1
  · skip
    refine fr_bd (fun r τ hh => hK1.tr (fr_fX5_masterAt _ _ _ r τ hh) (kp_pick [] rfl)) (fun r4 σ3 hK2 => ?_)
    exact fr_some hK2
theorem fr_fX7_idle (σ : St) : Fr [(7, 0, 1)] σ (fX7_idle σ) := by
  unfold fX7_idle
  refine fr_if (fun _ => ?_) (fun _ => ?_)
  · skip
    refine fr_bd (fun r τ hh => kp_rf.tr (fr_fX7_refused _ _ r τ hh) (kp_pick [0] rfl)) (fun r6 σ5 hK1 => ?_)
    exact fr_some hK1
  · skip
    refine fr_bd (fun r τ hh => kp_rf.tr (fr_fX5_idleTicks _ _ _ r τ hh) (kp_pick [] rfl)) (fun r2 σ1 hK2 => ?_)
    refine fr_bd (fun r τ hh => hK2.tr (fr_fX7_accepted _ _ r τ hh) (kp_pick [0] rfl)) (fun r4 σ3 hK3 => ?_)
    exact fr_some hK3
theorem fr_fX7_waiting (p1 : Int32) (σ : St) : Fr [(7, 0, 1)] σ (fX7_waiting p1 σ) := by
  unfold fX7_waiting
  refine fr_bd (fun r τ hh => kp_rf.tr (fr_fX7_hasBoard _ _ r τ hh) (kp_pick [] rfl)) (fun r2 σ1 hK1 => ?_)
  refine fr_if (fun _ => ?_) (fun _ => ?_)
  · skip
    refine fr_bd (fun r τ hh => hK1.tr (fr_fX7_refused _ _ r τ hh) (kp_pick [0] rfl)) (fun r8 σ7 hK2 => ?_)
    exact fr_some hK2
  · skip
    refine fr_bd (fun r τ hh => hK1.tr (fr_fX4_waitersOf _ _ _ r τ hh) (kp_pick [] rfl)) (fun r4 σ3 hK3 => ?_)
    refine fr_bd (fun r τ hh => hK3.tr (fr_fX7_accepted _ _ r τ hh) (kp_pick [0] rfl)) (fun r6 σ5 hK4 => ?_)
    exact fr_some hK4
theorem fr_fX7_longest (σ : St) : Fr [(7, 0, 1)] σ (fX7_longest σ) := by
  unfold fX7_longest
  refine fr_if (fun _ => ?_) (fun _ => ?_)
  · skip
    refine fr_bd (fun r τ hh => kp_rf.tr (fr_fX7_refused _ _ r τ hh) (kp_pick [0] rfl)) (fun r6 σ5 hK1 => ?_)
    exact fr_some hK1
  · skip
    refine fr_bd (fun r τ hh => kp_rf.tr (fr_fX4_longestAsking _ _ r τ hh) (kp_pick [] rfl)) (fun r2 σ1 hK2 => ?_)
    refine fr_bd (fun r τ hh => hK2.tr (fr_fX7_accepted _ _ r τ hh) (kp_pick [0] rfl)) (fun r4 σ3 hK3 => ?_)
    exact fr_some hK3
theorem fr_fX7_will (p1 : Int32) (p2 : Int32) (σ : St) : Fr [(7, 0, 1), (4, 1, 1 + 1), (32, 1, 1 + 1), (33, 1, 1 + 1), (34, 1, 1 + 1), (35, 1, 1 + 1), (36, 1, 1 + 1), (5, 1, 1 + 1), (38, 6 * 1, 6 * 1 + 6), (40, 16 * 1, 16 * 1 + 16), (41, 1, 1 + 1), (31, 1, 1 + 1), (1, 0, 1), (12, 0, 6), (10, 0, 1), (22, 0, 6), (14, 0, 6), (16, 0, 6), (18, 0, 6), (20, 0, 6), (0, 0, 1)] σ (fX7_will p1 p2 σ) := by
  unfold fX7_will
  refine fr_bd (fun r τ hh => kp_rf.tr (fr_fX7_accepts _ _ _ r τ hh) (kp_pick [0] rfl)) (fun r7 σ6 hK1 => ?_)
  refine fr_if (fun _ => ?_) (fun _ => ?_)
  · skip
    exact fr_some hK1
  · skip
    refine fr_bd (fun r τ hh => hK1.tr (fr_fX4_copy _ _ _ r τ hh) (kp_pick [1, 2, 3, 4, 5, 6, 7, 8, 9, 10] rfl)) (fun _ σ8 hK2 => ?_)
    refine fr_bd (fun r τ hh => hK2.tr (fr_fX4_advance _ _ _ r τ hh) (kp_pick [1, 8, 4, 5, 10, 11, 2, 12, 13, 14, 15, 16, 17, 18, 19, 20, 9, 7] rfl)) (fun _ σ9 hK3 => ?_)
    refine fr_bd (fun r τ hh => hK3.tr (fr_fX4_state _ _ _ r τ hh) (kp_pick [] rfl)) (fun r11 σ10 hK4 => ?_)
    exact fr_some hK4
theorem fr_fX7_till (p1 : Int32) (σ : St) : Fr [(7, 0, 1), (4, 1, 1 + 1), (32, 1, 1 + 1), (33, 1, 1 + 1), (34, 1, 1 + 1), (35, 1, 1 + 1), (36, 1, 1 + 1), (5, 1, 1 + 1), (38, 6 * 1, 6 * 1 + 6), (40, 16 * 1, 16 * 1 + 16), (41, 1, 1 + 1), (31, 1, 1 + 1), (1, 0, 1), (12, 0, 6), (10, 0, 1), (22, 0, 6), (14, 0, 6), (16, 0, 6), (18, 0, 6), (20, 0, 6), (0, 0, 1)] σ (fX7_till p1 σ) := by
  unfold fX7_till
  refine fr_bd (fun r τ hh => kp_rf.tr (fr_fX7_hasBoard _ _ r τ hh) (kp_pick [] rfl)) (fun r2 σ1 hK1 => ?_)
  refine fr_if (fun _ => ?_) (fun _ => ?_)
  · skip
    refine fr_bd (fun r τ hh => hK1.tr (fr_fX7_refused _ _ r τ hh) (kp_pick [0] rfl)) (fun r9 σ8 hK2 => ?_)
    exact fr_some hK2
  · skip
    refine fr_bd (fun r τ hh => hK1.tr (fr_fX4_copy _ _ _ r τ hh) (kp_pick [1, 2, 3, 4, 5, 6, 7, 8, 9, 10] rfl)) (fun _ σ3 hK3 => ?_)
    refine fr_bd (fun r τ hh => hK3.tr (fr_fX4_ticksToMaster _ _ _ r τ hh) (kp_pick [1, 8, 4, 5, 10, 11, 2, 12, 13, 14, 15, 16, 17, 18, 19, 20, 9, 7] rfl)) (fun r5 σ4 hK4 => ?_)
    refine fr_bd (fun r τ hh => hK4.tr (fr_fX7_accepted _ _ r τ hh) (kp_pick [0] rfl)) (fun r7 σ6 hK5 => ?_)
    exact fr_some hK5
theorem fr_fX7_ask (p1 : Int32) (p2 : Int32) (σ : St) : Fr [(7, 0, 1), (38, 6 * 0, 6 * 0 + 6), (34, 0, 0 + 1), (35, 0, 0 + 1)] σ (fX7_ask p1 p2 σ) := by
  unfold fX7_ask
  refine fr_bd (fun r τ hh => kp_rf.tr (fr_fX7_hasBoard _ _ r τ hh) (kp_pick [] rfl)) (fun r2 σ1 hK1 => ?_)
  refine fr_if (fun _ => ?_) (fun _ => ?_)
  · skip
    refine fr_bd (fun r τ hh => hK1.tr (fr_fX7_refused _ _ r τ hh) (kp_pick [0] rfl)) (fun r17 σ16 hK2 => ?_)
    exact fr_some hK2
  · skip
    refine fr_jn (fun j25 => ∀ (σ3 : St), Kp ([(7, 0, 1), (38, 6 * 0, 6 * 0 + 6), (34, 0, 0 + 1), (35, 0, 0 + 1)]) σ σ3 → Fr ([(7, 0, 1), (38, 6 * 0, 6 * 0 + 6), (34, 0, 0 + 1), (35, 0, 0 + 1)]) σ (j25 σ3)) ?_ ?_
    · intro σ3 hK3
      refine fr_bd (fun r τ hh => hK3.tr (fr_fX7_refused _ _ r τ hh) (kp_pick [0] rfl)) (fun r5 σ4 hK4 => ?_)
      exact fr_some hK4
    · intro j25 hj25
      refine fr_if (fun _ => ?_) (fun _ => ?_)
      · skip
        exact hj25 _ hK1
      · skip
        refine fr_if (fun _ => ?_) (fun _ => ?_)
        · skip
          refine fr_bd (fun r τ hh => hK1.tr (fr_fX4_hear _ _ _ _ r τ hh) (kp_pick [1, 2, 3] rfl)) (fun r7 σ6 hK5 => ?_)
          refine fr_if (fun _ => ?_) (fun _ => ?_)
          · skip
            refine fr_bd (fun r τ hh => hK5.tr (fr_fX7_refused _ _ r τ hh) (kp_pick [0] rfl)) (fun r15 σ14 hK6 => ?_)
            exact fr_some hK6
          · skip
            refine fr_bd (fun r τ hh => hK5.tr (fr_fX4_askers _ _ r τ hh) (kp_pick [] rfl)) (fun r9 σ8 hK7 => ?_)
            refine fr_bd (fun r τ hh => hK7.tr (fr_fJ6_bitCount_0f7a4 _ _ r τ hh) (kp_pick [] rfl)) (fun r11 σ10 hK8 => ?_)
            refine fr_bd (fun r τ hh => hK8.tr (fr_fX7_accepted _ _ r τ hh) (kp_pick [0] rfl)) (fun r13 σ12 hK9 => ?_)
            exact fr_some hK9
        · skip
          exact hj25 _ hK1
theorem fr_fX7_waits (p1 : Int32) (p2 : Int32) (σ : St) : Fr [(7, 0, 1), (36, 0, 0 + 1)] σ (fX7_waits p1 p2 σ) := by
  unfold fX7_waits
  refine fr_bd (fun r τ hh => kp_rf.tr (fr_fX7_hasBoard _ _ r τ hh) (kp_pick [] rfl)) (fun r2 σ1 hK1 => ?_)
  refine fr_if (fun _ => ?_) (fun _ => ?_)
  · skip
    refine fr_bd (fun r τ hh => hK1.tr (fr_fX7_refused _ _ r τ hh) (kp_pick [0] rfl)) (fun r22 σ21 hK2 => ?_)
    exact fr_some hK2
  · skip
    refine fr_jn (fun j32 => ∀ (σ3 : St), Kp ([(7, 0, 1), (36, 0, 0 + 1)]) σ σ3 → Fr ([(7, 0, 1), (36, 0, 0 + 1)]) σ (j32 σ3)) ?_ ?_
    · intro σ3 hK3
      refine fr_bd (fun r τ hh => hK3.tr (fr_fX7_refused _ _ r τ hh) (kp_pick [0] rfl)) (fun r5 σ4 hK4 => ?_)
      exact fr_some hK4
    · intro j32 hj32
      refine fr_if (fun _ => ?_) (fun _ => ?_)
      · skip
        exact hj32 _ hK1
      · skip
        refine fr_jn (fun j38 => ∀ (σ6 : St), Kp ([(7, 0, 1), (36, 0, 0 + 1)]) σ σ6 → Fr ([(7, 0, 1), (36, 0, 0 + 1)]) σ (j38 σ6)) ?_ ?_
        · intro σ6 hK5
          refine fr_jn (fun j64 => ∀ (σ7 : St), Kp ([(7, 0, 1), (36, 0, 0 + 1)]) σ σ7 → Fr ([(7, 0, 1), (36, 0, 0 + 1)]) σ (j64 σ7)) ?_ ?_
          · intro σ7 hK6
            refine fr_bd (fun r τ hh => hK6.tr (fr_fX4_letWait _ _ _ _ r τ hh) (kp_pick [1] rfl)) (fun r12 σ11 hK7 => ?_)
            refine fr_bd (fun r τ hh => hK7.tr (fr_fX7_accepted _ _ r τ hh) (kp_pick [0] rfl)) (fun r14 σ13 hK8 => ?_)
            exact fr_some hK8
          · intro j64 hj64
            refine fr_if (fun _ => ?_) (fun _ => ?_)
            · skip
              exact hj64 _ hK5
            · skip
              refine fr_bd (fun r τ hh => hK5.tr (fr_fX4_waitersOf _ _ _ r τ hh) (kp_pick [] rfl)) (fun r16 σ15 hK9 => ?_)
              refine fr_if (fun _ => ?_) (fun _ => ?_)
              · skip
                exact hj64 _ hK9
              · skip
                refine fr_bd (fun r τ hh => hK9.tr (fr_fX7_refused _ _ r τ hh) (kp_pick [0] rfl)) (fun r18 σ17 hK10 => ?_)
                exact fr_some hK10
        · intro j38 hj38
          refine fr_if (fun _ => ?_) (fun _ => ?_)
          · skip
            exact hj38 _ hK1
          · skip
            refine fr_bd (fun r τ hh => hK1.tr (fr_fX7_hasBoard _ _ r τ hh) (kp_pick [] rfl)) (fun r20 σ19 hK11 => ?_)
            refine fr_if (fun _ => ?_) (fun _ => ?_)
            · skip
              exact hj32 _ hK11
            · skip
              exact hj38 _ hK11
theorem fr_fX7_stick (p1 : Int32) (p2 : Int32) (σ : St) : Fr [(7, 0, 1), (33, 0, 0 + 1)] σ (fX7_stick p1 p2 σ) := by
  unfold fX7_stick
  refine fr_jn (fun j22 => ∀ (x2 : Int32) (σ1 : St), Kp ([(7, 0, 1), (33, 0, 0 + 1)]) σ σ1 → Fr ([(7, 0, 1), (33, 0, 0 + 1)]) σ (j22 x2 σ1)) ?_ ?_
  · intro x2 σ1 hK1
    refine fr_bd (fun r τ hh => hK1.tr (fr_fX7_accepts _ _ _ r τ hh) (kp_pick [0] rfl)) (fun r9 σ8 hK2 => ?_)
    refine fr_if (fun _ => ?_) (fun _ => ?_)
    · skip
      exact fr_some hK2
    · skip
      refine fr_bd (fun r τ hh => hK2.tr (fr_fX4_letLine _ _ _ _ r τ hh) (kp_pick [1] rfl)) (fun r11 σ10 hK3 => ?_)
      exact fr_some hK3
  · intro j22 hj22
    refine fr_jn (fun j21 => ∀ (σ12 : St), Kp ([(7, 0, 1), (33, 0, 0 + 1)]) σ σ12 → Fr ([(7, 0, 1), (33, 0, 0 + 1)]) σ (j21 σ12)) ?_ ?_
    · intro σ12 hK4
      exact hj22 _ _ hK4
    · intro j21 hj21
      refine fr_if (fun _ => ?_) (fun _ => ?_)
      · skip
        exact hj21 _ kp_rf
      · skip
        refine fr_if (fun _ => ?_) (fun _ => ?_)
        · skip
          exact hj21 _ kp_rf
        · skip
          exact hj22 _ _ kp_rf
theorem fr_fX7_ticks (p1 : Int32) (σ : St) : Fr [(7, 0, 1), (4, 0, 0 + 1), (38, 6 * 0, 6 * 0 + 6), (34, 0, 0 + 1), (35, 0, 0 + 1), (41, 0, 0 + 1), (31, 0, 0 + 1), (32, 0, 0 + 1), (1, 0, 1), (12, 0, 6), (10, 0, 1), (22, 0, 6), (14, 0, 6), (16, 0, 6), (18, 0, 6), (20, 0, 6), (0, 0, 1), (40, 16 * 0, 16 * 0 + 16), (5, 0, 0 + 1)] σ (fX7_ticks p1 σ) := by
  unfold fX7_ticks
  refine fr_bd (fun r τ hh => kp_rf.tr (fr_fX7_accepts _ _ _ r τ hh) (kp_pick [0] rfl)) (fun r2 σ1 hK1 => ?_)
  refine fr_if (fun _ => ?_) (fun _ => ?_)
  · skip
    exact fr_some hK1
  · skip
    refine fr_bd (fun r τ hh => hK1.tr (fr_fX4_advance _ _ _ r τ hh) (kp_pick [1, 2, 3, 4, 5, 6, 7, 8, 9, 10, 11, 12, 13, 14, 15, 16, 17, 18] rfl)) (fun _ σ3 hK2 => ?_)
    exact fr_some hK2
theorem fr_fX7_keep (σ : St) : Fr [(7, 0, 1), (4, 2, 2 + 1), (32, 2, 2 + 1), (33, 2, 2 + 1), (34, 2, 2 + 1), (35, 2, 2 + 1), (36, 2, 2 + 1), (5, 2, 2 + 1), (38, 6 * 2, 6 * 2 + 6), (40, 16 * 2, 16 * 2 + 16), (41, 2, 2 + 1)] σ (fX7_keep σ) := by
  unfold fX7_keep
  refine fr_if (fun _ => ?_) (fun _ => ?_)
  · skip
    refine fr_lts (kp_rf.wI (fr_m 0 rfl (by omega) (by omega))) (fun σ4 hK1 => ?_)
    exact fr_some hK1
  · skip
    refine fr_bd (fun r τ hh => kp_rf.tr (fr_fX4_copy _ _ _ r τ hh) (kp_pick [1, 2, 3, 4, 5, 6, 7, 8, 9, 10] rfl)) (fun _ σ1 hK2 => ?_)
    refine fr_gd (fun _ => ?_)
    refine fr_lts (hK2.wI (fr_m 0 rfl (by omega) (by omega))) (fun σ2 hK3 => ?_)
    refine fr_lts (hK3.wI (fr_m 0 rfl (by omega) (by omega))) (fun σ3 hK4 => ?_)
    exact fr_some hK4
theorem fr_fX7_back (σ : St) : Fr [(7, 0, 1), (4, 0, 0 + 1), (32, 0, 0 + 1), (33, 0, 0 + 1), (34, 0, 0 + 1), (35, 0, 0 + 1), (36, 0, 0 + 1), (5, 0, 0 + 1), (38, 6 * 0, 6 * 0 + 6), (40, 16 * 0, 16 * 0 + 16), (41, 0, 0 + 1)] σ (fX7_back σ) := by
  unfold fX7_back
  refine fr_if (fun _ => ?_) (fun _ => ?_)
  · skip
    refine fr_lts (kp_rf.wI (fr_m 0 rfl (by omega) (by omega))) (fun σ3 hK1 => ?_)
    exact fr_some hK1
  · skip
    refine fr_bd (fun r τ hh => kp_rf.tr (fr_fX4_copy _ _ _ r τ hh) (kp_pick [1, 2, 3, 4, 5, 6, 7, 8, 9, 10] rfl)) (fun _ σ1 hK2 => ?_)
    refine fr_lts (hK2.wI (fr_m 0 rfl (by omega) (by omega))) (fun σ2 hK3 => ?_)
    exact fr_some hK3
theorem fr_fX7_trouble (σ : St) : Fr ([] : List (Nat × Nat × Nat)) σ (fX7_trouble σ) := by
  unfold fX7_trouble
  exact fr_some kp_rf
theorem fr_fX7_size (p1 : Int32) (σ : St) : Fr ([] : List (Nat × Nat × Nat)) σ (fX7_size p1 σ) := by
  unfold fX7_size
  refine fr_if (fun _ => ?_) (fun _ => ?_)
  · skip
    exact fr_some kp_rf
  · skip
    refine fr_if (fun _ => ?_) (fun _ => ?_)
    · skip
      refine fr_if (fun _ => ?_) (fun _ => ?_)
      · skip
        exact fr_some kp_rf
      · skip
        refine fr_bd (fun r τ hh => kp_rf.tr (fr_fX4_asksToCome _ _ r τ hh) (kp_pick [] rfl)) (fun r4 σ3 hK1 => ?_)
        exact fr_some hK1
    · skip
      refine fr_if (fun _ => ?_) (fun _ => ?_)
      · skip
        exact fr_some kp_rf
      · skip
        refine fr_if (fun _ => ?_) (fun _ => ?_)
        · skip
          refine fr_if (fun _ => ?_) (fun _ => ?_)
          · skip
            exact fr_some kp_rf
          · skip
            refine fr_bd (fun r τ hh => kp_rf.tr (fr_fX4_hurtLines _ _ r τ hh) (kp_pick [] rfl)) (fun r11 σ10 hK2 => ?_)
            exact fr_some hK2
        · skip
          exact fr_some kp_rf
theorem fr_LX3_packed_4 {S : List (Nat × Nat × Nat)} {σ0 : St} (s0 : Nat) (hs : ∀ e ∈ ([] : List (Nat × Nat × Nat)), e ∈ S) (ke : Int32 → St → Option (Int32 × St)) (hke : ∀ (e0 : Int32) (τ : St), Kp S σ0 τ → Fr S σ0 (ke e0 τ)) : ∀ (n : Nat) (b1 : Int32) (b2 : Int32) (σ : St), Kp S σ0 σ → Fr S σ0 (LX3_packed_4 s0 ke n b1 b2 σ) := by
  intro n
  induction n with
  | zero => intros; exact fr_none
  | succ n ih =>
    intro b1 b2 σ hK0
    rw [LX3_packed_4]
    refine fr_if (fun _ => ?_) (fun _ => ?_)
    · skip
      exact hke _ _ hK0
    · skip
      refine fr_gi (fun hv1 => ?_)
      refine fr_ltv (fun x1 => ?_)
      exact ih _ _ _ hK0
theorem fr_fX3_packed (s0 : Nat) (σ : St) : Fr ([] : List (Nat × Nat × Nat)) σ (fX3_packed s0 σ) := by
  unfold fX3_packed
  refine fr_LX3_packed_4 (S := []) _ (kp_pick [] rfl) _ (fun x2 σ3 hK1 => ?_) FU _ _ _ kp_rf
  exact fr_some hK1
theorem fr_fX3_isWord (s1 : Nat) (σ : St) : Fr ([] : List (Nat × Nat × Nat)) σ (fX3_isWord s1 σ) := by
  unfold fX3_isWord
  refine fr_if (fun _ => ?_) (fun _ => ?_)
  · skip
    refine fr_bd (fun r τ hh => kp_rf.tr (fr_fX3_packed _ _ r τ hh) (kp_pick [] rfl)) (fun r2 σ1 hK1 => ?_)
    exact fr_rz hK1
  · skip
    exact fr_some kp_rf
theorem fr_fX3_keyword (s1 : Nat) (σ : St) : Fr [(3, 0, 1)] σ (fX3_keyword s1 σ) := by
  unfold fX3_keyword
  refine fr_bd (fun r τ hh => kp_rf.tr (fr_fX3_step _ r τ hh) (kp_pick [0] rfl)) (fun _ σ1 hK1 => ?_)
  refine fr_bd (fun r τ hh => hK1.tr (fr_fX3_isWord _ _ r τ hh) (kp_pick [] rfl)) (fun r3 σ2 hK2 => ?_)
  refine fr_jn (fun j20 => ∀ (σ4 : St), Kp ([(3, 0, 1)]) σ σ4 → Fr ([(3, 0, 1)]) σ (j20 σ4)) ?_ ?_
  · intro σ4 hK3
    exact fr_some hK3
  · intro j20 hj20
    refine fr_if (fun _ => ?_) (fun _ => ?_)
    · skip
      refine fr_bd (fun r τ hh => hK2.tr (fr_fX3_fail _ _ r τ hh) (kp_pick [0] rfl)) (fun r6 σ5 hK4 => ?_)
      refine fr_if (fun _ => ?_) (fun _ => ?_)
      · skip
        exact fr_some hK4
      · skip
        exact hj20 _ hK4
    · skip
      exact hj20 _ hK2
theorem fr_fX3_readHead (σ : St) : Fr [(2, 0, 6), (3, 0, 1)] σ (fX3_readHead σ) := by
  unfold fX3_readHead
  refine fr_gd (fun _ => ?_)
  refine fr_gd (fun _ => ?_)
  refine fr_lts (kp_rf.wI (fr_m 0 rfl (by omega) (by omega))) (fun σ2 hK1 => ?_)
  refine fr_bd (fun r τ hh => hK1.tr (fr_fX3_keyword _ _ r τ hh) (kp_pick [1] rfl)) (fun r4 σ3 hK2 => ?_)
  refine fr_if (fun _ => ?_) (fun _ => ?_)
  · skip
    exact fr_some hK2
  · skip
    refine fr_bd (fun r τ hh => hK2.tr (fr_fX3_whole _ _ _ r τ hh) (kp_pick [1] rfl)) (fun r6 σ5 hK3 => ?_)
    refine fr_if (fun _ => ?_) (fun _ => ?_)
    · skip
      exact fr_some hK3
    · skip
      refine fr_gd (fun _ => ?_)
      refine fr_lts (hK3.wI (fr_m 0 rfl (by omega) (by omega))) (fun σ8 hK4 => ?_)
      refine fr_bd (fun r τ hh => hK4.tr (fr_fX3_keyword _ _ r τ hh) (kp_pick [1] rfl)) (fun r10 σ9 hK5 => ?_)
      refine fr_if (fun _ => ?_) (fun _ => ?_)
      · skip
        exact fr_some hK5
      · skip
        refine fr_bd (fun r τ hh => hK5.tr (fr_fX3_whole _ _ _ r τ hh) (kp_pick [1] rfl)) (fun r12 σ11 hK6 => ?_)
        refine fr_if (fun _ => ?_) (fun _ => ?_)
        · skip
          exact fr_some hK6
        · skip
          refine fr_gd (fun _ => ?_)
          refine fr_lts (hK6.wI (fr_m 0 rfl (by omega) (by omega))) (fun σ14 hK7 => ?_)
          refine fr_bd (fun r τ hh => hK7.tr (fr_fX3_keyword _ _ r τ hh) (kp_pick [1] rfl)) (fun r16 σ15 hK8 => ?_)
          refine fr_if (fun _ => ?_) (fun _ => ?_)
          · skip
            exact fr_some hK8
          · skip
            refine fr_bd (fun r τ hh => hK8.tr (fr_fX3_whole _ _ _ r τ hh) (kp_pick [1] rfl)) (fun r18 σ17 hK9 => ?_)
            refine fr_if (fun _ => ?_) (fun _ => ?_)
            · skip
              exact fr_some hK9
            · skip
              refine fr_gd (fun _ => ?_)
              refine fr_lts (hK9.wI (fr_m 0 rfl (by omega) (by omega))) (fun σ20 hK10 => ?_)
              exact fr_some hK10
theorem fr_fX3_name (σ : St) : Fr [(3, 0, 1)] σ (fX3_name σ) := by
  unfold fX3_name
  refine fr_bd (fun r τ hh => kp_rf.tr (fr_fX3_step _ r τ hh) (kp_pick [0] rfl)) (fun _ σ1 hK1 => ?_)
  refine fr_bd (fun r τ hh => hK1.tr (fr_fX3_isWord _ _ r τ hh) (kp_pick [] rfl)) (fun r3 σ2 hK2 => ?_)
  refine fr_jn (fun j36 => ∀ (x5 : Int32) (σ4 : St), Kp ([(3, 0, 1)]) σ σ4 → Fr ([(3, 0, 1)]) σ (j36 x5 σ4)) ?_ ?_
  · intro x5 σ4 hK3
    refine fr_jn (fun j57 => ∀ (σ6 : St), Kp ([(3, 0, 1)]) σ σ6 → Fr ([(3, 0, 1)]) σ (j57 σ6)) ?_ ?_
    · intro σ6 hK4
      exact fr_some hK4
    · intro j57 hj57
      refine fr_jn (fun j49 => ∀ (σ7 : St), Kp ([(3, 0, 1)]) σ σ7 → Fr ([(3, 0, 1)]) σ (j49 σ7)) ?_ ?_
      · intro σ7 hK5
        refine fr_bd (fun r τ hh => hK5.tr (fr_fX3_fail _ _ r τ hh) (kp_pick [0] rfl)) (fun r9 σ8 hK6 => ?_)
        refine fr_if (fun _ => ?_) (fun _ => ?_)
        · skip
          exact fr_some hK6
        · skip
          exact hj57 _ hK6
      · intro j49 hj49
        refine fr_if (fun _ => ?_) (fun _ => ?_)
        · skip
          refine fr_if (fun _ => ?_) (fun _ => ?_)
          · skip
            exact hj57 _ hK3
          · skip
            exact hj49 _ hK3
        · skip
          exact hj49 _ hK3
  · intro j36 hj36
    refine fr_jn (fun j31 => ∀ (σ10 : St), Kp ([(3, 0, 1)]) σ σ10 → Fr ([(3, 0, 1)]) σ (j31 σ10)) ?_ ?_
    · intro σ10 hK7
      exact hj36 _ _ hK7
    · intro j31 hj31
      refine fr_if (fun _ => ?_) (fun _ => ?_)
      · skip
        refine fr_bd (fun r τ hh => hK2.tr (fr_fX3_isWord _ _ r τ hh) (kp_pick [] rfl)) (fun r12 σ11 hK8 => ?_)
        refine fr_if (fun _ => ?_) (fun _ => ?_)
        · skip
          refine fr_bd (fun r τ hh => hK8.tr (fr_fX3_isWord _ _ r τ hh) (kp_pick [] rfl)) (fun r14 σ13 hK9 => ?_)
          refine fr_if (fun _ => ?_) (fun _ => ?_)
          · skip
            exact hj36 _ _ hK9
          · skip
            exact hj31 _ hK9
        · skip
          exact hj31 _ hK8
      · skip
        exact hj31 _ hK2
theorem fr_fX3_readBoard (σ : St) : Fr [(3, 0, 1), (23, 0, 6), (24, 0, 6), (25, 0, 6), (26, 0, 6), (27, 0, 6), (2, 0, 6)] σ (fX3_readBoard σ) := by
  unfold fX3_readBoard
  refine fr_bd (fun r τ hh => kp_rf.tr (fr_fX3_name _ r τ hh) (kp_pick [0] rfl)) (fun r2 σ1 hK1 => ?_)
  refine fr_if (fun _ => ?_) (fun _ => ?_)
  · skip
    exact fr_some hK1
  · skip
    refine fr_ltv (fun x3 => ?_)
    refine fr_gd (fun _ => ?_)
    refine fr_bd (fun r τ hh => hK1.tr (fr_fX2_boardOfName _ _ _ r τ hh) (kp_pick [] rfl)) (fun r6 σ5 hK2 => ?_)
    refine fr_if (fun _ => ?_) (fun _ => ?_)
    · skip
      refine fr_bd (fun r τ hh => hK2.tr (fr_fX3_keyword _ _ r τ hh) (kp_pick [0] rfl)) (fun r8 σ7 hK3 => ?_)
      refine fr_if (fun _ => ?_) (fun _ => ?_)
      · skip
        exact fr_some hK3
      · skip
        refine fr_bd (fun r τ hh => hK3.tr (fr_fX3_whole _ _ _ r τ hh) (kp_pick [0] rfl)) (fun r10 σ9 hK4 => ?_)
        refine fr_if (fun _ => ?_) (fun _ => ?_)
        · skip
          exact fr_some hK4
        · skip
          refine fr_ltv (fun x11 => ?_)
          refine fr_gd (fun _ => ?_)
          refine fr_bd (fun r τ hh => hK4.tr (fr_fX2_boardOfSlot _ _ _ r τ hh) (kp_pick [] rfl)) (fun r14 σ13 hK5 => ?_)
          refine fr_if (fun _ => ?_) (fun _ => ?_)
          · skip
            refine fr_bd (fun r τ hh => hK5.tr (fr_fX3_keyword _ _ r τ hh) (kp_pick [0] rfl)) (fun r16 σ15 hK6 => ?_)
            refine fr_if (fun _ => ?_) (fun _ => ?_)
            · skip
              exact fr_some hK6
            · skip
              refine fr_bd (fun r τ hh => hK6.tr (fr_fX3_whole _ _ _ r τ hh) (kp_pick [0] rfl)) (fun r18 σ17 hK7 => ?_)
              refine fr_if (fun _ => ?_) (fun _ => ?_)
              · skip
                exact fr_some hK7
              · skip
                refine fr_ltv (fun x19 => ?_)
                refine fr_gd (fun _ => ?_)
                refine fr_bd (fun r τ hh => hK7.tr (fr_fX2_boardOfCode _ _ _ r τ hh) (kp_pick [] rfl)) (fun r22 σ21 hK8 => ?_)
                refine fr_if (fun _ => ?_) (fun _ => ?_)
                · skip
                  refine fr_bd (fun r τ hh => hK8.tr (fr_fX3_keyword _ _ r τ hh) (kp_pick [0] rfl)) (fun r24 σ23 hK9 => ?_)
                  refine fr_if (fun _ => ?_) (fun _ => ?_)
                  · skip
                    exact fr_some hK9
                  · skip
                    refine fr_bd (fun r τ hh => hK9.tr (fr_fX3_whole _ _ _ r τ hh) (kp_pick [0] rfl)) (fun r26 σ25 hK10 => ?_)
                    refine fr_if (fun _ => ?_) (fun _ => ?_)
                    · skip
                      exact fr_some hK10
                    · skip
                      refine fr_gd (fun _ => ?_)
                      refine fr_bd (fun r τ hh => hK10.tc (fr_fX2_addBoard _ _ _ _ _ _ r τ hh) (by simp [Cv] <;> omega)) (fun _ σ28 hK11 => ?_)
                      exact fr_some hK11
                · skip
                  refine fr_bd (fun r τ hh => hK8.tr (fr_fX3_fail _ _ r τ hh) (kp_pick [0] rfl)) (fun r30 σ29 hK12 => ?_)
                  exact fr_rz hK12
          · skip
            refine fr_bd (fun r τ hh => hK5.tr (fr_fX3_fail _ _ r τ hh) (kp_pick [0] rfl)) (fun r32 σ31 hK13 => ?_)
            exact fr_rz hK13
    · skip
      refine fr_bd (fun r τ hh => hK2.tr (fr_fX3_fail _ _ r τ hh) (kp_pick [0] rfl)) (fun r34 σ33 hK14 => ?_)
      exact fr_rz hK14
theorem fr_fX3_readAsk (σ : St) : Fr [(3, 0, 1), (28, 0, 6), (29, 0, 6), (30, 0, 6), (2, 0, 6)] σ (fX3_readAsk σ) := by
  unfold fX3_readAsk
  refine fr_gd (fun _ => ?_)
  refine fr_bd (fun r τ hh => kp_rf.tr (fr_fX2_latestAsk _ _ r τ hh) (kp_pick [] rfl)) (fun r3 σ2 hK1 => ?_)
  refine fr_bd (fun r τ hh => hK1.tr (fr_fX3_whole _ _ _ r τ hh) (kp_pick [0] rfl)) (fun r5 σ4 hK2 => ?_)
  refine fr_if (fun _ => ?_) (fun _ => ?_)
  · skip
    exact fr_some hK2
  · skip
    refine fr_ltv (fun x6 => ?_)
    refine fr_bd (fun r τ hh => hK2.tr (fr_fX3_name _ r τ hh) (kp_pick [0] rfl)) (fun r8 σ7 hK3 => ?_)
    refine fr_if (fun _ => ?_) (fun _ => ?_)
    · skip
      exact fr_some hK3
    · skip
      refine fr_gd (fun _ => ?_)
      refine fr_bd (fun r τ hh => hK3.tr (fr_fX2_boardOfName _ _ _ r τ hh) (kp_pick [] rfl)) (fun r11 σ10 hK4 => ?_)
      refine fr_if (fun _ => ?_) (fun _ => ?_)
      · skip
        refine fr_bd (fun r τ hh => hK4.tr (fr_fX3_fail _ _ r τ hh) (kp_pick [0] rfl)) (fun r17 σ16 hK5 => ?_)
        exact fr_rz hK5
      · skip
        refine fr_bd (fun r τ hh => hK4.tr (fr_fX3_whole _ _ _ r τ hh) (kp_pick [0] rfl)) (fun r13 σ12 hK6 => ?_)
        refine fr_if (fun _ => ?_) (fun _ => ?_)
        · skip
          exact fr_some hK6
        · skip
          refine fr_gd (fun _ => ?_)
          refine fr_bd (fun r τ hh => hK6.tc (fr_fX2_addAsk _ _ _ _ _ r τ hh) (by simp [Cv] <;> omega)) (fun _ σ15 hK7 => ?_)
          exact fr_some hK7
theorem fr_fX3_readLine (σ : St) : Fr [(3, 0, 1), (28, 0, 6), (29, 0, 6), (30, 0, 6), (2, 0, 6), (23, 0, 6), (24, 0, 6), (25, 0, 6), (26, 0, 6), (27, 0, 6)] σ (fX3_readLine σ) := by
  unfold fX3_readLine
  refine fr_bd (fun r τ hh => kp_rf.tr (fr_fX3_step _ r τ hh) (kp_pick [0] rfl)) (fun _ σ1 hK1 => ?_)
  refine fr_bd (fun r τ hh => hK1.tr (fr_fX3_isWord _ _ r τ hh) (kp_pick [] rfl)) (fun r3 σ2 hK2 => ?_)
  refine fr_if (fun _ => ?_) (fun _ => ?_)
  · skip
    refine fr_bd (fun r τ hh => hK2.tr (fr_fX3_isWord _ _ r τ hh) (kp_pick [] rfl)) (fun r5 σ4 hK3 => ?_)
    refine fr_jn (fun j62 => ∀ (σ6 : St), Kp ([(3, 0, 1), (28, 0, 6), (29, 0, 6), (30, 0, 6), (2, 0, 6), (23, 0, 6), (24, 0, 6), (25, 0, 6), (26, 0, 6), (27, 0, 6)]) σ σ6 → Fr ([(3, 0, 1), (28, 0, 6), (29, 0, 6), (30, 0, 6), (2, 0, 6), (23, 0, 6), (24, 0, 6), (25, 0, 6), (26, 0, 6), (27, 0, 6)]) σ (j62 σ6)) ?_ ?_
    · intro σ6 hK4
      refine fr_gd (fun _ => ?_)
      refine fr_if (fun _ => ?_) (fun _ => ?_)
      · skip
        refine fr_bd (fun r τ hh => hK4.tr (fr_fX3_fail _ _ r τ hh) (kp_pick [0] rfl)) (fun r19 σ18 hK5 => ?_)
        exact fr_rz hK5
      · skip
        refine fr_if (fun _ => ?_) (fun _ => ?_)
        · skip
          refine fr_gd (fun _ => ?_)
          refine fr_if (fun _ => ?_) (fun _ => ?_)
          · skip
            refine fr_bd (fun r τ hh => hK4.tr (fr_fX3_readAsk _ r τ hh) (kp_pick [0, 1, 2, 3, 4] rfl)) (fun r10 σ9 hK6 => ?_)
            exact fr_rz hK6
          · skip
            refine fr_bd (fun r τ hh => hK4.tr (fr_fX3_fail _ _ r τ hh) (kp_pick [0] rfl)) (fun r12 σ11 hK7 => ?_)
            exact fr_rz hK7
        · skip
          refine fr_gd (fun _ => ?_)
          refine fr_if (fun _ => ?_) (fun _ => ?_)
          · skip
            refine fr_bd (fun r τ hh => hK4.tr (fr_fX3_readBoard _ r τ hh) (kp_pick [0, 5, 6, 7, 8, 9, 4] rfl)) (fun r15 σ14 hK8 => ?_)
            exact fr_rz hK8
          · skip
            refine fr_bd (fun r τ hh => hK4.tr (fr_fX3_fail _ _ r τ hh) (kp_pick [0] rfl)) (fun r17 σ16 hK9 => ?_)
            exact fr_rz hK9
    · intro j62 hj62
      refine fr_if (fun _ => ?_) (fun _ => ?_)
      · skip
        refine fr_bd (fun r τ hh => hK3.tr (fr_fX3_isWord _ _ r τ hh) (kp_pick [] rfl)) (fun r21 σ20 hK10 => ?_)
        refine fr_if (fun _ => ?_) (fun _ => ?_)
        · skip
          refine fr_bd (fun r τ hh => hK10.tr (fr_fX3_fail _ _ r τ hh) (kp_pick [0] rfl)) (fun r23 σ22 hK11 => ?_)
          exact fr_rz hK11
        · skip
          exact hj62 _ hK10
      · skip
        exact hj62 _ hK3
  · skip
    refine fr_gd (fun _ => ?_)
    refine fr_if (fun _ => ?_) (fun _ => ?_)
    · skip
      refine fr_bd (fun r τ hh => hK2.tr (fr_fX3_readHead _ r τ hh) (kp_pick [4, 0] rfl)) (fun r26 σ25 hK12 => ?_)
      exact fr_rz hK12
    · skip
      refine fr_bd (fun r τ hh => hK2.tr (fr_fX3_fail _ _ r τ hh) (kp_pick [0] rfl)) (fun r28 σ27 hK13 => ?_)
      exact fr_rz hK13
theorem fr_LX3_read_40 {S : List (Nat × Nat × Nat)} {σ0 : St} (hs : ∀ e ∈ [(3, 0, 1), (28, 0, 6), (29, 0, 6), (30, 0, 6), (2, 0, 6), (23, 0, 6), (24, 0, 6), (25, 0, 6), (26, 0, 6), (27, 0, 6)], e ∈ S) (ke : St → Option (Int32 × St)) (hke : ∀ (τ : St), Kp S σ0 τ → Fr S σ0 (ke τ)) : ∀ (n : Nat) (b3 : Int32) (b4 : Int32) (σ : St), Kp S σ0 σ → Fr S σ0 (LX3_read_40 ke n b3 b4 σ) := by
  intro n
  induction n with
  | zero => intros; exact fr_none
  | succ n ih =>
    intro b3 b4 σ hK0
    rw [LX3_read_40]
    refine fr_if (fun _ => ?_) (fun _ => ?_)
    · skip
      exact hke _ hK0
    · skip
      refine fr_if (fun _ => ?_) (fun _ => ?_)
      · skip
        exact hke _ hK0
      · skip
        refine fr_bd (fun r τ hh => hK0.tr (fr_fX3_readLine _ r τ hh) (kp_sub hs (kp_pick [0, 1, 2, 3, 4, 5, 6, 7, 8, 9] rfl))) (fun r8 σ7 hK1 => ?_)
        refine fr_jn (fun j71 => ∀ (x10 : Int32) (σ9 : St), Kp S σ0 σ9 → Fr S σ0 (j71 x10 σ9)) ?_ ?_
        · intro x10 σ9 hK2
          exact ih _ _ _ hK2
        · intro j71 hj71
          refine fr_jn (fun j70 => ∀ (σ11 : St), Kp S σ0 σ11 → Fr S σ0 (j70 σ11)) ?_ ?_
          · intro σ11 hK3
            exact hj71 _ _ hK3
          · intro j70 hj70
            refine fr_if (fun _ => ?_) (fun _ => ?_)
            · skip
              exact hj70 _ hK1
            · skip
              refine fr_bd (fun r τ hh => hK1.tr (fr_fX3_goesOn _ r τ hh) (kp_sub hs (kp_pick [0] rfl))) (fun r13 σ12 hK4 => ?_)
              refine fr_if (fun _ => ?_) (fun _ => ?_)
              · skip
                exact hj70 _ hK4
              · skip
                exact hj71 _ _ hK4
theorem fr_fX3_read (p1 : Int32) (k2 : Nat) (σ : St) : Fr [(3, 0, 1), (2, k2, k2 + 1), (28, 0, 6), (29, 0, 6), (30, 0, 6), (2, 0, 6), (23, 0, 6), (24, 0, 6), (25, 0, 6), (26, 0, 6), (27, 0, 6)] σ (fX3_read p1 k2 σ) := by
  unfold fX3_read
  refine fr_lts (kp_rf.wR (fr_m 0 rfl (by omega) (by omega))) (fun σ1 hK1 => ?_)
  refine fr_lts (hK1.wI (fr_m 0 rfl (by omega) (by omega))) (fun σ2 hK2 => ?_)
  refine fr_lts (hK2.wI (fr_m 0 rfl (by omega) (by omega))) (fun σ3 hK3 => ?_)
  refine fr_lts (hK3.wI (fr_m 0 rfl (by omega) (by omega))) (fun σ4 hK4 => ?_)
  refine fr_lts (hK4.wI (fr_m 0 rfl (by omega) (by omega))) (fun σ5 hK5 => ?_)
  refine fr_bd (fun r τ hh => hK5.tr (fr_fX2_clear _ _ r τ hh) (kp_pick [1] rfl)) (fun _ σ6 hK6 => ?_)
  refine fr_LX3_read_40 (S := [(3, 0, 1), (2, k2, k2 + 1), (28, 0, 6), (29, 0, 6), (30, 0, 6), (2, 0, 6), (23, 0, 6), (24, 0, 6), (25, 0, 6), (26, 0, 6), (27, 0, 6)])  (kp_pick [0, 2, 3, 4, 5, 6, 7, 8, 9, 10] rfl) _ (fun σ14 hK7 => ?_) FU _ _ _ hK6
  exact fr_some hK7
theorem fr_fX7_bus (p1 : Int32) (σ : St) : Fr [(7, 0, 1), (3, 0, 1), (2, 0, 6), (28, 0, 6), (29, 0, 6), (30, 0, 6), (23, 0, 6), (24, 0, 6), (25, 0, 6), (26, 0, 6), (27, 0, 6), (6, 0, 1), (4, 0, 0 + 1), (32, 0, 0 + 1), (33, 0, 0 + 1), (34, 0, 0 + 1), (35, 0, 0 + 1), (36, 0, 0 + 1), (5, 0, 0 + 1), (38, 6 * 0, 6 * 0 + 6), (40, 16 * 0, 16 * 0 + 16), (41, 0, 0 + 1)] σ (fX7_bus p1 σ) := by
  unfold fX7_bus
  refine fr_jn (fun j15 => ∀ (σ1 : St), Kp ([(7, 0, 1), (3, 0, 1), (2, 0, 6), (28, 0, 6), (29, 0, 6), (30, 0, 6), (23, 0, 6), (24, 0, 6), (25, 0, 6), (26, 0, 6), (27, 0, 6), (6, 0, 1), (4, 0, 0 + 1), (32, 0, 0 + 1), (33, 0, 0 + 1), (34, 0, 0 + 1), (35, 0, 0 + 1), (36, 0, 0 + 1), (5, 0, 0 + 1), (38, 6 * 0, 6 * 0 + 6), (40, 16 * 0, 16 * 0 + 16), (41, 0, 0 + 1)]) σ σ1 → Fr ([(7, 0, 1), (3, 0, 1), (2, 0, 6), (28, 0, 6), (29, 0, 6), (30, 0, 6), (23, 0, 6), (24, 0, 6), (25, 0, 6), (26, 0, 6), (27, 0, 6), (6, 0, 1), (4, 0, 0 + 1), (32, 0, 0 + 1), (33, 0, 0 + 1), (34, 0, 0 + 1), (35, 0, 0 + 1), (36, 0, 0 + 1), (5, 0, 0 + 1), (38, 6 * 0, 6 * 0 + 6), (40, 16 * 0, 16 * 0 + 16), (41, 0, 0 + 1)]) σ (j15 σ1)) ?_ ?_
  · intro σ1 hK1
    refine fr_bd (fun r τ hh => hK1.tr (fr_fX7_refused _ _ r τ hh) (kp_pick [0] rfl)) (fun r3 σ2 hK2 => ?_)
    exact fr_some hK2
  · intro j15 hj15
    refine fr_if (fun _ => ?_) (fun _ => ?_)
    · skip
      exact hj15 _ kp_rf
    · skip
      refine fr_if (fun _ => ?_) (fun _ => ?_)
      · skip
        refine fr_gd (fun _ => ?_)
        refine fr_bd (fun r τ hh => kp_rf.tc (fr_fX3_read _ _ _ r τ hh) (by simp [Cv] <;> omega)) (fun r6 σ5 hK3 => ?_)
        refine fr_lts (hK3.wI (fr_m 0 rfl (by omega) (by omega))) (fun σ7 hK4 => ?_)
        refine fr_bd (fun r τ hh => hK4.tr (fr_fX6_clear _ r τ hh) (kp_pick [11] rfl)) (fun _ σ8 hK5 => ?_)
        refine fr_if (fun _ => ?_) (fun _ => ?_)
        · skip
          refine fr_gd (fun _ => ?_)
          refine fr_gd (fun _ => ?_)
          refine fr_lts (hK5.wR (fr_m 0 rfl (by omega) (by omega))) (fun σ11 hK6 => ?_)
          refine fr_lts (hK6.wR (fr_m 0 rfl (by omega) (by omega))) (fun σ12 hK7 => ?_)
          refine fr_gd (fun _ => ?_)
          refine fr_bd (fun r τ hh => hK7.tr (fr_fX4_start _ _ _ r τ hh) (kp_pick [12, 13, 14, 15, 16, 17, 18, 19, 20, 21] rfl)) (fun _ σ14 hK8 => ?_)
          refine fr_gd (fun _ => ?_)
          refine fr_lts (hK8.wI (fr_m 0 rfl (by omega) (by omega))) (fun σ15 hK9 => ?_)
          refine fr_gd (fun _ => ?_)
          refine fr_lts (hK9.wI (fr_m 0 rfl (by omega) (by omega))) (fun σ16 hK10 => ?_)
          refine fr_gd (fun _ => ?_)
          refine fr_bd (fun r τ hh => hK10.tr (fr_fX7_accepted _ _ r τ hh) (kp_pick [0] rfl)) (fun r19 σ18 hK11 => ?_)
          exact fr_some hK11
        · skip
          refine fr_lts (hK5.wI (fr_m 0 rfl (by omega) (by omega))) (fun σ20 hK12 => ?_)
          refine fr_bd (fun r τ hh => hK12.tr (fr_fX7_refused _ _ r τ hh) (kp_pick [0] rfl)) (fun r22 σ21 hK13 => ?_)
          exact fr_some hK13
      · skip
        exact hj15 _ kp_rf
theorem fr_LX8_isWord_28 {S : List (Nat × Nat × Nat)} {σ0 : St} (s1 : Nat) (hs : ∀ e ∈ ([] : List (Nat × Nat × Nat)), e ∈ S) (ke : St → Option (Int32 × St)) (hke : ∀ (τ : St), Kp S σ0 τ → Fr S σ0 (ke τ)) : ∀ (n : Nat) (b2 : Int32) (σ : St), Kp S σ0 σ → Fr S σ0 (LX8_isWord_28 s1 ke n b2 σ) := by
  intro n
  induction n with
  | zero => intros; exact fr_none
  | succ n ih =>
    intro b2 σ hK0
    rw [LX8_isWord_28]
    refine fr_if (fun _ => ?_) (fun _ => ?_)
    · skip
      exact hke _ hK0
    · skip
      refine fr_gi (fun hv1 => ?_)
      refine fr_gi (fun hv2 => ?_)
      refine fr_if (fun _ => ?_) (fun _ => ?_)
      · skip
        exact ih _ _ hK0
      · skip
        exact fr_some hK0
theorem fr_fX8_isWord (s1 : Nat) (σ : St) : Fr ([] : List (Nat × Nat × Nat)) σ (fX8_isWord s1 σ) := by
  unfold fX8_isWord
  refine fr_if (fun _ => ?_) (fun _ => ?_)
  · skip
    refine fr_if (fun _ => ?_) (fun _ => ?_)
    · skip
      refine fr_LX8_isWord_28 (S := []) _ (kp_pick [] rfl) _ (fun σ1 hK1 => ?_) FU _ _ kp_rf
      exact fr_some hK1
    · skip
      exact fr_some kp_rf
  · skip
    exact fr_some kp_rf
theorem fr_fX8_after (s1 : Nat) (p2 : Int32) (p3 : Int32) (p4 : Int32) (σ : St) : Fr [(8, 0, 1), (45, 0, 1)] σ (fX8_after s1 p2 p3 p4 σ) := by
  unfold fX8_after
  refine fr_bd (fun r τ hh => kp_rf.tr (fr_fX8_isWord _ _ r τ hh) (kp_pick [] rfl)) (fun r2 σ1 hK1 => ?_)
  refine fr_if (fun _ => ?_) (fun _ => ?_)
  · skip
    refine fr_bd (fun r τ hh => hK1.tr (fr_fX8_errs _ _ r τ hh) (kp_pick [0] rfl)) (fun r7 σ6 hK2 => ?_)
    exact fr_rz hK2
  · skip
    refine fr_bd (fun r τ hh => hK1.tr (fr_fX8_goesOn _ r τ hh) (kp_pick [0] rfl)) (fun _ σ3 hK3 => ?_)
    refine fr_bd (fun r τ hh => hK3.tr (fr_fX8_lays _ _ _ _ r τ hh) (kp_pick [0, 1] rfl)) (fun r5 σ4 hK4 => ?_)
    exact fr_rz hK4
theorem fr_fX8_isName (σ : St) : Fr ([] : List (Nat × Nat × Nat)) σ (fX8_isName σ) := by
  unfold fX8_isName
  refine fr_if (fun _ => ?_) (fun _ => ?_)
  · skip
    refine fr_bd (fun r τ hh => kp_rf.tr (fr_fX8_isWord _ _ r τ hh) (kp_pick [] rfl)) (fun r2 σ1 hK1 => ?_)
    refine fr_if (fun _ => ?_) (fun _ => ?_)
    · skip
      refine fr_bd (fun r τ hh => hK1.tr (fr_fX8_isWord _ _ r τ hh) (kp_pick [] rfl)) (fun r4 σ3 hK2 => ?_)
      refine fr_if (fun _ => ?_) (fun _ => ?_)
      · skip
        refine fr_bd (fun r τ hh => hK2.tr (fr_fX8_isWord _ _ r τ hh) (kp_pick [] rfl)) (fun r6 σ5 hK3 => ?_)
        exact fr_rz hK3
      · skip
        exact fr_some hK2
    · skip
      exact fr_some hK1
  · skip
    exact fr_some kp_rf
theorem fr_fX8_readBus (σ : St) : Fr [(8, 0, 1), (45, 0, 1)] σ (fX8_readBus σ) := by
  unfold fX8_readBus
  refine fr_if (fun _ => ?_) (fun _ => ?_)
  · skip
    refine fr_bd (fun r τ hh => kp_rf.tr (fr_fX8_goesOn _ r τ hh) (kp_pick [0] rfl)) (fun _ σ1 hK1 => ?_)
    refine fr_bd (fun r τ hh => hK1.tr (fr_fX8_after _ _ _ _ _ r τ hh) (kp_pick [0, 1] rfl)) (fun r3 σ2 hK2 => ?_)
    refine fr_jn (fun j62 => ∀ (x5 : Int32) (σ4 : St), Kp ([(8, 0, 1), (45, 0, 1)]) σ σ4 → Fr ([(8, 0, 1), (45, 0, 1)]) σ (j62 x5 σ4)) ?_ ?_
    · intro x5 σ4 hK3
      refine fr_gd (fun _ => ?_)
      refine fr_lts (hK3.wI (fr_m 0 rfl (by omega) (by omega))) (fun σ6 hK4 => ?_)
      exact fr_rz hK4
    · intro j62 hj62
      refine fr_jn (fun j61 => ∀ (σ7 : St), Kp ([(8, 0, 1), (45, 0, 1)]) σ σ7 → Fr ([(8, 0, 1), (45, 0, 1)]) σ (j61 σ7)) ?_ ?_
      · intro σ7 hK5
        exact hj62 _ _ hK5
      · intro j61 hj61
        refine fr_if (fun _ => ?_) (fun _ => ?_)
        · skip
          exact hj61 _ hK2
        · skip
          refine fr_bd (fun r τ hh => hK2.tr (fr_fX8_after _ _ _ _ _ r τ hh) (kp_pick [0, 1] rfl)) (fun r9 σ8 hK6 => ?_)
          refine fr_if (fun _ => ?_) (fun _ => ?_)
          · skip
            exact hj61 _ hK6
          · skip
            refine fr_bd (fun r τ hh => hK6.tr (fr_fX8_after _ _ _ _ _ r τ hh) (kp_pick [0, 1] rfl)) (fun r11 σ10 hK7 => ?_)
            refine fr_if (fun _ => ?_) (fun _ => ?_)
            · skip
              exact hj61 _ hK7
            · skip
              exact hj62 _ _ hK7
  · skip
    refine fr_bd (fun r τ hh => kp_rf.tr (fr_fX8_errs _ _ r τ hh) (kp_pick [0] rfl)) (fun r13 σ12 hK8 => ?_)
    exact fr_rz hK8
theorem fr_LX8_laysOwn_21 {S : List (Nat × Nat × Nat)} {σ0 : St} (a2 : Int32) (a3 : Int32) (a4 : Int32) (hs : ∀ e ∈ [(8, 0, 1)], e ∈ S) (ke : St → Option (Int32 × St)) (hke : ∀ (τ : St), Kp S σ0 τ → Fr S σ0 (ke τ)) : ∀ (n : Nat) (b5 : Int32) (σ : St), Kp S σ0 σ → Fr S σ0 (LX8_laysOwn_21 a2 a3 a4 ke n b5 σ) := by
  intro n
  induction n with
  | zero => intros; exact fr_none
  | succ n ih =>
    intro b5 σ hK0
    rw [LX8_laysOwn_21]
    refine fr_gi (fun hv1 => ?_)
    refine fr_if (fun _ => ?_) (fun _ => ?_)
    · skip
      exact hke _ hK0
    · skip
      refine fr_jn (fun j62 => ∀ (σ4 : St), Kp S σ0 σ4 → Fr S σ0 (j62 σ4)) ?_ ?_
      · intro σ4 hK2
        exact ih _ _ hK2
      · intro j62 hj62
        refine fr_if (fun _ => ?_) (fun _ => ?_)
        · skip
          refine fr_gi (fun hv3 => ?_)
          refine fr_if (fun _ => ?_) (fun _ => ?_)
          · skip
            refine fr_bd (fun r τ hh => hK0.tr (fr_fX8_errs _ _ r τ hh) (kp_sub hs (kp_pick [0] rfl))) (fun r6 σ5 hK4 => ?_)
            exact fr_rz hK4
          · skip
            exact hj62 _ hK0
        · skip
          exact hj62 _ hK0
theorem fr_fX8_laysOwn (s1 : Nat) (p2 : Int32) (p3 : Int32) (p4 : Int32) (σ : St) : Fr [(8, 0, 1), (45, 0, 1)] σ (fX8_laysOwn s1 p2 p3 p4 σ) := by
  unfold fX8_laysOwn
  refine fr_bd (fun r τ hh => kp_rf.tr (fr_fX8_isWord _ _ r τ hh) (kp_pick [] rfl)) (fun r2 σ1 hK1 => ?_)
  refine fr_if (fun _ => ?_) (fun _ => ?_)
  · skip
    refine fr_bd (fun r τ hh => hK1.tr (fr_fX8_errs _ _ r τ hh) (kp_pick [0] rfl)) (fun r11 σ10 hK2 => ?_)
    exact fr_rz hK2
  · skip
    refine fr_bd (fun r τ hh => hK1.tr (fr_fX8_goesOn _ r τ hh) (kp_pick [0] rfl)) (fun _ σ3 hK3 => ?_)
    refine fr_LX8_laysOwn_21 (S := [(8, 0, 1), (45, 0, 1)]) _ _ _ (kp_pick [0] rfl) _ (fun σ7 hK4 => ?_) FU _ _ hK3
    refine fr_gi (fun hv5 => ?_)
    refine fr_bd (fun r τ hh => hK4.tr (fr_fX8_lays _ _ _ _ r τ hh) (kp_pick [0, 1] rfl)) (fun r9 σ8 hK6 => ?_)
    exact fr_rz hK6
theorem fr_fX8_readBoard (σ : St) : Fr [(8, 0, 1), (46, 0, 1), (45, 0, 1)] σ (fX8_readBoard σ) := by
  unfold fX8_readBoard
  refine fr_gi (fun hv1 => ?_)
  refine fr_ltv (fun x1 => ?_)
  refine fr_jn (fun j19 => ∀ (x3 : Int32) (σ2 : St), Kp ([(8, 0, 1), (46, 0, 1), (45, 0, 1)]) σ σ2 → Fr ([(8, 0, 1), (46, 0, 1), (45, 0, 1)]) σ (j19 x3 σ2)) ?_ ?_
  · intro x3 σ2 hK2
    refine fr_bd (fun r τ hh => hK2.tr (fr_fX8_begins _ _ r τ hh) (kp_pick [0] rfl)) (fun r5 σ4 hK3 => ?_)
    refine fr_if (fun _ => ?_) (fun _ => ?_)
    · skip
      exact fr_some hK3
    · skip
      refine fr_bd (fun r τ hh => hK3.tr (fr_fX8_isName _ r τ hh) (kp_pick [] rfl)) (fun r7 σ6 hK4 => ?_)
      refine fr_if (fun _ => ?_) (fun _ => ?_)
      · skip
        refine fr_bd (fun r τ hh => hK4.tr (fr_fX8_errs _ _ r τ hh) (kp_pick [0] rfl)) (fun r24 σ23 hK5 => ?_)
        exact fr_rz hK5
      · skip
        refine fr_bd (fun r τ hh => hK4.tr (fr_fX8_boardHere _ r τ hh) (kp_pick [] rfl)) (fun r9 σ8 hK6 => ?_)
        refine fr_if (fun _ => ?_) (fun _ => ?_)
        · skip
          refine fr_bd (fun r τ hh => hK6.tr (fr_fX8_spelt _ r τ hh) (kp_pick [] rfl)) (fun r11 σ10 hK7 => ?_)
          refine fr_gi (fun hv8 => ?_)
          refine fr_lts (hK7.wL (fr_m 1 rfl (by omega) (by omega))) (fun σ12 hK9 => ?_)
          refine fr_bd (fun r τ hh => hK9.tr (fr_fX8_goesOn _ r τ hh) (kp_pick [0] rfl)) (fun _ σ13 hK10 => ?_)
          refine fr_bd (fun r τ hh => hK10.tr (fr_fX8_laysOwn _ _ _ _ _ r τ hh) (kp_pick [0, 2] rfl)) (fun r15 σ14 hK11 => ?_)
          refine fr_if (fun _ => ?_) (fun _ => ?_)
          · skip
            exact fr_some hK11
          · skip
            refine fr_bd (fun r τ hh => hK11.tr (fr_fX8_laysOwn _ _ _ _ _ r τ hh) (kp_pick [0, 2] rfl)) (fun r17 σ16 hK12 => ?_)
            refine fr_if (fun _ => ?_) (fun _ => ?_)
            · skip
              exact fr_some hK12
            · skip
              refine fr_bd (fun r τ hh => hK12.tr (fr_fX8_after _ _ _ _ _ r τ hh) (kp_pick [0, 2] rfl)) (fun r19 σ18 hK13 => ?_)
              refine fr_if (fun _ => ?_) (fun _ => ?_)
              · skip
                exact fr_some hK13
              · skip
                refine fr_gi (fun hv14 => ?_)
                refine fr_gi (fun hv15 => ?_)
                refine fr_lts (hK13.wI (fr_m 2 rfl (by omega) (by omega))) (fun σ20 hK16 => ?_)
                exact fr_some hK16
        · skip
          refine fr_bd (fun r τ hh => hK6.tr (fr_fX8_errs _ _ r τ hh) (kp_pick [0] rfl)) (fun r22 σ21 hK17 => ?_)
          exact fr_rz hK17
  · intro j19 hj19
    refine fr_if (fun _ => ?_) (fun _ => ?_)
    · skip
      exact hj19 _ _ kp_rf
    · skip
      exact hj19 _ _ kp_rf
theorem fr_fX8_readAsk (σ : St) : Fr [(8, 0, 1), (45, 0, 1)] σ (fX8_readAsk σ) := by
  unfold fX8_readAsk
  refine fr_gi (fun hv1 => ?_)
  refine fr_ltv (fun x1 => ?_)
  refine fr_jn (fun j19 => ∀ (x3 : Int32) (σ2 : St), Kp ([(8, 0, 1), (45, 0, 1)]) σ σ2 → Fr ([(8, 0, 1), (45, 0, 1)]) σ (j19 x3 σ2)) ?_ ?_
  · intro x3 σ2 hK2
    refine fr_bd (fun r τ hh => hK2.tr (fr_fX8_begins _ _ r τ hh) (kp_pick [0] rfl)) (fun r5 σ4 hK3 => ?_)
    refine fr_if (fun _ => ?_) (fun _ => ?_)
    · skip
      exact fr_some hK3
    · skip
      refine fr_jn (fun j49 => ∀ (x7 : Int32) (σ6 : St), Kp ([(8, 0, 1), (45, 0, 1)]) σ σ6 → Fr ([(8, 0, 1), (45, 0, 1)]) σ (j49 x7 σ6)) ?_ ?_
      · intro x7 σ6 hK4
        refine fr_bd (fun r τ hh => hK4.tr (fr_fX8_lays _ _ _ _ r τ hh) (kp_pick [0, 1] rfl)) (fun r9 σ8 hK5 => ?_)
        refine fr_if (fun _ => ?_) (fun _ => ?_)
        · skip
          exact fr_some hK5
        · skip
          refine fr_bd (fun r τ hh => hK5.tr (fr_fX8_isName _ r τ hh) (kp_pick [] rfl)) (fun r11 σ10 hK6 => ?_)
          refine fr_if (fun _ => ?_) (fun _ => ?_)
          · skip
            refine fr_bd (fun r τ hh => hK6.tr (fr_fX8_errs _ _ r τ hh) (kp_pick [0] rfl)) (fun r22 σ21 hK7 => ?_)
            exact fr_rz hK7
          · skip
            refine fr_bd (fun r τ hh => hK6.tr (fr_fX8_boardHere _ r τ hh) (kp_pick [] rfl)) (fun r13 σ12 hK8 => ?_)
            refine fr_gi (fun hv9 => ?_)
            refine fr_lts (hK8.wI (fr_m 1 rfl (by omega) (by omega))) (fun σ14 hK10 => ?_)
            refine fr_gi (fun hv11 => ?_)
            refine fr_if (fun _ => ?_) (fun _ => ?_)
            · skip
              refine fr_bd (fun r τ hh => hK10.tr (fr_fX8_errs _ _ r τ hh) (kp_pick [0] rfl)) (fun r20 σ19 hK12 => ?_)
              exact fr_rz hK12
            · skip
              refine fr_bd (fun r τ hh => hK10.tr (fr_fX8_goesOn _ r τ hh) (kp_pick [0] rfl)) (fun _ σ15 hK13 => ?_)
              refine fr_bd (fun r τ hh => hK13.tr (fr_fX8_lays _ _ _ _ r τ hh) (kp_pick [0, 1] rfl)) (fun r17 σ16 hK14 => ?_)
              refine fr_if (fun _ => ?_) (fun _ => ?_)
              · skip
                exact fr_some hK14
              · skip
                refine fr_gi (fun hv15 => ?_)
                refine fr_gi (fun hv16 => ?_)
                refine fr_lts (hK14.wI (fr_m 1 rfl (by omega) (by omega))) (fun σ18 hK17 => ?_)
                exact fr_some hK17
      · intro j49 hj49
        refine fr_if (fun _ => ?_) (fun _ => ?_)
        · skip
          exact hj49 _ _ hK3
        · skip
          refine fr_gi (fun hv18 => ?_)
          exact hj49 _ _ hK3
  · intro j19 hj19
    refine fr_if (fun _ => ?_) (fun _ => ?_)
    · skip
      exact hj19 _ _ kp_rf
    · skip
      exact hj19 _ _ kp_rf
theorem fr_fX8_readLine (σ : St) : Fr [(8, 0, 1), (45, 0, 1), (46, 0, 1)] σ (fX8_readLine σ) := by
  unfold fX8_readLine
  refine fr_bd (fun r τ hh => kp_rf.tr (fr_fX8_isWord _ _ r τ hh) (kp_pick [] rfl)) (fun r2 σ1 hK1 => ?_)
  refine fr_if (fun _ => ?_) (fun _ => ?_)
  · skip
    refine fr_bd (fun r τ hh => hK1.tr (fr_fX8_isWord _ _ r τ hh) (kp_pick [] rfl)) (fun r4 σ3 hK2 => ?_)
    refine fr_if (fun _ => ?_) (fun _ => ?_)
    · skip
      refine fr_bd (fun r τ hh => hK2.tr (fr_fX8_isWord _ _ r τ hh) (kp_pick [] rfl)) (fun r6 σ5 hK3 => ?_)
      refine fr_if (fun _ => ?_) (fun _ => ?_)
      · skip
        refine fr_bd (fun r τ hh => hK3.tr (fr_fX8_errs _ _ r τ hh) (kp_pick [0] rfl)) (fun r8 σ7 hK4 => ?_)
        exact fr_rz hK4
      · skip
        refine fr_bd (fun r τ hh => hK3.tr (fr_fX8_readAsk _ r τ hh) (kp_pick [0, 1] rfl)) (fun r10 σ9 hK5 => ?_)
        exact fr_rz hK5
    · skip
      refine fr_bd (fun r τ hh => hK2.tr (fr_fX8_readBoard _ r τ hh) (kp_pick [0, 2, 1] rfl)) (fun r12 σ11 hK6 => ?_)
      exact fr_rz hK6
  · skip
    refine fr_bd (fun r τ hh => hK1.tr (fr_fX8_readBus _ r τ hh) (kp_pick [0, 1] rfl)) (fun r14 σ13 hK7 => ?_)
    exact fr_rz hK7
theorem fr_LX8_readAll_42 {S : List (Nat × Nat × Nat)} {σ0 : St} (hs : ∀ e ∈ [(8, 0, 1), (45, 0, 1), (46, 0, 1)], e ∈ S) (ke : St → Option (Int32 × St)) (hke : ∀ (τ : St), Kp S σ0 τ → Fr S σ0 (ke τ)) : ∀ (n : Nat) (σ : St), Kp S σ0 σ → Fr S σ0 (LX8_readAll_42 ke n σ) := by
  intro n
  induction n with
  | zero => intros; exact fr_none
  | succ n ih =>
    intro σ hK0
    rw [LX8_readAll_42]
    refine fr_if (fun _ => ?_) (fun _ => ?_)
    · skip
      refine fr_bd (fun r τ hh => hK0.tr (fr_fX8_goesOn _ r τ hh) (kp_sub hs (kp_pick [0] rfl))) (fun _ σ9 hK1 => ?_)
      refine fr_bd (fun r τ hh => hK1.tr (fr_fX8_readLine _ r τ hh) (kp_sub hs (kp_pick [0, 1, 2] rfl))) (fun r11 σ10 hK2 => ?_)
      refine fr_if (fun _ => ?_) (fun _ => ?_)
      · skip
        exact fr_some hK2
      · skip
        exact ih _ hK2
    · skip
      exact hke _ hK0
theorem fr_fX8_readAll (p1 : Int32) (σ : St) : Fr [(8, 0, 1), (45, 0, 1), (46, 0, 1)] σ (fX8_readAll p1 σ) := by
  unfold fX8_readAll
  refine fr_lts (kp_rf.wI (fr_m 0 rfl (by omega) (by omega))) (fun σ1 hK1 => ?_)
  refine fr_lts (hK1.wI (fr_m 0 rfl (by omega) (by omega))) (fun σ2 hK2 => ?_)
  refine fr_gd (fun _ => ?_)
  refine fr_lts (hK2.wI (fr_m 0 rfl (by omega) (by omega))) (fun σ3 hK3 => ?_)
  refine fr_gi (fun hv4 => ?_)
  refine fr_lts (hK3.wI (fr_m 1 rfl (by omega) (by omega))) (fun σ4 hK5 => ?_)
  refine fr_gi (fun hv6 => ?_)
  refine fr_lts (hK5.wI (fr_m 1 rfl (by omega) (by omega))) (fun σ5 hK7 => ?_)
  refine fr_bd (fun r τ hh => hK7.tr (fr_fX8_goesOn _ r τ hh) (kp_pick [0] rfl)) (fun _ σ6 hK8 => ?_)
  refine fr_bd (fun r τ hh => hK8.tr (fr_fX8_readLine _ r τ hh) (kp_pick [0, 1, 2] rfl)) (fun r8 σ7 hK9 => ?_)
  refine fr_if (fun _ => ?_) (fun _ => ?_)
  · skip
    exact fr_some hK9
  · skip
    refine fr_LX8_readAll_42 (S := [(8, 0, 1), (45, 0, 1), (46, 0, 1)])  (kp_pick [0, 1, 2] rfl) _ (fun σ12 hK10 => ?_) FU _ hK9
    refine fr_if (fun _ => ?_) (fun _ => ?_)
    · skip
      refine fr_gi (fun hv11 => ?_)
      refine fr_jn (fun j95 => ∀ (σ13 : St), Kp ([(8, 0, 1), (45, 0, 1), (46, 0, 1)]) σ σ13 → Fr ([(8, 0, 1), (45, 0, 1), (46, 0, 1)]) σ (j95 σ13)) ?_ ?_
      · intro σ13 hK12
        exact fr_some hK12
      · intro j95 hj95
        refine fr_if (fun _ => ?_) (fun _ => ?_)
        · skip
          exact hj95 _ hK10
        · skip
          refine fr_bd (fun r τ hh => hK10.tr (fr_fX8_errs _ _ r τ hh) (kp_pick [0] rfl)) (fun r15 σ14 hK13 => ?_)
          refine fr_if (fun _ => ?_) (fun _ => ?_)
          · skip
            exact fr_some hK13
          · skip
            exact hj95 _ hK13
    · skip
      refine fr_bd (fun r τ hh => hK10.tr (fr_fX8_errs _ _ r τ hh) (kp_pick [0] rfl)) (fun r17 σ16 hK14 => ?_)
      exact fr_rz hK14
theorem fr_LX8_bus_68 {S : List (Nat × Nat × Nat)} {σ0 : St} (hs : ∀ e ∈ [(44, 0, 1)], e ∈ S) (ke : St → Option (Int32 × St)) (hke : ∀ (τ : St), Kp S σ0 τ → Fr S σ0 (ke τ)) : ∀ (n : Nat) (b2 : Int32) (σ : St), Kp S σ0 σ → Fr S σ0 (LX8_bus_68 ke n b2 σ) := by
  intro n
  induction n with
  | zero => intros; exact fr_none
  | succ n ih =>
    intro b2 σ hK0
    rw [LX8_bus_68]
    refine fr_if (fun _ => ?_) (fun _ => ?_)
    · skip
      exact hke _ hK0
    · skip
      refine fr_gi (fun hv1 => ?_)
      refine fr_gi (fun hv2 => ?_)
      refine fr_lts (hK0.wI (fr_h hs 0 rfl (by omega) (by omega))) (fun σ10 hK3 => ?_)
      exact ih _ _ hK3
theorem fr_fX8_bus (p1 : Int32) (σ : St) : Fr [(8, 0, 1), (45, 0, 1), (46, 0, 1), (44, 0, 1), (47, 0, 1)] σ (fX8_bus p1 σ) := by
  unfold fX8_bus
  refine fr_bd (fun r τ hh => kp_rf.tr (fr_fX8_isRefused _ _ r τ hh) (kp_pick [0] rfl)) (fun r5 σ4 hK1 => ?_)
  refine fr_if (fun _ => ?_) (fun _ => ?_)
  · skip
    refine fr_lts (hK1.wI (fr_m 0 rfl (by omega) (by omega))) (fun σ6 hK2 => ?_)
    refine fr_lts (hK2.wI (fr_m 0 rfl (by omega) (by omega))) (fun σ7 hK3 => ?_)
    refine fr_bd (fun r τ hh => hK3.tr (fr_fX8_readAll _ _ r τ hh) (kp_pick [0, 1, 2] rfl)) (fun r9 σ8 hK4 => ?_)
    refine fr_if (fun _ => ?_) (fun _ => ?_)
    · skip
      refine fr_lts (hK4.wI (fr_m 0 rfl (by omega) (by omega))) (fun σ15 hK5 => ?_)
      refine fr_lts (hK5.wI (fr_m 0 rfl (by omega) (by omega))) (fun σ16 hK6 => ?_)
      refine fr_bd (fun r τ hh => hK6.tr (fr_fX8_no _ _ r τ hh) (kp_pick [0] rfl)) (fun r18 σ17 hK7 => ?_)
      exact fr_some hK7
    · skip
      refine fr_LX8_bus_68 (S := [(8, 0, 1), (45, 0, 1), (46, 0, 1), (44, 0, 1), (47, 0, 1)])  (kp_pick [3] rfl) _ (fun σ11 hK8 => ?_) FU _ _ hK4
      refine fr_gd (fun _ => ?_)
      refine fr_lts (hK8.wI (fr_m 0 rfl (by omega) (by omega))) (fun σ12 hK9 => ?_)
      refine fr_gd (fun _ => ?_)
      refine fr_lts (hK9.wI (fr_m 0 rfl (by omega) (by omega))) (fun σ13 hK10 => ?_)
      refine fr_bd (fun r τ hh => hK10.tr (fr_fX8_beginsAnew _ r τ hh) (kp_pick [4] rfl)) (fun _ σ14 hK11 => ?_)
      refine fr_gi (fun hv12 => ?_)
      exact fr_some hK11
  · skip
    exact fr_some hK1
