/-! ===== an arbitration is through ===== -/
theorem if_cg {α : Type} {c d : Prop} [Decidable c] [Decidable d] {x y : α} (h : c ↔ d) : (if c then x else y) = if d then x else y := by
  by_cases q : c
  · rw [if_pos q, if_pos (h.mp q)]
  · rw [if_neg q, if_neg (fun z => q (h.mpr z))]
/-- one elected is put off, then a turn is spent -/
theorem s_turn {u : BU} {σ σm : St} {k s b P : Nat} {x : Int32} (hu : UOk u) (hb : b < uN u) (h6 : Q6 u σ k (σm.1 47 0)) (h9 : Q9 u σ k (σm.1 47 0) s) (e0 : σ.1 5 k 0 = σm.1 47 0 6) (e4 : σ.1 5 k 4 = σm.1 47 0 10) (hP : σ.2.2 4 k 1 = P) (hB : BC σ P u) (hx : Wn x (uN u)) (h5 : σ.1 4 k 5 = x) :
    ∃ σ' σm', (∀ J : St → Option (Unit × St), (jn (fun (σ12 : St) => bd (fX4_spendTurn k (nI b) σ12) fun _ (σ13 : St) => bd (fX5_count k (nI b) (nI 5) σ13) fun _ (σ14 : St) => J σ14) fun j70 => if (σ.1 4 k 5) = (-2) then j70 σ else (if (σ.1 4 k 5) = nI b then j70 σ else bd (fX5_putOff k (σ.1 4 k 5) σ) fun _ (σ15 : St) => j70 σ15)) = J σ') ∧ (jn (fun (σ10 : St) => bd (fX8_isElected (nI b) σ10) fun _ (σ11 : St) => some ((), σ11)) fun j132 => if x = (-2) then j132 σm else (if x = nI b then j132 σm else gi (nI 10) 251 <| gi (nI 10) 251 <| lt (wI σm 47 0 (nI 10).toNatClampNeg ((σm.1 47 0 (nI 10).toNatClampNeg) + (nI 1))) fun (σ12 : St) => gi (fX8_at x (nI 9)) 251 <| gi (fX8_at x (nI 9)) 251 <| lt (wI σ12 47 0 (fX8_at x (nI 9)).toNatClampNeg ((σ12.1 47 0 (fX8_at x (nI 9)).toNatClampNeg) + (nI 1))) fun (σ13 : St) => j132 σ13)) = some ((), σm') ∧
      Q6 u σ' k (σm'.1 47 0) ∧ Q9 u σ' k (σm'.1 47 0) s ∧ σ'.1 5 k 0 = σm'.1 47 0 6 ∧ σ'.1 5 k 4 = σm'.1 47 0 10 ∧ (∀ a b, ¬ (a = 4 ∨ a = 5 ∨ a = 38) → σ'.1 a b = σ.1 a b) ∧ (∀ j, j ≠ 8 → σ'.1 4 k j = σ.1 4 k j) ∧ (∀ j, j ≠ 0 → j ≠ 4 → σ'.1 5 k j = σ.1 5 k j) ∧ σ'.2 = σ.2 ∧ (∀ a b, a ≠ 47 → σm'.1 a b = σm.1 a b) ∧ ∀ j, ¬ TuR j → σm'.1 47 0 j = σm.1 47 0 j := by
  have hn := hu.n6
  simp only [jnD, h5]
  have plain : ∃ σ' σm', (∀ J : St → Option (Unit × St), (bd (fX4_spendTurn k (nI b) σ) fun _ (σ13 : St) => bd (fX5_count k (nI b) (nI 5) σ13) fun _ (σ14 : St) => J σ14) = J σ') ∧ (bd (fX8_isElected (nI b) σm) fun _ (σ11 : St) => some ((), σ11)) = some ((), σm') ∧ Q6 u σ' k (σm'.1 47 0) ∧ Q9 u σ' k (σm'.1 47 0) s ∧ σ'.1 5 k 0 = σm'.1 47 0 6 ∧ σ'.1 5 k 4 = σm'.1 47 0 10 ∧ (∀ a b, ¬ (a = 4 ∨ a = 5 ∨ a = 38) → σ'.1 a b = σ.1 a b) ∧ (∀ j, j ≠ 8 → σ'.1 4 k j = σ.1 4 k j) ∧ (∀ j, j ≠ 0 → j ≠ 4 → σ'.1 5 k j = σ.1 5 k j) ∧ σ'.2 = σ.2 ∧ (∀ a b, a ≠ 47 → σm'.1 a b = σm.1 a b) ∧ ∀ j, ¬ TuR j → σm'.1 47 0 j = σm.1 47 0 j := by
    obtain ⟨σ', σm', g1, g2, g3, g4, g5, g6, g7, g8, g9, g10, g11⟩ := s_spend hu hb h6 h9 e0 hP hB
    refine ⟨σ', σm', g1, by rw [g2, bdS], g3, g4, g5, ?_, g6, g7, fun j z _ => g8 j z, g9, g10, fun j z => g11 j (fun y => z (by unfold TuR; omega))⟩
    rw [g8 4 (by omega), g11 10 (by omega)]; exact e4
  obtain ⟨o, rfl, ho⟩ := hx
  cases o with
  | none =>
    simp only [wv_none, if_true]
    exact plain
  | some c =>
    have hc := ho c rfl
    rw [wv_some]
    by_cases q : c = b
    · subst q
      simp only [nm2 (show c < 2147483648 by omega), if_false, if_true]
      exact plain
    · have n1 : ¬ nI c = -2 := by rw [nm2 (by omega)]; exact id
      have n2 : ¬ nI c = nI b := by rw [eq_n (by omega) (by omega)]; exact q
      simp only [if_neg n1, if_neg n2]
      unfold fX5_putOff
      simp (disch := omega) only [ltD, c_count (k := k) (b := c) (j := 3), bdS, at8, gi_n, cl, e4]
      have y1 : (wI σ 5 k 4 (σm.1 47 0 10 + nI 1)).1 38 (6 * k + c) 3 = σ.1 38 (6 * k + c) 3 := wIj (by omega)
      have y2 : (wI σm 47 0 10 (σm.1 47 0 10 + nI 1)).1 47 0 (18 + 12 * c + 9) = σm.1 47 0 (18 + 12 * c + 9) := wIj (by omega)
      simp only [y1, y2]
      have h9' : Q9 u (wI (wI σ 5 k 4 (σm.1 47 0 10 + nI 1)) 38 (6 * k + c) 3 (σ.1 38 (6 * k + c) 3 + nI 1)) k ((wI (wI σm 47 0 10 (σm.1 47 0 10 + nI 1)) 47 0 (18 + 12 * c + 9) (σm.1 47 0 (18 + 12 * c + 9) + nI 1)).1 47 0) s := by
        have hh : Q9 u (wI σ 5 k 4 (σm.1 47 0 10 + nI 1)) k ((wI σm 47 0 10 (σm.1 47 0 10 + nI 1)).1 47 0) s := h9.fr (fun b' _ => wIc (by omega)) (fun b' g j' g2 => wIj (by omega)) (Nat.le_refl _)
        have e := (h9 c hc).1 3 (by omega)
        rw [show 18 + 12 * c + 9 = 18 + 12 * c + 6 + 3 by omega, ← e]
        exact hh.led hu hc (by omega) (fun z => by omega)
      have h6' : Q6 u (wI (wI σ 5 k 4 (σm.1 47 0 10 + nI 1)) 38 (6 * k + c) 3 (σ.1 38 (6 * k + c) 3 + nI 1)) k ((wI (wI σm 47 0 10 (σm.1 47 0 10 + nI 1)) 47 0 (18 + 12 * c + 9) (σm.1 47 0 (18 + 12 * c + 9) + nI 1)).1 47 0) := h6.fr ((wIj (by omega)).trans (wIj (by omega))) (fun b' _ => (wIj (by omega)).trans (wIj (by omega)))
      have x0 : (wI (wI σ 5 k 4 (σm.1 47 0 10 + nI 1)) 38 (6 * k + c) 3 (σ.1 38 (6 * k + c) 3 + nI 1)).1 5 k 0 = (wI (wI σm 47 0 10 (σm.1 47 0 10 + nI 1)) 47 0 (18 + 12 * c + 9) (σm.1 47 0 (18 + 12 * c + 9) + nI 1)).1 47 0 6 := by rw [wIj (by omega), wIj (by omega), wIj (by omega), wIj (by omega)]; exact e0
      have x4 : (wI (wI σ 5 k 4 (σm.1 47 0 10 + nI 1)) 38 (6 * k + c) 3 (σ.1 38 (6 * k + c) 3 + nI 1)).1 5 k 4 = (wI (wI σm 47 0 10 (σm.1 47 0 10 + nI 1)) 47 0 (18 + 12 * c + 9) (σm.1 47 0 (18 + 12 * c + 9) + nI 1)).1 47 0 10 := by rw [wIj (by omega), wIe (by omega), wIj (by omega), wIe (by omega)]
      obtain ⟨σ', σm', g1, g2, g3, g4, g5, g6, g7, g8, g9, g10, g11⟩ := s_spend hu hb h6' h9' x0 hP (hB.fr (fun a b g => (wIc (by omega)).trans (wIc (by omega))))
      refine ⟨σ', σm', g1, by rw [g2, bdS], g3, g4, g5, ?_, fun x y z => (g6 x y z).trans ((wIc (by omega)).trans (wIc (by omega))), fun j z => (g7 j z).trans ((wIj (by omega)).trans (wIj (by omega))), fun j z z2 => (g8 j z).trans ((wIj (by omega)).trans (wIj (by omega))), g9, fun x y z => (g10 x y z).trans ((wIc z).trans (wIc z)), fun j z => ?_⟩
      · rw [g8 4 (by omega), g11 10 (by omega)]; exact x4
      · unfold TuR at z
        rw [g11 j (by omega), wIj (by omega), wIj (by omega)]
theorem pred_n {a : Nat} (h : 0 < a) : nI a + (-1) = nI (a - 1) := by
  obtain ⟨b, rfl⟩ : ∃ b, a = b + 1 := ⟨a - 1, by omega⟩
  rw [← add_n, Int32.add_assoc, show nI 1 + (-1) = 0 from by decide, add_0, Nat.add_sub_cancel]
theorem c_fmod {a m : Nat} (ha : a < 2147483648) (h0 : 0 < m) (hm : m < 2147483648) (σ : St) : fJ9_floorMod_7cf53 (nI a) (nI m) σ = some (nI (a % m), σ) := by
  unfold fJ9_floorMod_7cf53
  have hx : a ^^^ m < 2147483648 := Nat.xor_lt_two_pow (n := 31) ha hm
  rw [gd_t (by rw [eq_0 hm]; omega), rem_n ha h0 hm, ltD, xor_n, if_pos (by rw [ge_0 hx]; trivial)]
/-- the log moves on by one: the model's loop -/
theorem m_shift {σ : St} (a1 a2 : Int32) (ke : St → Option (Unit × St)) : ∀ (x m : Nat) (s : St), x ≤ 90 → x < m → (∀ j, s.1 47 0 j = if 96 + x < j ∧ j < 187 then σ.1 47 0 (j - 6) else σ.1 47 0 j) → (∀ a b, a ≠ 47 → s.1 a b = σ.1 a b) →
    ∃ s', ((∀ j, s'.1 47 0 j = if 97 ≤ j ∧ j < 187 then σ.1 47 0 (j - 6) else σ.1 47 0 j) ∧ ∀ a b, a ≠ 47 → s'.1 a b = σ.1 a b) ∧ LX8_logs_3 a1 a2 ke m (nI (5 + x)) s = ke s' := by
  intro x
  induction x with
  | zero =>
    intro m s _ hm h1 h2
    obtain ⟨m, rfl⟩ : ∃ y, m = y + 1 := ⟨m - 1, by omega⟩
    rw [LX8_logs_3, if_pos (by rw [lt_n (by omega) (by omega)]; omega)]
    exact ⟨s, ⟨fun j => by rw [h1 j]; exact if_cg (by omega), h2⟩, rfl⟩
  | succ x ih =>
    intro m s hx hm h1 h2
    obtain ⟨m, rfl⟩ : ∃ y, m = y + 1 := ⟨m - 1, by omega⟩
    rw [LX8_logs_3, if_neg (by rw [lt_n (by omega) (by omega)]; omega), add_n, sub_n (by omega), gi_n (by omega) (by omega), gi_n (by omega) (by omega), cl (by omega), cl (by omega), ltD, pred_n (by omega), show 5 + (x + 1) - 1 = 5 + x by omega]
    refine ih m _ (by omega) (by omega) (fun j => ?_) (fun a b z => (wIc z).trans (h2 a b z))
    rw [rI]
    by_cases q : j = 91 + (5 + (x + 1))
    · rw [if_pos (by omega), if_pos (by omega), h1, if_neg (by omega), q]
    · rw [if_neg (by omega), h1 j]
      exact if_cg (by omega)
theorem m_logs {σ : St} {A W S E : Nat} {b : Int32} {c : Nat} (hc : c ≤ 16) (h90 : σ.1 47 0 90 = nI c) (h30 : σ.1 8 0 30 = nI E) (h31 : σ.1 8 0 31 = nI W) (h32 : σ.1 8 0 32 = nI S) :
    ∃ σ', fX8_logs (nI A) b σ = some ((), σ') ∧ (∀ j, ¬ (90 ≤ j ∧ j < 187) → σ'.1 47 0 j = σ.1 47 0 j) ∧ (∀ a b, a ≠ 47 → σ'.1 a b = σ.1 a b) ∧ σ'.1 47 0 90 = nI (min (c + 1) 16) ∧ σ'.1 47 0 91 = σ.1 47 0 0 ∧ σ'.1 47 0 92 = nI A ∧ σ'.1 47 0 93 = nI W ∧ σ'.1 47 0 94 = nI S ∧ σ'.1 47 0 95 = b ∧ σ'.1 47 0 96 = nI E ∧ ∀ j, 97 ≤ j → j < 187 → σ'.1 47 0 j = σ.1 47 0 (j - 6) := by
  unfold fX8_logs
  obtain ⟨s, ⟨w1, w2⟩, e⟩ := m_shift (σ := σ) (nI A) b (fun (σ2 : St) => gi (nI 90) 251 <| (jn (fun (x4 : Int32) (σ3 : St) => gi (nI 90) 251 <| lt (wI σ3 47 0 (nI 90).toNatClampNeg x4) fun (σ5 : St) => gi 0 251 <| gi (nI 91) 251 <| lt (wI σ5 47 0 (nI 91).toNatClampNeg (σ5.1 47 0 (0 : Int32).toNatClampNeg)) fun (σ6 : St) => gi (nI 92) 251 <| lt (wI σ6 47 0 (nI 92).toNatClampNeg (nI A)) fun (σ7 : St) => gi (nI 93) 251 <| lt (wI σ7 47 0 (nI 93).toNatClampNeg (σ7.1 8 0 31)) fun (σ8 : St) => gi (nI 94) 251 <| lt (wI σ8 47 0 (nI 94).toNatClampNeg (σ8.1 8 0 32)) fun (σ9 : St) => gi (nI 95) 251 <| lt (wI σ9 47 0 (nI 95).toNatClampNeg b) fun (σ10 : St) => gi (nI 96) 251 <| lt (wI σ10 47 0 (nI 96).toNatClampNeg (σ10.1 8 0 30)) fun (σ11 : St) => some ((), σ11)) fun j68 => if (σ2.1 47 0 (nI 90).toNatClampNeg) = (nI 16) then j68 (nI 16) σ2 else gi (nI 90) 251 <| j68 ((σ2.1 47 0 (nI 90).toNatClampNeg) + (nI 1)) σ2)) 90 FU σ (by omega) (by have := FU_gt; omega) (fun j => by rw [if_neg (by omega)]) (fun _ _ _ => rfl)
  rw [e]
  have s8 : s.1 8 0 = σ.1 8 0 := w2 8 0 (by omega)
  have s90 : s.1 47 0 90 = nI c := by rw [w1, if_neg (by omega)]; exact h90
  have s0 : s.1 47 0 0 = σ.1 47 0 0 := by rw [w1, if_neg (by omega)]
  simp (disch := omega) only [gi_n, gi_0, cl, jnD, ltD, sb_cl0, s90]
  have e31 : ∀ j v j' v' j'' v'', (wI (wI (wI s 47 0 j v) 47 0 j' v') 47 0 j'' v'').1 8 0 31 = nI W := fun _ _ _ _ _ _ => by rw [wIj (by omega), wIj (by omega), wIj (by omega), s8]; exact h31
  have e32 : ∀ j v j' v' j'' v'' j3 v3, (wI (wI (wI (wI s 47 0 j v) 47 0 j' v') 47 0 j'' v'') 47 0 j3 v3).1 8 0 32 = nI S := fun _ _ _ _ _ _ _ _ => by rw [wIj (by omega), wIj (by omega), wIj (by omega), wIj (by omega), s8]; exact h32
  have e30 : ∀ j v j' v' j'' v'' j3 v3 j4 v4 j5 v5, (wI (wI (wI (wI (wI (wI s 47 0 j v) 47 0 j' v') 47 0 j'' v'') 47 0 j3 v3) 47 0 j4 v4) 47 0 j5 v5).1 8 0 30 = nI E := fun _ _ _ _ _ _ _ _ _ _ _ _ => by rw [wIj (by omega), wIj (by omega), wIj (by omega), wIj (by omega), wIj (by omega), wIj (by omega), s8]; exact h30
  have e00 : ∀ v, (wI s 47 0 90 v).1 47 0 0 = σ.1 47 0 0 := fun v => by rw [wIj (by omega)]; exact s0
  simp only [e31, e32, e30, e00]
  have key : ∀ v, v = nI (min (c + 1) 16) → ∃ σ', some ((), wI (wI (wI (wI (wI (wI (wI s 47 0 90 v) 47 0 91 (σ.1 47 0 0)) 47 0 92 (nI A)) 47 0 93 (nI W)) 47 0 94 (nI S)) 47 0 95 b) 47 0 96 (nI E)) = some ((), σ') ∧ (∀ j, ¬ (90 ≤ j ∧ j < 187) → σ'.1 47 0 j = σ.1 47 0 j) ∧ (∀ a b, a ≠ 47 → σ'.1 a b = σ.1 a b) ∧ σ'.1 47 0 90 = nI (min (c + 1) 16) ∧ σ'.1 47 0 91 = σ.1 47 0 0 ∧ σ'.1 47 0 92 = nI A ∧ σ'.1 47 0 93 = nI W ∧ σ'.1 47 0 94 = nI S ∧ σ'.1 47 0 95 = b ∧ σ'.1 47 0 96 = nI E ∧ ∀ j, 97 ≤ j → j < 187 → σ'.1 47 0 j = σ.1 47 0 (j - 6) := by
    intro v hv
    refine ⟨_, rfl, fun j hj => ?_, fun x y z => ?_, ?_, ?_, ?_, ?_, ?_, ?_, ?_, fun j g1 g2 => ?_⟩
    · rw [wIj (by omega), wIj (by omega), wIj (by omega), wIj (by omega), wIj (by omega), wIj (by omega), wIj (by omega), w1, if_neg (by omega)]
    · rw [wIc z, wIc z, wIc z, wIc z, wIc z, wIc z, wIc z, w2 x y z]
    · rw [wIj (by omega), wIj (by omega), wIj (by omega), wIj (by omega), wIj (by omega), wIj (by omega), wIe (by omega)]; exact hv
    · rw [wIj (by omega), wIj (by omega), wIj (by omega), wIj (by omega), wIj (by omega), wIe (by omega)]
    · rw [wIj (by omega), wIj (by omega), wIj (by omega), wIj (by omega), wIe (by omega)]
    · rw [wIj (by omega), wIj (by omega), wIj (by omega), wIe (by omega)]
    · rw [wIj (by omega), wIj (by omega), wIe (by omega)]
    · rw [wIj (by omega), wIe (by omega)]
    · rw [wIe (by omega)]
    · rw [wIj (by omega), wIj (by omega), wIj (by omega), wIj (by omega), wIj (by omega), wIj (by omega), wIj (by omega), w1, if_pos (by omega)]
  by_cases q : c = 16
  · rw [if_pos (by rw [q])]
    exact key _ (by rw [q]; rfl)
  · rw [if_neg (by rw [eq_n (by omega) (by omega)]; exact q), add_n]
    exact key _ (by rw [Nat.min_eq_left (by omega)])
/-- the class enters it -/
theorem c_enter {σ : St} {k d W S E : Nat} {T A x : Int32} (hd : d < 2000000000) (h1 : σ.1 5 k 1 = nI d) (a1 : σ.1 0 0 1 = nI W) (a2 : σ.1 0 0 2 = nI S) (a3 : σ.1 0 0 3 = nI E) (a4 : σ.1 0 0 4 = x) :
    ∃ σ', fX5_enter k T A σ = some ((), σ') ∧ (∀ a b, ¬ (a = 5 ∨ a = 40) → σ'.1 a b = σ.1 a b) ∧ σ'.2 = σ.2 ∧ σ'.1 5 k 0 = σ.1 5 k 0 ∧ σ'.1 5 k 1 = nI (d + 1) ∧ σ'.1 5 k 2 = (if x = -2 then σ.1 5 k 2 + nI 1 else σ.1 5 k 2) ∧ σ'.1 5 k 3 = σ.1 5 k 3 + nI E ∧ σ'.1 5 k 4 = σ.1 5 k 4 ∧ (∀ y, y < 16 → y ≠ d % 16 → σ'.1 40 (16 * k + y) = σ.1 40 (16 * k + y)) ∧ σ'.1 40 (16 * k + d % 16) 0 = T ∧ σ'.1 40 (16 * k + d % 16) 1 = A ∧ σ'.1 40 (16 * k + d % 16) 2 = nI W ∧ σ'.1 40 (16 * k + d % 16) 3 = nI S ∧ σ'.1 40 (16 * k + d % 16) 4 = x ∧ σ'.1 40 (16 * k + d % 16) 5 = nI E := by
  have hm : d % 16 < 16 := Nat.mod_lt _ (by omega)
  unfold fX5_enter
  rw [h1, c_fmod (by omega) (by omega) (by omega), bdS, gi_n hm (by omega), gi_0 (by omega), cl (by omega)]
  simp (disch := omega) only [gi_n, cl, sb_cl0, ltD]
  have z1 : ∀ (s : St) (q j : Nat) (v : Int32) (y : Nat), (wI s 40 q j v).1 0 0 y = s.1 0 0 y := fun s q j v y => wIj (by omega)
  have z2 : ∀ (s : St) (q j : Nat) (v : Int32) (y : Nat), (wI s 5 q j v).1 0 0 y = s.1 0 0 y := fun s q j v y => wIj (by omega)
  have z3 : ∀ (s : St) (q j : Nat) (v : Int32) (y : Nat), (wI s 40 q j v).1 5 k y = s.1 5 k y := fun s q j v y => wIj (by omega)
  simp only [z1, z2, z3, a1, a2, a3, a4, h1, add_n]
  have r3 : ∀ s : St, ∀ v, (wI s 5 k 1 v).1 5 k 3 = s.1 5 k 3 := fun s v => wIj (by omega)
  have r2 : ∀ s : St, ∀ v v', (wI (wI s 5 k 1 v) 5 k 3 v').1 5 k 2 = s.1 5 k 2 := fun s v v' => by rw [wIj (by omega), wIj (by omega)]
  simp only [r3, r2, z3]
  generalize hτ : wI (wI (wI (wI (wI (wI σ 40 (16 * k + d % 16) 0 T) 40 (16 * k + d % 16) 1 A) 40 (16 * k + d % 16) 2 (nI W)) 40 (16 * k + d % 16) 3 (nI S)) 40 (16 * k + d % 16) 4 x) 40 (16 * k + d % 16) 5 (nI E) = τ
  have t0 : ∀ a b, ¬ a = 40 → τ.1 a b = σ.1 a b := fun a b h => by subst hτ; rw [wIc h, wIc h, wIc h, wIc h, wIc h, wIc h]
  have t1 : ∀ y, y ≠ d % 16 → τ.1 40 (16 * k + y) = σ.1 40 (16 * k + y) := fun y h => by subst hτ; rw [wIk (by omega), wIk (by omega), wIk (by omega), wIk (by omega), wIk (by omega), wIk (by omega)]
  have t2 : τ.2 = σ.2 := by subst hτ; rfl
  have q0 : τ.1 40 (16 * k + d % 16) 0 = T := by subst hτ; rw [wIj (by omega), wIj (by omega), wIj (by omega), wIj (by omega), wIj (by omega), wIe (by omega)]
  have q1 : τ.1 40 (16 * k + d % 16) 1 = A := by subst hτ; rw [wIj (by omega), wIj (by omega), wIj (by omega), wIj (by omega), wIe (by omega)]
  have q2 : τ.1 40 (16 * k + d % 16) 2 = nI W := by subst hτ; rw [wIj (by omega), wIj (by omega), wIj (by omega), wIe (by omega)]
  have q3 : τ.1 40 (16 * k + d % 16) 3 = nI S := by subst hτ; rw [wIj (by omega), wIj (by omega), wIe (by omega)]
  have q4 : τ.1 40 (16 * k + d % 16) 4 = x := by subst hτ; rw [wIj (by omega), wIe (by omega)]
  have q5 : τ.1 40 (16 * k + d % 16) 5 = nI E := by subst hτ; rw [wIe (by omega)]
  clear hτ
  have t5 : τ.1 5 k = σ.1 5 k := t0 5 k (by omega)
  by_cases q : x = -2
  · rw [if_pos q]
    refine ⟨_, rfl, fun a b h => ?_, t2, ?_, ?_, ?_, ?_, ?_, fun y hy hne => ?_, ?_, ?_, ?_, ?_, ?_, ?_⟩
    · rw [wIc (by omega), wIc (by omega), wIc (by omega), t0 a b (by omega)]
    · rw [wIj (by omega), wIj (by omega), wIj (by omega), t5]
    · rw [wIj (by omega), wIj (by omega), wIe (by omega)]
    · rw [wIe (by omega), if_pos q]
    · rw [wIj (by omega), wIe (by omega)]
    · rw [wIj (by omega), wIj (by omega), wIj (by omega), t5]
    · rw [wIc (by omega), wIc (by omega), wIc (by omega), t1 y hne]
    · rw [wIc (by omega), wIc (by omega), wIc (by omega)]; exact q0
    · rw [wIc (by omega), wIc (by omega), wIc (by omega)]; exact q1
    · rw [wIc (by omega), wIc (by omega), wIc (by omega)]; exact q2
    · rw [wIc (by omega), wIc (by omega), wIc (by omega)]; exact q3
    · rw [wIc (by omega), wIc (by omega), wIc (by omega)]; exact q4
    · rw [wIc (by omega), wIc (by omega), wIc (by omega)]; exact q5
  · rw [if_neg q]
    refine ⟨_, rfl, fun a b h => ?_, t2, ?_, ?_, ?_, ?_, ?_, fun y hy hne => ?_, ?_, ?_, ?_, ?_, ?_, ?_⟩
    · rw [wIc (by omega), wIc (by omega), t0 a b (by omega)]
    · rw [wIj (by omega), wIj (by omega), t5]
    · rw [wIj (by omega), wIe (by omega)]
    · rw [wIj (by omega), wIj (by omega), if_neg q, t5]
    · rw [wIe (by omega)]
    · rw [wIj (by omega), wIj (by omega), t5]
    · rw [wIc (by omega), wIc (by omega), t1 y hne]
    · rw [wIc (by omega), wIc (by omega)]; exact q0
    · rw [wIc (by omega), wIc (by omega)]; exact q1
    · rw [wIc (by omega), wIc (by omega)]; exact q2
    · rw [wIc (by omega), wIc (by omega)]; exact q3
    · rw [wIc (by omega), wIc (by omega)]; exact q4
    · rw [wIc (by omega), wIc (by omega)]; exact q5
