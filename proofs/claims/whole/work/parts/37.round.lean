/-! ===== a round of the arbiter ===== -/
def thL (L : Nat → Nat) (v : Nat) : Nat := bsN 6 (fun l => decide (L l = v))
theorem c_lines {σ : St} {k v : Nat} {L : Nat → Nat} (hv : v < 100) (h : ∀ l, l < 6 → σ.1 33 k l = nI (L l) ∧ L l ≤ 2) : fX4_linesThat k (nI v) σ = some (nI (thL L v), σ) := by
  unfold fX4_linesThat
  obtain ⟨s, hs, e⟩ := lp0 (fun m i (s : Int32) => LX4_linesThat_4 k (nI v) (fun (x4 : Int32) (σ5 : St) => some (x4, σ5)) m s (nI i) σ) (fun s => some (s, σ)) 6 (by omega) (fun i s => s = nI (bsN i (fun l => decide (L l = v)))) 0 rfl
    (fun m s _ => by
      rw [LX4_linesThat_4, if_pos (by rw [le_n (by omega) (by omega)]; exact Nat.le_refl _)])
    (fun m i s hi hI => by
      refine ⟨_, rfl, ?_⟩
      obtain ⟨l1, l2⟩ := h i hi
      rw [LX4_linesThat_4, if_neg (by rw [le_n (by omega) (by omega)]; omega)]
      simp (disch := omega) only [gi_n, cl, jnD, ltD, add_n, shl_1, l1, eq_n]
      rw [hI, bsN]
      by_cases q : L i = v
      · rw [if_pos q, if_pos (decide_eq_true q), or_n]
      · rw [if_neg q, if_neg (fun z => q (of_decide_eq_true z)), Nat.or_zero])
  rw [hs] at e
  exact e
/-- the class is wired -/
def CW (σ : St) (n g : Nat) (s L : Nat → Nat) : Prop := σ.1 1 0 7 = nI n ∧ σ.1 1 0 8 = nI g ∧ (∀ a b, a < n → b < n → σ.1 12 a b = nI (apN s a b)) ∧ σ.1 1 0 9 = nI (thL L 1) ∧ σ.1 1 0 10 = nI (thL L 2)
theorem CW.kp {S : List (Nat × Nat × Nat)} {σ σ' : St} {n g : Nat} {s L : Nat → Nat} (h : CW σ n g s L) (hk : Kp S σ σ') (h12 : S.all (fun e => !(e.1 == 12)) = true) (h1 : ∀ j, j < 11 → σ'.1 1 0 j = σ.1 1 0 j) : CW σ' n g s L := by
  unfold CW
  rw [h1 7 (by omega), h1 8 (by omega), h1 9 (by omega), h1 10 (by omega)]
  exact ⟨h.1, h.2.1, fun a b ha hb => by rw [kpc hk 12 a h12]; exact h.2.2.1 a b ha hb, h.2.2.2⟩
abbrev SR : List (Nat × Nat × Nat) := [(1, 0, 1), (14, 0, 6), (16, 0, 6), (18, 0, 6), (20, 0, 6), (22, 0, 6), (10, 0, 1)]
theorem c_round {σ : St} {q : PP} (hq : POk q) (hW : CW σ (pN q) (pG q) (pS q) (pL q)) (hD : D13 σ) (f : Nat → Int32) (hf : ∀ b, b < pN q → f b = nI (pW q b)) {win : Nat} (hw : win ≤ 400) :
    ∃ σ', fX1_play (nI (pC q)) (nI (pF q)) (nI win) (wA σ 10 0 f) = some ((), σ') ∧ Kp SR σ σ' ∧ CW σ' (pN q) (pG q) (pS q) (pL q) ∧ D13 σ' ∧ PR σ' q win := by
  have kA : Kp SR σ (wA σ 10 0 f) := kp_rf.wA (fr_m 6 rfl (Nat.le_refl _) (by omega))
  have a10 : ∀ b, (wA σ 10 0 f).1 10 0 b = f b := fun b => by rw [rA, if_pos ⟨rfl, rfl⟩]
  have aO : ∀ a b, a ≠ 10 → (wA σ 10 0 f).1 a b = σ.1 a b := fun a b h => by rw [rA, if_neg (fun z => h z.1)]
  have hW1 : CW (wA σ 10 0 f) (pN q) (pG q) (pS q) (pL q) := hW.kp kA rfl (fun j _ => by rw [aO 1 0 (by omega)])
  have hD1 : D13 (wA σ 10 0 f) := by
    obtain ⟨d, d1, d2, d3⟩ := hD
    exact ⟨d, d1, by rw [aO 1 0 (by omega)]; exact d2, fun o ho u g1 g2 => by rw [aO 22 o (by omega)]; exact d3 o ho u g1 g2⟩
  have hP : CPr (wI (wI (wA σ 10 0 f) 1 0 11 (nI (pC q))) 1 0 12 (nI (pF q))) q := by
    have z : ∀ a b c, (a ≠ 1 ∨ c < 11) → (wI (wI (wA σ 10 0 f) 1 0 11 (nI (pC q))) 1 0 12 (nI (pF q))).1 a b c = (wA σ 10 0 f).1 a b c := fun a b c h => by
      rw [rI, if_neg (fun z => by omega), rI, if_neg (fun z => by omega)]
    refine ⟨?_, ?_, ?_, ?_, fun a b ha hb => ?_, fun b hb => ?_, ?_, ?_⟩
    · rw [z _ _ _ (Or.inr (by omega))]; exact hW1.1
    · rw [z _ _ _ (Or.inr (by omega))]; exact hW1.2.1
    · rw [rI, if_pos ⟨rfl, rfl, rfl⟩]
    · rw [rI, if_neg (fun z => by omega), rI, if_pos ⟨rfl, rfl, rfl⟩]
    · rw [z _ _ _ (Or.inl (by omega))]; exact hW1.2.2.1 a b ha hb
    · rw [z _ _ _ (Or.inl (by omega)), a10]; exact hf b hb
    · rw [z _ _ _ (Or.inr (by omega))]; exact hW1.2.2.2.1
    · rw [z _ _ _ (Or.inr (by omega))]; exact hW1.2.2.2.2
  obtain ⟨σ', T, e, t1, t2, t3, t4, t5⟩ := c_play hq hD1 hP hw
  exact ⟨σ', e, kA.tr t2 (kp_pick [0, 1, 2, 3, 4, 5] rfl), hW1.kp t2 rfl t5, t3.2.1.2.2.2.1, hw, T, t1, t3, t4⟩
/-- the only one of a set -/
def onN (x : Nat) : Option Nat := if x = 1 then some 0 else if x = 2 then some 1 else if x = 4 then some 2 else if x = 8 then some 3 else if x = 16 then some 4 else if x = 32 then some 5 else none
theorem c_only (σ : St) {x : Nat} (hx : x < 64) : fX0_only (nI x) σ = some (wv (onN x), σ) := by
  have st : ∀ (m i : Nat), i < 6 → LX0_only_2 (nI x) (fun (σ1 : St) => some ((-2), σ1)) (m + 1) (nI i) σ = if x = 2 ^ i then some (nI i, σ) else LX0_only_2 (nI x) (fun (σ1 : St) => some ((-2), σ1)) m (nI (i + 1)) σ := fun m i hi => by
    have h2 : 2 ^ i < 64 := Nat.lt_of_lt_of_le (Nat.pow_lt_pow_right (by omega) hi) (by omega)
    rw [LX0_only_2, if_neg (by rw [le_n (by omega) (by omega)]; omega), shl_1 (by omega), add_n]
    by_cases q : x = 2 ^ i
    · rw [if_pos q, if_pos (by rw [q])]
    · rw [if_neg q, if_neg (by rw [eq_n (by omega) (by omega)]; exact q)]
  have se : ∀ m : Nat, LX0_only_2 (nI x) (fun (σ1 : St) => some ((-2), σ1)) (m + 1) (nI 6) σ = some (-2, σ) := fun m => by
    rw [LX0_only_2, if_pos (by rw [le_n (by omega) (by omega)]; exact Nat.le_refl _)]
  have hfu : ∃ m, FU = m + 1 + 1 + 1 + 1 + 1 + 1 + 1 := ⟨FU - 7, by have := FU_gt; omega⟩
  obtain ⟨m, hm⟩ := hfu
  unfold fX0_only
  rw [hm]
  show LX0_only_2 (nI x) (fun (σ1 : St) => some ((-2), σ1)) (m + 1 + 1 + 1 + 1 + 1 + 1 + 1) (nI 0) σ = _
  rw [st _ 0 (by omega), st _ 1 (by omega), st _ 2 (by omega), st _ 3 (by omega), st _ 4 (by omega), st _ 5 (by omega), se]
  unfold onN
  by_cases q0 : x = 1
  · rw [if_pos q0, if_pos q0]; rfl
  rw [if_neg (show ¬ x = 2 ^ 0 from q0), if_neg q0]
  by_cases q1 : x = 2
  · rw [if_pos q1, if_pos q1]; rfl
  rw [if_neg (show ¬ x = 2 ^ 1 from q1), if_neg q1]
  by_cases q2 : x = 4
  · rw [if_pos q2, if_pos q2]; rfl
  rw [if_neg (show ¬ x = 2 ^ 2 from q2), if_neg q2]
  by_cases q3 : x = 8
  · rw [if_pos q3, if_pos q3]; rfl
  rw [if_neg (show ¬ x = 2 ^ 3 from q3), if_neg q3]
  by_cases q4 : x = 16
  · rw [if_pos q4, if_pos q4]; rfl
  rw [if_neg (show ¬ x = 2 ^ 4 from q4), if_neg q4]
  by_cases q5 : x = 32
  · rw [if_pos q5, if_pos q5]; rfl
  rw [if_neg (show ¬ x = 2 ^ 5 from q5), if_neg q5]
  rfl
/-- what comes of an arbitration: winners of both passes, faulty passes -/
def aW (q : PP) (win : Nat) : Nat := wiN q (tO (tb q 401)) win (pN q)
def aF (q : PP) (win : Nat) : Nat := if faN q (tT (tb q 401)) win = true then 1 else 0
def pw2 (q : PP) (w2 : Nat → Nat) (C2 : Nat) : PP := (pN q, pG q, pF q, C2, pS q, w2, pL q)
def aS (q : PP) (w2 : Nat → Nat) (win : Nat) : Nat := if aW q win = 0 then 0 else aW (pw2 q w2 (aW q win)) win
def aE (q : PP) (w2 : Nat → Nat) (win : Nat) : Nat := aF q win + (if aW q win = 0 then 0 else aF (pw2 q w2 (aW q win)) win)
theorem aW_le {q : PP} (hq : POk q) (win : Nat) : aW q win < 2 ^ pN q := bsN_lt _ _
theorem pw2_ok {q : PP} (hq : POk q) {w2 : Nat → Nat} (hw : ∀ b, b < pN q → w2 b < 64) {C2 : Nat} (hC : C2 < 2 ^ pN q) : POk (pw2 q w2 C2) := ⟨hq.1, hq.2.1, hq.2.2.1, hq.2.2.2.1, hC, hq.2.2.2.2.2.1, hw, hq.2.2.2.2.2.2.2⟩
