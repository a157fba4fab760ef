/-! ===== the class wires a pass ===== -/
abbrev SW : List (Nat × Nat × Nat) := [(1, 0, 1), (12, 0, 6)]
theorem c_dist {a b : Nat} (ha : a < 10) (hb : b < 10) : (if 0 ≤ (nI a - nI b) then nI a - nI b else 0 - (nI a - nI b)) = nI ((a - b) + (b - a)) := by
  rcases Nat.lt_or_ge a b with q | q
  · have hneg := pk_sneg (a := a) (b := b) (by omega) q
    rw [if_neg (Int32.not_le.mpr hneg), Int32.zero_sub, Int32.neg_sub, sub_n (by omega), show a - b + (b - a) = b - a by omega]
  · rw [sub_n q, if_pos (by rw [ge_0 (by omega)]; trivial), show a - b + (b - a) = a - b by omega]
theorem c_wire {σ : St} {k1 n g st br : Nat} {s : Nat → Nat} (hn : n ≤ 6) (h3 : σ.1 2 k1 3 = nI n) (h0 : σ.1 2 k1 0 = nI g) (hs : ∀ b, b < n → σ.1 24 k1 b = nI (s b) ∧ s b < 10) :
    ∃ σ', fX1_wire k1 (nI st) (nI br) σ = some ((), σ') ∧ Kp SW σ σ' ∧ (∀ j, 11 ≤ j ∨ j < 7 → σ'.1 1 0 j = σ.1 1 0 j) ∧ σ'.1 1 0 7 = nI n ∧ σ'.1 1 0 8 = nI g ∧ σ'.1 1 0 9 = nI st ∧ σ'.1 1 0 10 = nI br ∧ ∀ a b, a < n → b < n → σ'.1 12 a b = nI (apN s a b) := by
  unfold fX1_wire
  rw [h3, show (if nI 6 < nI n then nI 6 else nI n) = nI n from if_neg (by rw [lt_n (by omega) (by omega)]; omega)]
  simp only [ltD]
  rw [show (wI σ 1 0 7 (nI n)).1 2 k1 0 = nI g by rw [rI, if_neg (fun z => by omega)]; exact h0]
  have k0 : Kp SW σ (wI (wI (wI (wI σ 1 0 7 (nI n)) 1 0 8 (nI g)) 1 0 9 (nI st)) 1 0 10 (nI br)) := (((kp_rf.wI (fr_m 0 rfl (Nat.le_refl _) (by omega))).wI (fr_m 0 rfl (Nat.le_refl _) (by omega))).wI (fr_m 0 rfl (Nat.le_refl _) (by omega))).wI (fr_m 0 rfl (Nat.le_refl _) (by omega))
  have c7 : (wI (wI (wI (wI σ 1 0 7 (nI n)) 1 0 8 (nI g)) 1 0 9 (nI st)) 1 0 10 (nI br)).1 1 0 7 = nI n := by simp [rI]
  have c8 : (wI (wI (wI (wI σ 1 0 7 (nI n)) 1 0 8 (nI g)) 1 0 9 (nI st)) 1 0 10 (nI br)).1 1 0 8 = nI g := by simp [rI]
  have c9 : (wI (wI (wI (wI σ 1 0 7 (nI n)) 1 0 8 (nI g)) 1 0 9 (nI st)) 1 0 10 (nI br)).1 1 0 9 = nI st := by simp [rI]
  have c10 : (wI (wI (wI (wI σ 1 0 7 (nI n)) 1 0 8 (nI g)) 1 0 9 (nI st)) 1 0 10 (nI br)).1 1 0 10 = nI br := by simp [rI]
  have cj : ∀ j, 11 ≤ j ∨ j < 7 → (wI (wI (wI (wI σ 1 0 7 (nI n)) 1 0 8 (nI g)) 1 0 9 (nI st)) 1 0 10 (nI br)).1 1 0 j = σ.1 1 0 j := fun j hj => by
    rw [rI, if_neg (fun z => by omega), rI, if_neg (fun z => by omega), rI, if_neg (fun z => by omega), rI, if_neg (fun z => by omega)]
  generalize wI (wI (wI (wI σ 1 0 7 (nI n)) 1 0 8 (nI g)) 1 0 9 (nI st)) 1 0 10 (nI br) = τ at k0 c7 c8 c9 c10 cj
  have hs' : ∀ b, b < n → τ.1 24 k1 b = nI (s b) := fun b hb => by rw [kpc k0 24 k1 rfl]; exact (hs b hb).1
  obtain ⟨r, ⟨g1, g2⟩, e⟩ := lp0 (fun m i (s : St) => LX1_wire_34 k1 (fun (σ8 : St) => some ((), σ8)) m (nI i) s) (fun s => some ((), s)) n (by omega)
    (fun i r => Kp [(12, 0, 6)] τ r ∧ ∀ a b, a < i → b < n → r.1 12 a b = nI (apN s a b)) τ ⟨kp_rf, fun a b ha => by omega⟩
    (fun m r hI => by
      rw [LX1_wire_34, kpc hI.1 1 0 rfl, c7, if_pos (by rw [le_n (by omega) (by omega)]; exact Nat.le_refl _)])
    (fun m i r hi hI => by
      rw [LX1_wire_34, kpc hI.1 1 0 rfl, c7, if_neg (by rw [le_n (by omega) (by omega)]; omega), add_n]
      obtain ⟨r', ⟨k1', k2, k3⟩, e⟩ := lp0 (fun m' u (s : St) => LX1_wire_46 k1 (nI i) (fun (σ7 : St) => LX1_wire_34 k1 (fun (σ8 : St) => some ((), σ8)) m (nI (i + 1)) σ7) m' (nI u) s) (fun s => LX1_wire_34 k1 (fun (σ8 : St) => some ((), σ8)) m (nI (i + 1)) s) n (by omega)
        (fun v r => Kp [(12, 0, 6)] τ r ∧ (∀ a b, a < i → b < n → r.1 12 a b = nI (apN s a b)) ∧ ∀ b, b < v → r.1 12 i b = nI (apN s i b)) r ⟨hI.1, hI.2, fun b hb => by omega⟩
        (fun m' r hJ => by
          rw [LX1_wire_46, kpc hJ.1 1 0 rfl, c7, if_pos (by rw [le_n (by omega) (by omega)]; exact Nat.le_refl _)])
        (fun m' v r hv hJ => by
          obtain ⟨j1, j2, j3⟩ := hJ
          have x1 : r.1 24 k1 i = nI (s i) := by rw [kpc j1 24 k1 rfl]; exact hs' i hi
          have x2 : r.1 24 k1 v = nI (s v) := by rw [kpc j1 24 k1 rfl]; exact hs' v hv
          rw [LX1_wire_46, kpc j1 1 0 rfl, c7, if_neg (by rw [le_n (by omega) (by omega)]; omega)]
          simp (disch := omega) only [gi_n, cl, ltD, add_n, x1, x2]
          rw [c_dist (hs i hi).2 (hs v hv).2]
          refine ⟨_, ⟨j1.wI (fr_m 0 rfl (Nat.zero_le _) (by omega)), fun a b ha hb => ?_, fun b hb => ?_⟩, rfl⟩
          · rw [rI, if_neg (fun z => by omega)]; exact j2 a b ha hb
          · rw [rI]
            by_cases q : b = v
            · rw [if_pos ⟨rfl, rfl, q⟩, q]; rfl
            · rw [if_neg (fun z => q z.2.2)]; exact j3 b (by omega))
      refine ⟨r', ⟨k1', fun a b ha hb => ?_⟩, e⟩
      by_cases q : a = i
      · subst q; exact k3 b hb
      · exact k2 a b (by omega) hb)
  refine ⟨r, e, k0.tr g1 (kp_pick [1] rfl), fun j hj => ?_, ?_, ?_, ?_, ?_, fun a b ha hb => g2 a b ha hb⟩
  · rw [kpc g1 1 0 rfl]; exact cj j hj
  · rw [kpc g1 1 0 rfl]; exact c7
  · rw [kpc g1 1 0 rfl]; exact c8
  · rw [kpc g1 1 0 rfl]; exact c9
  · rw [kpc g1 1 0 rfl]; exact c10
