/-! ===== the cells that the constructors made are the world ===== -/
def adGl (t d a r0 r1 r2 p4 p5 m : Nat → Nat → Nat) (h o : Nat) : Nat → Nat → Nat := adT [a 0, a 1, fun k => [d 2 0, r0 2 0, r1 2 0, r2 2 0, p4 2 0, p5 2 0].getD k 0, d 3, fun k => [r0 4 0, r1 4 0, r2 4 0].getD k 0, fun k => [r0 5 0, r1 5 0, r2 5 0].getD k 0, t 6, fun _ => h, m 8, fun _ => 0, a 10, a 11, a 12, a 13, a 14, a 15, a 16, a 17, a 18, a 19, a 20, a 21, a 22, fun k => [d 23 0, r0 23 0, r1 23 0, r2 23 0, p4 23 0, p5 23 0].getD k 0, fun k => [d 24 0, r0 24 0, r1 24 0, r2 24 0, p4 24 0, p5 24 0].getD k 0, fun k => [d 25 0, r0 25 0, r1 25 0, r2 25 0, p4 25 0, p5 25 0].getD k 0, fun k => [d 26 0, r0 26 0, r1 26 0, r2 26 0, p4 26 0, p5 26 0].getD k 0, fun k => [d 27 0, r0 27 0, r1 27 0, r2 27 0, p4 27 0, p5 27 0].getD k 0, fun k => [d 28 0, r0 28 0, r1 28 0, r2 28 0, p4 28 0, p5 28 0].getD k 0, fun k => [d 29 0, r0 29 0, r1 29 0, r2 29 0, p4 29 0, p5 29 0].getD k 0, fun k => [d 30 0, r0 30 0, r1 30 0, r2 30 0, p4 30 0, p5 30 0].getD k 0, fun k => [r0 31 0, r1 31 0, r2 31 0].getD k 0, fun k => [r0 32 0, r1 32 0, r2 32 0].getD k 0, fun k => [r0 33 0, r1 33 0, r2 33 0].getD k 0, fun k => [r0 34 0, r1 34 0, r2 34 0].getD k 0, fun k => [r0 35 0, r1 35 0, r2 35 0].getD k 0, fun k => [r0 36 0, r1 36 0, r2 36 0].getD k 0, fun k => [r0 37 0, r1 37 0, r2 37 0].getD k 0, fun k => ([r0 38, r1 38, r2 38].getD (k / 6) (fun _ => 0)) (k % 6), fun k => [r0 39 0, r1 39 0, r2 39 0].getD k 0, fun k => ([r0 40, r1 40, r2 40].getD (k / 16) (fun _ => 0)) (k % 16), fun k => [r0 41 0, r1 41 0, r2 41 0].getD k 0, t 42, m 43, m 44, m 45, m 46, m 47, m 48, m 49, m 50, m 51, m 52, m 53, m 54, m 55, fun _ => o]
def sim (x y : Nat × va_E) : Prop := x.1 = y.1 ∧ ∀ (D : va_G) (H : Heap), va_at D vwCl x H → va_at D vwCl y H
def simL : va_W → va_W → Prop
  | [], [] => True
  | x :: xs, y :: ys => sim x y ∧ simL xs ys
  | [], _ :: _ => False
  | _ :: _, [] => False
theorem simL_nil : simL [] [] := trivial
theorem simL_cons {x y : Nat × va_E} {xs ys : va_W} (h : sim x y) (hs : simL xs ys) : simL (x :: xs) (y :: ys) := ⟨h, hs⟩
theorem sim_of {x y : Nat × va_E} (h1 : x.1 = y.1) (h2 : x.2 = y.2) : sim x y := by
  have e : x = y := Prod.ext h1 h2
  subst e
  exact ⟨rfl, fun _ _ h => h⟩
theorem simL_app : ∀ {a a' b b' : va_W}, simL a a' → simL b b' → simL (a ++ b) (a' ++ b')
  | [], [], _, _, _, h => h
  | _ :: _, _ :: _, _, _, h1, h2 => ⟨h1.1, simL_app h1.2 h2⟩
  | [], _ :: _, _, _, h, _ => h.elim
  | _ :: _, [], _, _, h, _ => h.elim
theorem simL_at : ∀ {a a' : va_W}, simL a a' → ∀ y ∈ a', ∃ x ∈ a, sim x y
  | [], [], _, y, hy => absurd hy List.not_mem_nil
  | x :: xs, z :: zs, h, y, hy => by
    rcases List.mem_cons.mp hy with e | e
    · exact ⟨x, List.mem_cons_self, by rw [e]; exact h.1⟩
    · obtain ⟨x', h1, h2⟩ := simL_at h.2 y e
      exact ⟨x', List.mem_cons_of_mem _ h1, h2⟩
  | [], _ :: _, h, _, _ => h.elim
  | _ :: _, [], h, _, _ => h.elim
theorem simL_fst : ∀ {a a' : va_W}, simL a a' → a.map Prod.fst = a'.map Prod.fst
  | [], [], _ => rfl
  | x :: xs, z :: zs, h => by rw [List.map_cons, List.map_cons, h.1.1, simL_fst h.2]
  | [], _ :: _, h => h.elim
  | _ :: _, [], h => h.elim
theorem simL_P {a a' : va_W} {D : va_G} {H : Heap} (h : simL a a') (hP : va_P D vwCl a H) : va_P D vwCl a' H := by
  rw [P_mem] at hP ⊢
  intro y hy
  obtain ⟨x, h1, h2⟩ := simL_at h y hy
  exact h2.2 D H (hP x h1)
section JOIN
variable {t d a r0 r1 r2 p4 p5 m : Nat → Nat → Nat} {h o : Nat} {cy : Nat → ClassId}
theorem adGl_38 {k i : Nat} (hi : i < 6) : adGl t d a r0 r1 r2 p4 p5 m h o 38 (6 * k + i) = ([r0 38, r1 38, r2 38].getD k (fun _ => 0)) i := by
  show ([r0 38, r1 38, r2 38].getD ((6 * k + i) / 6) (fun _ => 0)) ((6 * k + i) % 6) = _
  rw [show (6 * k + i) / 6 = k by omega, show (6 * k + i) % 6 = i by omega]
theorem adGl_40 {k i : Nat} (hi : i < 16) : adGl t d a r0 r1 r2 p4 p5 m h o 40 (16 * k + i) = ([r0 40, r1 40, r2 40].getD k (fun _ => 0)) i := by
  show ([r0 40, r1 40, r2 40].getD ((16 * k + i) / 16) (fun _ => 0)) ((16 * k + i) % 16) = _
  rw [show (16 * k + i) / 16 = k by omega, show (16 * k + i) % 16 = i by omega]
def vg6 : List (Nat × Nat) := [(6, 0), (42, 0)]
set_option maxRecDepth 100000 in
theorem sim_6 : simL (wcV vv6 t cy z0) (wcV vg6 (adGl t d a r0 r1 r2 p4 p5 m h o) cy st0) := by
  refine simL_cons (sim_of rfl rfl) ?_
  refine simL_cons (sim_of rfl rfl) ?_
  exact simL_nil
def vg3 : List (Nat × Nat) := [(3, 0), (2, 0), (23, 0), (24, 0), (25, 0), (26, 0), (27, 0), (28, 0), (29, 0), (30, 0)]
set_option maxRecDepth 100000 in
theorem sim_3 (hd6 : d 6 0 = t 6 0) : simL (wcV vv3 d cy z0) (wcV vg3 (adGl t d a r0 r1 r2 p4 p5 m h o) cy st0) := by
  refine simL_cons (sim_of rfl (show (Sum.inr (3, [.int 0, .int 0, .ref (d 6 0), .ref (d 2 0), .int 0, .int 0, .int 0, .int 0, .int 0]) : va_E) = Sum.inr (3, [.int 0, .int 0, .ref (t 6 0), .ref (d 2 0), .int 0, .int 0, .int 0, .int 0, .int 0]) by rw [hd6])) ?_
  refine simL_cons (sim_of rfl rfl) ?_
  refine simL_cons (sim_of rfl rfl) ?_
  refine simL_cons (sim_of rfl rfl) ?_
  refine simL_cons (sim_of rfl rfl) ?_
  refine simL_cons (sim_of rfl rfl) ?_
  refine simL_cons (sim_of rfl rfl) ?_
  refine simL_cons (sim_of rfl rfl) ?_
  refine simL_cons (sim_of rfl rfl) ?_
  refine simL_cons (sim_of rfl rfl) ?_
  exact simL_nil
def vg0 : List (Nat × Nat) := [(0, 0), (1, 0), (10, 0), (11, 0), (12, 0), (12, 1), (12, 2), (12, 3), (12, 4), (12, 5), (13, 0), (14, 0), (14, 1), (14, 2), (14, 3), (14, 4), (14, 5), (15, 0), (16, 0), (16, 1), (16, 2), (16, 3), (16, 4), (16, 5), (17, 0), (18, 0), (18, 1), (18, 2), (18, 3), (18, 4), (18, 5), (19, 0), (20, 0), (20, 1), (20, 2), (20, 3), (20, 4), (20, 5), (21, 0), (22, 0), (22, 1), (22, 2), (22, 3), (22, 4), (22, 5)]
set_option maxRecDepth 100000 in
theorem sim_0 : simL (wcV vv0 a cy z0) (wcV vg0 (adGl t d a r0 r1 r2 p4 p5 m h o) cy st0) := by
  refine simL_cons (sim_of rfl rfl) ?_
  refine simL_cons (sim_of rfl rfl) ?_
  refine simL_cons (sim_of rfl rfl) ?_
  refine simL_cons (sim_of rfl rfl) ?_
  refine simL_cons (sim_of rfl rfl) ?_
  refine simL_cons (sim_of rfl rfl) ?_
  refine simL_cons (sim_of rfl rfl) ?_
  refine simL_cons (sim_of rfl rfl) ?_
  refine simL_cons (sim_of rfl rfl) ?_
  refine simL_cons (sim_of rfl rfl) ?_
  refine simL_cons (sim_of rfl rfl) ?_
  refine simL_cons (sim_of rfl rfl) ?_
  refine simL_cons (sim_of rfl rfl) ?_
  refine simL_cons (sim_of rfl rfl) ?_
  refine simL_cons (sim_of rfl rfl) ?_
  refine simL_cons (sim_of rfl rfl) ?_
  refine simL_cons (sim_of rfl rfl) ?_
  refine simL_cons (sim_of rfl rfl) ?_
  refine simL_cons (sim_of rfl rfl) ?_
  refine simL_cons (sim_of rfl rfl) ?_
  refine simL_cons (sim_of rfl rfl) ?_
  refine simL_cons (sim_of rfl rfl) ?_
  refine simL_cons (sim_of rfl rfl) ?_
  refine simL_cons (sim_of rfl rfl) ?_
  refine simL_cons (sim_of rfl rfl) ?_
  refine simL_cons (sim_of rfl rfl) ?_
  refine simL_cons (sim_of rfl rfl) ?_
  refine simL_cons (sim_of rfl rfl) ?_
  refine simL_cons (sim_of rfl rfl) ?_
  refine simL_cons (sim_of rfl rfl) ?_
  refine simL_cons (sim_of rfl rfl) ?_
  refine simL_cons (sim_of rfl rfl) ?_
  refine simL_cons (sim_of rfl rfl) ?_
  refine simL_cons (sim_of rfl rfl) ?_
  refine simL_cons (sim_of rfl rfl) ?_
  refine simL_cons (sim_of rfl rfl) ?_
  refine simL_cons (sim_of rfl rfl) ?_
  refine simL_cons (sim_of rfl rfl) ?_
  refine simL_cons (sim_of rfl rfl) ?_
  refine simL_cons (sim_of rfl rfl) ?_
  refine simL_cons (sim_of rfl rfl) ?_
  refine simL_cons (sim_of rfl rfl) ?_
  refine simL_cons (sim_of rfl rfl) ?_
  refine simL_cons (sim_of rfl rfl) ?_
  refine simL_cons (sim_of rfl rfl) ?_
  exact simL_nil
def vgr0 : List (Nat × Nat) := [(4, 0), (5, 0), (37, 0), (38, 0), (38, 1), (38, 2), (38, 3), (38, 4), (38, 5), (39, 0), (40, 0), (40, 1), (40, 2), (40, 3), (40, 4), (40, 5), (40, 6), (40, 7), (40, 8), (40, 9), (40, 10), (40, 11), (40, 12), (40, 13), (40, 14), (40, 15), (41, 0), (2, 1), (23, 1), (24, 1), (25, 1), (26, 1), (27, 1), (28, 1), (29, 1), (30, 1), (31, 0), (32, 0), (33, 0), (34, 0), (35, 0), (36, 0)]
set_option maxRecDepth 100000 in
theorem sim_r0 : simL (wcV vv4 r0 cy z0) (wcV vgr0 (adGl t d a r0 r1 r2 p4 p5 m h o) cy st0) := by
  refine simL_cons (sim_of rfl rfl) ?_
  refine simL_cons (sim_of rfl rfl) ?_
  refine simL_cons ⟨rfl, fun D H z => grid_at (N := 6) (f := fun i => some (r0 38 (0 + i))) (f' := fun i => some ((adGl t d a r0 r1 r2 p4 p5 m h o) 38 (6 * 0 + i))) (fun i hi => by rw [adGl_38 hi, Nat.zero_add]; rfl) z⟩ ?_
  refine simL_cons (sim_of rfl rfl) ?_
  refine simL_cons (sim_of rfl rfl) ?_
  refine simL_cons (sim_of rfl rfl) ?_
  refine simL_cons (sim_of rfl rfl) ?_
  refine simL_cons (sim_of rfl rfl) ?_
  refine simL_cons (sim_of rfl rfl) ?_
  refine simL_cons ⟨rfl, fun D H z => grid_at (N := 16) (f := fun i => some (r0 40 (0 + i))) (f' := fun i => some ((adGl t d a r0 r1 r2 p4 p5 m h o) 40 (16 * 0 + i))) (fun i hi => by rw [adGl_40 hi, Nat.zero_add]; rfl) z⟩ ?_
  refine simL_cons (sim_of rfl rfl) ?_
  refine simL_cons (sim_of rfl rfl) ?_
  refine simL_cons (sim_of rfl rfl) ?_
  refine simL_cons (sim_of rfl rfl) ?_
  refine simL_cons (sim_of rfl rfl) ?_
  refine simL_cons (sim_of rfl rfl) ?_
  refine simL_cons (sim_of rfl rfl) ?_
  refine simL_cons (sim_of rfl rfl) ?_
  refine simL_cons (sim_of rfl rfl) ?_
  refine simL_cons (sim_of rfl rfl) ?_
  refine simL_cons (sim_of rfl rfl) ?_
  refine simL_cons (sim_of rfl rfl) ?_
  refine simL_cons (sim_of rfl rfl) ?_
  refine simL_cons (sim_of rfl rfl) ?_
  refine simL_cons (sim_of rfl rfl) ?_
  refine simL_cons (sim_of rfl rfl) ?_
  refine simL_cons (sim_of rfl rfl) ?_
  refine simL_cons (sim_of rfl rfl) ?_
  refine simL_cons (sim_of rfl rfl) ?_
  refine simL_cons (sim_of rfl rfl) ?_
  refine simL_cons (sim_of rfl rfl) ?_
  refine simL_cons (sim_of rfl rfl) ?_
  refine simL_cons (sim_of rfl rfl) ?_
  refine simL_cons (sim_of rfl rfl) ?_
  refine simL_cons (sim_of rfl rfl) ?_
  refine simL_cons (sim_of rfl rfl) ?_
  refine simL_cons (sim_of rfl rfl) ?_
  refine simL_cons (sim_of rfl rfl) ?_
  refine simL_cons (sim_of rfl rfl) ?_
  refine simL_cons (sim_of rfl rfl) ?_
  refine simL_cons (sim_of rfl rfl) ?_
  refine simL_cons (sim_of rfl rfl) ?_
  exact simL_nil
def vgr1 : List (Nat × Nat) := [(4, 1), (5, 1), (37, 1), (38, 6), (38, 7), (38, 8), (38, 9), (38, 10), (38, 11), (39, 1), (40, 16), (40, 17), (40, 18), (40, 19), (40, 20), (40, 21), (40, 22), (40, 23), (40, 24), (40, 25), (40, 26), (40, 27), (40, 28), (40, 29), (40, 30), (40, 31), (41, 1), (2, 2), (23, 2), (24, 2), (25, 2), (26, 2), (27, 2), (28, 2), (29, 2), (30, 2), (31, 1), (32, 1), (33, 1), (34, 1), (35, 1), (36, 1)]
set_option maxRecDepth 100000 in
theorem sim_r1 : simL (wcV vv4 r1 cy z0) (wcV vgr1 (adGl t d a r0 r1 r2 p4 p5 m h o) cy st0) := by
  refine simL_cons (sim_of rfl rfl) ?_
  refine simL_cons (sim_of rfl rfl) ?_
  refine simL_cons ⟨rfl, fun D H z => grid_at (N := 6) (f := fun i => some (r1 38 (0 + i))) (f' := fun i => some ((adGl t d a r0 r1 r2 p4 p5 m h o) 38 (6 * 1 + i))) (fun i hi => by rw [adGl_38 hi, Nat.zero_add]; rfl) z⟩ ?_
  refine simL_cons (sim_of rfl rfl) ?_
  refine simL_cons (sim_of rfl rfl) ?_
  refine simL_cons (sim_of rfl rfl) ?_
  refine simL_cons (sim_of rfl rfl) ?_
  refine simL_cons (sim_of rfl rfl) ?_
  refine simL_cons (sim_of rfl rfl) ?_
  refine simL_cons ⟨rfl, fun D H z => grid_at (N := 16) (f := fun i => some (r1 40 (0 + i))) (f' := fun i => some ((adGl t d a r0 r1 r2 p4 p5 m h o) 40 (16 * 1 + i))) (fun i hi => by rw [adGl_40 hi, Nat.zero_add]; rfl) z⟩ ?_
  refine simL_cons (sim_of rfl rfl) ?_
  refine simL_cons (sim_of rfl rfl) ?_
  refine simL_cons (sim_of rfl rfl) ?_
  refine simL_cons (sim_of rfl rfl) ?_
  refine simL_cons (sim_of rfl rfl) ?_
  refine simL_cons (sim_of rfl rfl) ?_
  refine simL_cons (sim_of rfl rfl) ?_
  refine simL_cons (sim_of rfl rfl) ?_
  refine simL_cons (sim_of rfl rfl) ?_
  refine simL_cons (sim_of rfl rfl) ?_
  refine simL_cons (sim_of rfl rfl) ?_
  refine simL_cons (sim_of rfl rfl) ?_
  refine simL_cons (sim_of rfl rfl) ?_
  refine simL_cons (sim_of rfl rfl) ?_
  refine simL_cons (sim_of rfl rfl) ?_
  refine simL_cons (sim_of rfl rfl) ?_
  refine simL_cons (sim_of rfl rfl) ?_
  refine simL_cons (sim_of rfl rfl) ?_
  refine simL_cons (sim_of rfl rfl) ?_
  refine simL_cons (sim_of rfl rfl) ?_
  refine simL_cons (sim_of rfl rfl) ?_
  refine simL_cons (sim_of rfl rfl) ?_
  refine simL_cons (sim_of rfl rfl) ?_
  refine simL_cons (sim_of rfl rfl) ?_
  refine simL_cons (sim_of rfl rfl) ?_
  refine simL_cons (sim_of rfl rfl) ?_
  refine simL_cons (sim_of rfl rfl) ?_
  refine simL_cons (sim_of rfl rfl) ?_
  refine simL_cons (sim_of rfl rfl) ?_
  refine simL_cons (sim_of rfl rfl) ?_
  refine simL_cons (sim_of rfl rfl) ?_
  refine simL_cons (sim_of rfl rfl) ?_
  exact simL_nil
def vgr2 : List (Nat × Nat) := [(4, 2), (5, 2), (37, 2), (38, 12), (38, 13), (38, 14), (38, 15), (38, 16), (38, 17), (39, 2), (40, 32), (40, 33), (40, 34), (40, 35), (40, 36), (40, 37), (40, 38), (40, 39), (40, 40), (40, 41), (40, 42), (40, 43), (40, 44), (40, 45), (40, 46), (40, 47), (41, 2), (2, 3), (23, 3), (24, 3), (25, 3), (26, 3), (27, 3), (28, 3), (29, 3), (30, 3), (31, 2), (32, 2), (33, 2), (34, 2), (35, 2), (36, 2)]
set_option maxRecDepth 100000 in
theorem sim_r2 : simL (wcV vv4 r2 cy z0) (wcV vgr2 (adGl t d a r0 r1 r2 p4 p5 m h o) cy st0) := by
  refine simL_cons (sim_of rfl rfl) ?_
  refine simL_cons (sim_of rfl rfl) ?_
  refine simL_cons ⟨rfl, fun D H z => grid_at (N := 6) (f := fun i => some (r2 38 (0 + i))) (f' := fun i => some ((adGl t d a r0 r1 r2 p4 p5 m h o) 38 (6 * 2 + i))) (fun i hi => by rw [adGl_38 hi, Nat.zero_add]; rfl) z⟩ ?_
  refine simL_cons (sim_of rfl rfl) ?_
  refine simL_cons (sim_of rfl rfl) ?_
  refine simL_cons (sim_of rfl rfl) ?_
  refine simL_cons (sim_of rfl rfl) ?_
  refine simL_cons (sim_of rfl rfl) ?_
  refine simL_cons (sim_of rfl rfl) ?_
  refine simL_cons ⟨rfl, fun D H z => grid_at (N := 16) (f := fun i => some (r2 40 (0 + i))) (f' := fun i => some ((adGl t d a r0 r1 r2 p4 p5 m h o) 40 (16 * 2 + i))) (fun i hi => by rw [adGl_40 hi, Nat.zero_add]; rfl) z⟩ ?_
  refine simL_cons (sim_of rfl rfl) ?_
  refine simL_cons (sim_of rfl rfl) ?_
  refine simL_cons (sim_of rfl rfl) ?_
  refine simL_cons (sim_of rfl rfl) ?_
  refine simL_cons (sim_of rfl rfl) ?_
  refine simL_cons (sim_of rfl rfl) ?_
  refine simL_cons (sim_of rfl rfl) ?_
  refine simL_cons (sim_of rfl rfl) ?_
  refine simL_cons (sim_of rfl rfl) ?_
  refine simL_cons (sim_of rfl rfl) ?_
  refine simL_cons (sim_of rfl rfl) ?_
  refine simL_cons (sim_of rfl rfl) ?_
  refine simL_cons (sim_of rfl rfl) ?_
  refine simL_cons (sim_of rfl rfl) ?_
  refine simL_cons (sim_of rfl rfl) ?_
  refine simL_cons (sim_of rfl rfl) ?_
  refine simL_cons (sim_of rfl rfl) ?_
  refine simL_cons (sim_of rfl rfl) ?_
  refine simL_cons (sim_of rfl rfl) ?_
  refine simL_cons (sim_of rfl rfl) ?_
  refine simL_cons (sim_of rfl rfl) ?_
  refine simL_cons (sim_of rfl rfl) ?_
  refine simL_cons (sim_of rfl rfl) ?_
  refine simL_cons (sim_of rfl rfl) ?_
  refine simL_cons (sim_of rfl rfl) ?_
  refine simL_cons (sim_of rfl rfl) ?_
  refine simL_cons (sim_of rfl rfl) ?_
  refine simL_cons (sim_of rfl rfl) ?_
  refine simL_cons (sim_of rfl rfl) ?_
  refine simL_cons (sim_of rfl rfl) ?_
  refine simL_cons (sim_of rfl rfl) ?_
  refine simL_cons (sim_of rfl rfl) ?_
  exact simL_nil
def vgp4 : List (Nat × Nat) := [(2, 4), (23, 4), (24, 4), (25, 4), (26, 4), (27, 4), (28, 4), (29, 4), (30, 4)]
set_option maxRecDepth 100000 in
theorem sim_p4 : simL (wcV vv2 p4 cy z0) (wcV vgp4 (adGl t d a r0 r1 r2 p4 p5 m h o) cy st0) := by
  refine simL_cons (sim_of rfl rfl) ?_
  refine simL_cons (sim_of rfl rfl) ?_
  refine simL_cons (sim_of rfl rfl) ?_
  refine simL_cons (sim_of rfl rfl) ?_
  refine simL_cons (sim_of rfl rfl) ?_
  refine simL_cons (sim_of rfl rfl) ?_
  refine simL_cons (sim_of rfl rfl) ?_
  refine simL_cons (sim_of rfl rfl) ?_
  refine simL_cons (sim_of rfl rfl) ?_
  exact simL_nil
def vgp5 : List (Nat × Nat) := [(2, 5), (23, 5), (24, 5), (25, 5), (26, 5), (27, 5), (28, 5), (29, 5), (30, 5)]
set_option maxRecDepth 100000 in
theorem sim_p5 : simL (wcV vv2 p5 cy z0) (wcV vgp5 (adGl t d a r0 r1 r2 p4 p5 m h o) cy st0) := by
  refine simL_cons (sim_of rfl rfl) ?_
  refine simL_cons (sim_of rfl rfl) ?_
  refine simL_cons (sim_of rfl rfl) ?_
  refine simL_cons (sim_of rfl rfl) ?_
  refine simL_cons (sim_of rfl rfl) ?_
  refine simL_cons (sim_of rfl rfl) ?_
  refine simL_cons (sim_of rfl rfl) ?_
  refine simL_cons (sim_of rfl rfl) ?_
  refine simL_cons (sim_of rfl rfl) ?_
  exact simL_nil
def vgm : List (Nat × Nat) := [(8, 0), (43, 0), (44, 0), (45, 0), (46, 0), (47, 0), (48, 0), (49, 0), (50, 0), (51, 0), (52, 0), (53, 0), (54, 0), (55, 0)]
set_option maxRecDepth 100000 in
theorem sim_m : simL (wcV vv8 m cy st0) (wcV vgm (adGl t d a r0 r1 r2 p4 p5 m h o) cy st0) := by
  refine simL_cons (sim_of rfl rfl) ?_
  refine simL_cons (sim_of rfl rfl) ?_
  refine simL_cons (sim_of rfl rfl) ?_
  refine simL_cons (sim_of rfl rfl) ?_
  refine simL_cons (sim_of rfl rfl) ?_
  refine simL_cons (sim_of rfl rfl) ?_
  refine simL_cons (sim_of rfl rfl) ?_
  refine simL_cons (sim_of rfl rfl) ?_
  refine simL_cons (sim_of rfl rfl) ?_
  refine simL_cons (sim_of rfl rfl) ?_
  refine simL_cons (sim_of rfl rfl) ?_
  refine simL_cons (sim_of rfl rfl) ?_
  refine simL_cons (sim_of rfl rfl) ?_
  refine simL_cons (sim_of rfl rfl) ?_
  exact simL_nil
end JOIN
def vG : List (Nat × Nat) := (([] ++ ((7, 0) :: (((((((([] ++ vg6) ++ vg3) ++ vg0) ++ vgr0) ++ vgr1) ++ vgr2) ++ vgp4) ++ vgp5))) ++ vgm) ++ [(56, 0)]
theorem vG_all : ∀ q ∈ vl, q ∈ vG := by decide +kernel
theorem perm_P {ad : Nat → Nat → Nat} {cy : Nat → ClassId} {σ : St} {D : va_G} {H : Heap} (h : va_P D vwCl (wcV vG ad cy σ) H) : va_P D vwCl (wsO ad cy σ) H := by
  rw [P_mem] at h ⊢
  intro x hx
  obtain ⟨q, hq, rfl⟩ := List.mem_map.mp hx
  exact h _ (List.mem_map.mpr ⟨q, vG_all q hq, rfl⟩)
theorem perm_D {ad : Nat → Nat → Nat} {cy : Nat → ClassId} {σ : St} {A : Nat → Prop} (h : va_D A (wcV vG ad cy σ)) : va_D (inA ad) (wsO ad cy σ) ∧ ∀ q, inA ad q → A q := by
  have at_ : ∀ q : Nat × Nat, q ∈ vl → ∃ i : Nat, vG[i]? = some q ∧ (wcV vG ad cy σ)[i]? = some (ad q.1 q.2, cE ad cy σ q.1 q.2) := fun q hq => by
    obtain ⟨i, hi⟩ := List.getElem?_of_mem (vG_all q hq)
    refine ⟨i, hi, ?_⟩
    unfold wcV
    rw [List.getElem?_map, hi]
    rfl
  have un : ∀ (i : Nat) (x : Nat × va_E), (wsO ad cy σ)[i]? = some x → ∃ q : Nat × Nat, vl[i]? = some q ∧ x = (ad q.1 q.2, cE ad cy σ q.1 q.2) := fun i x hx => by
    unfold wsO at hx
    rw [List.getElem?_map] at hx
    cases hq : vl[i]? with
    | none => rw [hq] at hx; cases hx
    | some q => rw [hq] at hx; exact ⟨q, rfl, (Option.some.inj hx).symm⟩
  refine ⟨⟨fun i j x y hx hy e => ?_, fun i x hx => ?_⟩, fun q hq => ?_⟩
  · obtain ⟨q, h1, rfl⟩ := un i x hx
    obtain ⟨q', h2, rfl⟩ := un j y hy
    obtain ⟨i', g1, g2⟩ := at_ q (List.mem_of_getElem? h1)
    obtain ⟨j', g3, g4⟩ := at_ q' (List.mem_of_getElem? h2)
    have e2 := h.1 i' j' _ _ g2 g4 e
    subst e2
    have e3 : q = q' := Option.some.inj (g1.symm.trans g3)
    subst e3
    exact vl_inj h1 h2
  · obtain ⟨q, h1, rfl⟩ := un i x hx
    exact ⟨q.1, q.2, vl_mem.mp (List.mem_of_getElem? h1), rfl⟩
  · obtain ⟨ci, k, hk, rfl⟩ := hq
    obtain ⟨i, -, g⟩ := at_ (ci, k) (vl_mem.mpr hk)
    exact h.2 i _ g
set_option maxRecDepth 100000 in
theorem world_start {D : va_G} {cy : Nat → ClassId} {H : Heap} {A : Nat → Prop} {h m0 o : Nat} {w7 w8 : va_W} (h7 : Ph7 cy h w7) (h8 : ∃ q : Nat → Nat → Nat, q 8 0 = m0 ∧ w8 = wcV vv8 q cy st0) (hP : va_P D vwCl ((([] ++ w7) ++ w8) ++ [(o, .inl (cy 2, 1, .inr (.inl (fun _ => 0))))]) H) (hD : va_D A ((([] ++ w7) ++ w8) ++ [(o, .inl (cy 2, 1, .inr (.inl (fun _ => 0))))])) :
    ∃ ad : Nat → Nat → Nat, ad 7 0 = h ∧ ad 8 0 = m0 ∧ ad 56 0 = o ∧ va_P D vwCl (wsO ad cy st0) H ∧ va_D (inA ad) (wsO ad cy z0) ∧ ∀ q, inA ad q → A q := by
  obtain ⟨t, d, a, r0, r1, r2, p4, p5, hd6, rfl⟩ := h7
  obtain ⟨m, rfl, rfl⟩ := h8
  have hs : simL ((([] ++ ((h, .inr (7, [.ref (t 6 0), .ref (d 3 0), .ref (a 0 0), .ref (r0 4 0), .ref (r1 4 0), .ref (r2 4 0), .ref (p4 2 0), .ref (p5 2 0), .int 0, .int 0, .int 0, .int 0, .int 0])) :: (((((((([] ++ wcV vv6 t cy z0) ++ wcV vv3 d cy z0) ++ wcV vv0 a cy z0) ++ wcV vv4 r0 cy z0) ++ wcV vv4 r1 cy z0) ++ wcV vv4 r2 cy z0) ++ wcV vv2 p4 cy z0) ++ wcV vv2 p5 cy z0))) ++ wcV vv8 m cy st0) ++ [(o, .inl (cy 2, 1, .inr (.inl (fun _ => 0))))]) (wcV vG (adGl t d a r0 r1 r2 p4 p5 m h o) cy st0) := by
    have e : wcV vG (adGl t d a r0 r1 r2 p4 p5 m h o) cy st0 = (([] ++ (((adGl t d a r0 r1 r2 p4 p5 m h o) 7 0, cE (adGl t d a r0 r1 r2 p4 p5 m h o) cy st0 7 0) :: (((((((([] ++ wcV vg6 (adGl t d a r0 r1 r2 p4 p5 m h o) cy st0) ++ wcV vg3 (adGl t d a r0 r1 r2 p4 p5 m h o) cy st0) ++ wcV vg0 (adGl t d a r0 r1 r2 p4 p5 m h o) cy st0) ++ wcV vgr0 (adGl t d a r0 r1 r2 p4 p5 m h o) cy st0) ++ wcV vgr1 (adGl t d a r0 r1 r2 p4 p5 m h o) cy st0) ++ wcV vgr2 (adGl t d a r0 r1 r2 p4 p5 m h o) cy st0) ++ wcV vgp4 (adGl t d a r0 r1 r2 p4 p5 m h o) cy st0) ++ wcV vgp5 (adGl t d a r0 r1 r2 p4 p5 m h o) cy st0))) ++ wcV vgm (adGl t d a r0 r1 r2 p4 p5 m h o) cy st0) ++ [((adGl t d a r0 r1 r2 p4 p5 m h o) 56 0, cE (adGl t d a r0 r1 r2 p4 p5 m h o) cy st0 56 0)] := by
      unfold vG wcV
      simp only [List.map_append, List.map_cons, List.map_nil]
    rw [e]
    refine simL_app (simL_app (simL_app simL_nil (simL_cons (sim_of rfl rfl) ?_)) sim_m) (simL_cons (sim_of rfl rfl) simL_nil)
    exact simL_app (simL_app (simL_app (simL_app (simL_app (simL_app (simL_app (simL_app simL_nil sim_6) (sim_3 hd6)) sim_0) sim_r0) sim_r1) sim_r2) sim_p4) sim_p5
  have hP1 := simL_P hs hP
  have hD1 := D_map (simL_fst hs) hD
  obtain ⟨g1, g2⟩ := perm_D hD1
  exact ⟨(adGl t d a r0 r1 r2 p4 p5 m h o), rfl, rfl, rfl, perm_P hP1, wsD_any g1, g2⟩
