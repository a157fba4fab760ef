/-! ===== the constructors ===== -/
def rmK (f c s lo : Nat) : Room := { frames := f, cells := c, slots := s, locals := lo }
def adT (t : List (Nat → Nat)) (c i : Nat) : Nat := (t.getD c (fun _ => 0)) i
def wcV (v : List (Nat × Nat)) (q : Nat → Nat → Nat) (cy : Nat → ClassId) (σ : St) : va_W := v.map (fun x => (q x.1 x.2, cE q cy σ x.1 x.2))
theorem D_one {A : Nat → Prop} {x : Nat × va_E} (h : A x.1) : va_D A [x] := by
  refine ⟨fun i j p q hi hj _ => ?_, fun k q hk => ?_⟩
  · have h1 : i < 1 := (List.getElem?_eq_some_iff.mp hi).1
    have h2 : j < 1 := (List.getElem?_eq_some_iff.mp hj).1
    omega
  · have h1 : k < 1 := (List.getElem?_eq_some_iff.mp hk).1
    rw [show k = 0 by omega] at hk
    cases hk
    exact h
def st0 : St := (fun a _ c => if a = 8 then (if c = 3 then -1 else 0) else 0, fun _ _ _ => 0, fun a b c => if a = 7 then (if c = 6 then 4 else 5) else if a = 4 then b + 1 else 0)
def vv2 : List (Nat × Nat) := [(2, 0), (23, 0), (24, 0), (25, 0), (26, 0), (27, 0), (28, 0), (29, 0), (30, 0)]
def vv6 : List (Nat × Nat) := [(6, 0), (42, 0)]
def vv3 : List (Nat × Nat) := [(3, 0), (2, 0), (23, 0), (24, 0), (25, 0), (26, 0), (27, 0), (28, 0), (29, 0), (30, 0)]
def vv1 : List (Nat × Nat) := [(1, 0), (10, 0), (11, 0), (12, 0), (12, 1), (12, 2), (12, 3), (12, 4), (12, 5), (13, 0), (14, 0), (14, 1), (14, 2), (14, 3), (14, 4), (14, 5), (15, 0), (16, 0), (16, 1), (16, 2), (16, 3), (16, 4), (16, 5), (17, 0), (18, 0), (18, 1), (18, 2), (18, 3), (18, 4), (18, 5), (19, 0), (20, 0), (20, 1), (20, 2), (20, 3), (20, 4), (20, 5), (21, 0), (22, 0), (22, 1), (22, 2), (22, 3), (22, 4), (22, 5)]
def vv0 : List (Nat × Nat) := [(0, 0), (1, 0), (10, 0), (11, 0), (12, 0), (12, 1), (12, 2), (12, 3), (12, 4), (12, 5), (13, 0), (14, 0), (14, 1), (14, 2), (14, 3), (14, 4), (14, 5), (15, 0), (16, 0), (16, 1), (16, 2), (16, 3), (16, 4), (16, 5), (17, 0), (18, 0), (18, 1), (18, 2), (18, 3), (18, 4), (18, 5), (19, 0), (20, 0), (20, 1), (20, 2), (20, 3), (20, 4), (20, 5), (21, 0), (22, 0), (22, 1), (22, 2), (22, 3), (22, 4), (22, 5)]
def vv5 : List (Nat × Nat) := [(5, 0), (37, 0), (38, 0), (38, 1), (38, 2), (38, 3), (38, 4), (38, 5), (39, 0), (40, 0), (40, 1), (40, 2), (40, 3), (40, 4), (40, 5), (40, 6), (40, 7), (40, 8), (40, 9), (40, 10), (40, 11), (40, 12), (40, 13), (40, 14), (40, 15), (41, 0)]
def vv4 : List (Nat × Nat) := [(4, 0), (5, 0), (37, 0), (38, 0), (38, 1), (38, 2), (38, 3), (38, 4), (38, 5), (39, 0), (40, 0), (40, 1), (40, 2), (40, 3), (40, 4), (40, 5), (40, 6), (40, 7), (40, 8), (40, 9), (40, 10), (40, 11), (40, 12), (40, 13), (40, 14), (40, 15), (41, 0), (2, 0), (23, 0), (24, 0), (25, 0), (26, 0), (27, 0), (28, 0), (29, 0), (30, 0), (31, 0), (32, 0), (33, 0), (34, 0), (35, 0), (36, 0)]
def vv8 : List (Nat × Nat) := [(8, 0), (43, 0), (44, 0), (45, 0), (46, 0), (47, 0), (48, 0), (49, 0), (50, 0), (51, 0), (52, 0), (53, 0), (54, 0), (55, 0)]
theorem dok0 : ∀ j, j < 5 → defaultValue (tyX0 j) = vp_V (df 0) j := fun j hj => match j, hj with
  | 0, _ => rfl
  | 1, _ => rfl
  | 2, _ => rfl
  | 3, _ => rfl
  | 4, _ => rfl
  | n + 5, h => absurd h (by omega)
theorem dok1 : ∀ j, j < 17 → defaultValue (tyX1 j) = vp_V (df 1) j := fun j hj => match j, hj with
  | 0, _ => rfl
  | 1, _ => rfl
  | 2, _ => rfl
  | 3, _ => rfl
  | 4, _ => rfl
  | 5, _ => rfl
  | 6, _ => rfl
  | 7, _ => rfl
  | 8, _ => rfl
  | 9, _ => rfl
  | 10, _ => rfl
  | 11, _ => rfl
  | 12, _ => rfl
  | 13, _ => rfl
  | 14, _ => rfl
  | 15, _ => rfl
  | 16, _ => rfl
  | n + 17, h => absurd h (by omega)
theorem dok2 : ∀ j, j < 14 → defaultValue (tyX2 j) = vp_V (df 2) j := fun j hj => match j, hj with
  | 0, _ => rfl
  | 1, _ => rfl
  | 2, _ => rfl
  | 3, _ => rfl
  | 4, _ => rfl
  | 5, _ => rfl
  | 6, _ => rfl
  | 7, _ => rfl
  | 8, _ => rfl
  | 9, _ => rfl
  | 10, _ => rfl
  | 11, _ => rfl
  | 12, _ => rfl
  | 13, _ => rfl
  | n + 14, h => absurd h (by omega)
theorem dok3 : ∀ j, j < 9 → defaultValue (tyX3 j) = vp_V (df 3) j := fun j hj => match j, hj with
  | 0, _ => rfl
  | 1, _ => rfl
  | 2, _ => rfl
  | 3, _ => rfl
  | 4, _ => rfl
  | 5, _ => rfl
  | 6, _ => rfl
  | 7, _ => rfl
  | 8, _ => rfl
  | n + 9, h => absurd h (by omega)
theorem dok4 : ∀ j, j < 15 → defaultValue (tyX4 j) = vp_V (df 4) j := fun j hj => match j, hj with
  | 0, _ => rfl
  | 1, _ => rfl
  | 2, _ => rfl
  | 3, _ => rfl
  | 4, _ => rfl
  | 5, _ => rfl
  | 6, _ => rfl
  | 7, _ => rfl
  | 8, _ => rfl
  | 9, _ => rfl
  | 10, _ => rfl
  | 11, _ => rfl
  | 12, _ => rfl
  | 13, _ => rfl
  | 14, _ => rfl
  | n + 15, h => absurd h (by omega)
theorem dok5 : ∀ j, j < 8 → defaultValue (tyX5 j) = vp_V (df 5) j := fun j hj => match j, hj with
  | 0, _ => rfl
  | 1, _ => rfl
  | 2, _ => rfl
  | 3, _ => rfl
  | 4, _ => rfl
  | 5, _ => rfl
  | 6, _ => rfl
  | 7, _ => rfl
  | n + 8, h => absurd h (by omega)
theorem dok6 : ∀ j, j < 2 → defaultValue (tyX6 j) = vp_V (df 6) j := fun j hj => match j, hj with
  | 0, _ => rfl
  | 1, _ => rfl
  | n + 2, h => absurd h (by omega)
theorem dok7 : ∀ j, j < 13 → defaultValue (tyX7 j) = vp_V (df 7) j := fun j hj => match j, hj with
  | 0, _ => rfl
  | 1, _ => rfl
  | 2, _ => rfl
  | 3, _ => rfl
  | 4, _ => rfl
  | 5, _ => rfl
  | 6, _ => rfl
  | 7, _ => rfl
  | 8, _ => rfl
  | 9, _ => rfl
  | 10, _ => rfl
  | 11, _ => rfl
  | 12, _ => rfl
  | n + 13, h => absurd h (by omega)
theorem dok8 : ∀ j, j < 33 → defaultValue (tyX8 j) = vp_V (df 8) j := fun j hj => match j, hj with
  | 0, _ => rfl
  | 1, _ => rfl
  | 2, _ => rfl
  | 3, _ => rfl
  | 4, _ => rfl
  | 5, _ => rfl
  | 6, _ => rfl
  | 7, _ => rfl
  | 8, _ => rfl
  | 9, _ => rfl
  | 10, _ => rfl
  | 11, _ => rfl
  | 12, _ => rfl
  | 13, _ => rfl
  | 14, _ => rfl
  | 15, _ => rfl
  | 16, _ => rfl
  | 17, _ => rfl
  | 18, _ => rfl
  | 19, _ => rfl
  | 20, _ => rfl
  | 21, _ => rfl
  | 22, _ => rfl
  | 23, _ => rfl
  | 24, _ => rfl
  | 25, _ => rfl
  | 26, _ => rfl
  | 27, _ => rfl
  | 28, _ => rfl
  | 29, _ => rfl
  | 30, _ => rfl
  | 31, _ => rfl
  | 32, _ => rfl
  | n + 33, h => absurd h (by omega)
theorem lkI_X0_9 : lkI RX0 9 1 17 := ⟨RX1, TX1, tyX1, rfl, uw1, tyX1_ok, dok1, gt_of 253 (by decide +kernel) rfl, gt_of 254 (by decide +kernel) rfl, gt_of 100 (by decide +kernel) rfl⟩
theorem lkI_X3_9 : lkI RX3 9 2 14 := ⟨RX2, TX2, tyX2, rfl, uw2, tyX2_ok, dok2, gt_of 145 (by decide +kernel) rfl, gt_of 146 (by decide +kernel) rfl, gt_of 98 (by decide +kernel) rfl⟩
theorem lkI_X4_9 : lkI RX4 9 5 8 := ⟨RX5, TX5, tyX5, rfl, uw5, tyX5_ok, dok5, gt_of 346 (by decide +kernel) rfl, gt_of 347 (by decide +kernel) rfl, gt_of 102 (by decide +kernel) rfl⟩
theorem lkI_X4_18 : lkI RX4 18 2 14 := ⟨RX2, TX2, tyX2, rfl, uw2, tyX2_ok, dok2, gt_of 379 (by decide +kernel) rfl, gt_of 146 (by decide +kernel) rfl, gt_of 98 (by decide +kernel) rfl⟩
theorem lkI_X7_7 : lkI RX7 7 6 2 := ⟨RX6, TX6, tyX6, rfl, uw6, tyX6_ok, dok6, gt_of 124 (by decide +kernel) rfl, gt_of 125 (by decide +kernel) rfl, gt_of 96 (by decide +kernel) rfl⟩
theorem lkI_X7_16 : lkI RX7 16 3 9 := ⟨RX3, TX3, tyX3, rfl, uw3, tyX3_ok, dok3, gt_of 139 (by decide +kernel) rfl, gt_of 140 (by decide +kernel) rfl, gt_of 97 (by decide +kernel) rfl⟩
theorem lkI_X7_25 : lkI RX7 25 0 5 := ⟨RX0, TX0, tyX0, rfl, uw0, tyX0_ok, dok0, gt_of 247 (by decide +kernel) rfl, gt_of 248 (by decide +kernel) rfl, gt_of 99 (by decide +kernel) rfl⟩
theorem lkI_X7_32 : lkI RX7 32 4 15 := ⟨RX4, TX4, tyX4, rfl, uw4, tyX4_ok, dok4, gt_of 340 (by decide +kernel) rfl, gt_of 341 (by decide +kernel) rfl, gt_of 101 (by decide +kernel) rfl⟩
theorem lkI_X7_45 : lkI RX7 45 2 14 := ⟨RX2, TX2, tyX2, rfl, uw2, tyX2_ok, dok2, gt_of 431 (by decide +kernel) rfl, gt_of 146 (by decide +kernel) rfl, gt_of 98 (by decide +kernel) rfl⟩
theorem lkI_L_8 : lkI RL 8 7 13 := ⟨RX7, TX7, tyX7, rfl, uw7, tyX7_ok, dok7, gt_of 116 (by decide +kernel) rfl, gt_of 117 (by decide +kernel) rfl, gt_of 95 (by decide +kernel) rfl⟩
theorem lkI_L_16 : lkI RL 16 8 33 := ⟨RX8, TX8, tyX8, rfl, uw8, tyX8_ok, dok8, gt_of 1262 (by decide +kernel) rfl, gt_of 1263 (by decide +kernel) rfl, gt_of 103 (by decide +kernel) rfl⟩
theorem lkJ_X0_12 : lkJ RX0 12 0 0 (.object "OpenLines$Pass") true := ⟨TX0, 5, tyX0, rfl, by decide, uw0, gt_of 317 (by decide +kernel) rfl, rfl, tyX0_ok, nmX0, rfl, by decide +kernel⟩
theorem lkJ_X1_9 : lkJ RX1 9 1 0 (.array .int) true := ⟨TX1, 17, tyX1, rfl, by decide, uw1, gt_of 261 (by decide +kernel) rfl, rfl, tyX1_ok, nmX1, rfl, by decide +kernel⟩
theorem lkJ_X1_17 : lkJ RX1 17 1 1 (.array (.array .int)) true := ⟨TX1, 17, tyX1, rfl, by decide, uw1, gt_of 264 (by decide +kernel) rfl, rfl, tyX1_ok, nmX1, rfl, by decide +kernel⟩
theorem lkJ_X1_20 : lkJ RX1 20 1 2 (.array (.array .int)) true := ⟨TX1, 17, tyX1, rfl, by decide, uw1, gt_of 265 (by decide +kernel) rfl, rfl, tyX1_ok, nmX1, rfl, by decide +kernel⟩
theorem lkJ_X1_23 : lkJ RX1 23 1 3 (.array (.array .int)) true := ⟨TX1, 17, tyX1, rfl, by decide, uw1, gt_of 266 (by decide +kernel) rfl, rfl, tyX1_ok, nmX1, rfl, by decide +kernel⟩
theorem lkJ_X1_26 : lkJ RX1 26 1 4 (.array (.array .int)) true := ⟨TX1, 17, tyX1, rfl, by decide, uw1, gt_of 267 (by decide +kernel) rfl, rfl, tyX1_ok, nmX1, rfl, by decide +kernel⟩
theorem lkJ_X1_29 : lkJ RX1 29 1 5 (.array (.array .int)) true := ⟨TX1, 17, tyX1, rfl, by decide, uw1, gt_of 268 (by decide +kernel) rfl, rfl, tyX1_ok, nmX1, rfl, by decide +kernel⟩
theorem lkJ_X1_32 : lkJ RX1 32 1 6 (.array (.array .int)) true := ⟨TX1, 17, tyX1, rfl, by decide, uw1, gt_of 269 (by decide +kernel) rfl, rfl, tyX1_ok, nmX1, rfl, by decide +kernel⟩
theorem lkJ_X2_9 : lkJ RX2 9 2 6 (.array .int) true := ⟨TX2, 14, tyX2, rfl, by decide, uw2, gt_of 173 (by decide +kernel) rfl, rfl, tyX2_ok, nmX2, rfl, by decide +kernel⟩
theorem lkJ_X2_15 : lkJ RX2 15 2 7 (.array .int) true := ⟨TX2, 14, tyX2, rfl, by decide, uw2, gt_of 174 (by decide +kernel) rfl, rfl, tyX2_ok, nmX2, rfl, by decide +kernel⟩
theorem lkJ_X2_18 : lkJ RX2 18 2 8 (.array .int) true := ⟨TX2, 14, tyX2, rfl, by decide, uw2, gt_of 176 (by decide +kernel) rfl, rfl, tyX2_ok, nmX2, rfl, by decide +kernel⟩
theorem lkJ_X2_21 : lkJ RX2 21 2 9 (.array .int) true := ⟨TX2, 14, tyX2, rfl, by decide, uw2, gt_of 177 (by decide +kernel) rfl, rfl, tyX2_ok, nmX2, rfl, by decide +kernel⟩
theorem lkJ_X2_24 : lkJ RX2 24 2 10 (.array .int) true := ⟨TX2, 14, tyX2, rfl, by decide, uw2, gt_of 179 (by decide +kernel) rfl, rfl, tyX2_ok, nmX2, rfl, by decide +kernel⟩
theorem lkJ_X2_27 : lkJ RX2 27 2 11 (.array .int) true := ⟨TX2, 14, tyX2, rfl, by decide, uw2, gt_of 182 (by decide +kernel) rfl, rfl, tyX2_ok, nmX2, rfl, by decide +kernel⟩
theorem lkJ_X2_30 : lkJ RX2 30 2 12 (.array .int) true := ⟨TX2, 14, tyX2, rfl, by decide, uw2, gt_of 184 (by decide +kernel) rfl, rfl, tyX2_ok, nmX2, rfl, by decide +kernel⟩
theorem lkJ_X2_33 : lkJ RX2 33 2 13 (.array .int) true := ⟨TX2, 14, tyX2, rfl, by decide, uw2, gt_of 186 (by decide +kernel) rfl, rfl, tyX2_ok, nmX2, rfl, by decide +kernel⟩
theorem lkJ_X3_12 : lkJ RX3 12 3 3 (.object "OpenLines$Plan") false := ⟨TX3, 9, tyX3, rfl, by decide, uw3, gt_of 222 (by decide +kernel) rfl, rfl, tyX3_ok, nmX3, rfl, by decide +kernel⟩
theorem lkJ_X3_18 : lkJ RX3 18 3 2 (.object "OpenLines$Tape") true := ⟨TX3, 9, tyX3, rfl, by decide, uw3, gt_of 221 (by decide +kernel) rfl, rfl, tyX3_ok, nmX3, rfl, by decide +kernel⟩
theorem lkJ_X4_12 : lkJ RX4 12 4 0 (.object "OpenLines$Tally") true := ⟨TX4, 15, tyX4, rfl, by decide, uw4, gt_of 381 (by decide +kernel) rfl, rfl, tyX4_ok, nmX4, rfl, by decide +kernel⟩
theorem lkJ_X4_21 : lkJ RX4 21 4 1 (.object "OpenLines$Plan") false := ⟨TX4, 15, tyX4, rfl, by decide, uw4, gt_of 383 (by decide +kernel) rfl, rfl, tyX4_ok, nmX4, rfl, by decide +kernel⟩
theorem lkJ_X4_25 : lkJ RX4 25 4 9 (.array .int) true := ⟨TX4, 15, tyX4, rfl, by decide, uw4, gt_of 394 (by decide +kernel) rfl, rfl, tyX4_ok, nmX4, rfl, by decide +kernel⟩
theorem lkJ_X4_29 : lkJ RX4 29 4 10 (.array .int) true := ⟨TX4, 15, tyX4, rfl, by decide, uw4, gt_of 395 (by decide +kernel) rfl, rfl, tyX4_ok, nmX4, rfl, by decide +kernel⟩
theorem lkJ_X4_32 : lkJ RX4 32 4 11 (.array .int) true := ⟨TX4, 15, tyX4, rfl, by decide, uw4, gt_of 396 (by decide +kernel) rfl, rfl, tyX4_ok, nmX4, rfl, by decide +kernel⟩
theorem lkJ_X4_35 : lkJ RX4 35 4 12 (.array .int) true := ⟨TX4, 15, tyX4, rfl, by decide, uw4, gt_of 397 (by decide +kernel) rfl, rfl, tyX4_ok, nmX4, rfl, by decide +kernel⟩
theorem lkJ_X4_38 : lkJ RX4 38 4 13 (.array .int) true := ⟨TX4, 15, tyX4, rfl, by decide, uw4, gt_of 398 (by decide +kernel) rfl, rfl, tyX4_ok, nmX4, rfl, by decide +kernel⟩
theorem lkJ_X4_41 : lkJ RX4 41 4 14 (.array .int) true := ⟨TX4, 15, tyX4, rfl, by decide, uw4, gt_of 399 (by decide +kernel) rfl, rfl, tyX4_ok, nmX4, rfl, by decide +kernel⟩
theorem lkJ_X5_11 : lkJ RX5 11 5 5 (.array (.array .int)) true := ⟨TX5, 8, tyX5, rfl, by decide, uw5, gt_of 359 (by decide +kernel) rfl, rfl, tyX5_ok, nmX5, rfl, by decide +kernel⟩
theorem lkJ_X5_16 : lkJ RX5 16 5 6 (.array (.array .int)) true := ⟨TX5, 8, tyX5, rfl, by decide, uw5, gt_of 360 (by decide +kernel) rfl, rfl, tyX5_ok, nmX5, rfl, by decide +kernel⟩
theorem lkJ_X5_19 : lkJ RX5 19 5 7 (.array .int) true := ⟨TX5, 8, tyX5, rfl, by decide, uw5, gt_of 361 (by decide +kernel) rfl, rfl, tyX5_ok, nmX5, rfl, by decide +kernel⟩
theorem lkJ_X6_9 : lkJ RX6 9 6 0 (.array .byte) true := ⟨TX6, 2, tyX6, rfl, by decide, uw6, gt_of 130 (by decide +kernel) rfl, rfl, tyX6_ok, nmX6, rfl, by decide +kernel⟩
theorem lkJ_X7_10 : lkJ RX7 10 7 0 (.object "OpenLines$Tape") true := ⟨TX7, 13, tyX7, rfl, by decide, uw7, gt_of 433 (by decide +kernel) rfl, rfl, tyX7_ok, nmX7, rfl, by decide +kernel⟩
theorem lkJ_X7_21 : lkJ RX7 21 7 1 (.object "OpenLines$Reader") true := ⟨TX7, 13, tyX7, rfl, by decide, uw7, gt_of 434 (by decide +kernel) rfl, rfl, tyX7_ok, nmX7, rfl, by decide +kernel⟩
theorem lkJ_X7_28 : lkJ RX7 28 7 2 (.object "OpenLines$Arbiter") true := ⟨TX7, 13, tyX7, rfl, by decide, uw7, gt_of 435 (by decide +kernel) rfl, rfl, tyX7_ok, nmX7, rfl, by decide +kernel⟩
theorem lkJ_X7_35 : lkJ RX7 35 7 3 (.object "OpenLines$Run") true := ⟨TX7, 13, tyX7, rfl, by decide, uw7, gt_of 436 (by decide +kernel) rfl, rfl, tyX7_ok, nmX7, rfl, by decide +kernel⟩
theorem lkJ_X7_39 : lkJ RX7 39 7 4 (.object "OpenLines$Run") true := ⟨TX7, 13, tyX7, rfl, by decide, uw7, gt_of 437 (by decide +kernel) rfl, rfl, tyX7_ok, nmX7, rfl, by decide +kernel⟩
theorem lkJ_X7_42 : lkJ RX7 42 7 5 (.object "OpenLines$Run") true := ⟨TX7, 13, tyX7, rfl, by decide, uw7, gt_of 438 (by decide +kernel) rfl, rfl, tyX7_ok, nmX7, rfl, by decide +kernel⟩
theorem lkJ_X7_48 : lkJ RX7 48 7 6 (.object "OpenLines$Plan") false := ⟨TX7, 13, tyX7, rfl, by decide, uw7, gt_of 439 (by decide +kernel) rfl, rfl, tyX7_ok, nmX7, rfl, by decide +kernel⟩
theorem lkJ_X7_52 : lkJ RX7 52 7 7 (.object "OpenLines$Plan") false := ⟨TX7, 13, tyX7, rfl, by decide, uw7, gt_of 440 (by decide +kernel) rfl, rfl, tyX7_ok, nmX7, rfl, by decide +kernel⟩
theorem lkJ_X8_9 : lkJ RX8 9 8 3 .int false := ⟨TX8, 33, tyX8, rfl, by decide, uw8, gt_of 1271 (by decide +kernel) rfl, rfl, tyX8_ok, nmX8, rfl, by decide +kernel⟩
theorem lkJ_X8_13 : lkJ RX8 13 8 4 (.array .int) true := ⟨TX8, 33, tyX8, rfl, by decide, uw8, gt_of 1272 (by decide +kernel) rfl, rfl, tyX8_ok, nmX8, rfl, by decide +kernel⟩
theorem lkJ_X8_17 : lkJ RX8 17 8 6 (.array .int) true := ⟨TX8, 33, tyX8, rfl, by decide, uw8, gt_of 1274 (by decide +kernel) rfl, rfl, tyX8_ok, nmX8, rfl, by decide +kernel⟩
theorem lkJ_X8_20 : lkJ RX8 20 8 7 (.array .int) true := ⟨TX8, 33, tyX8, rfl, by decide, uw8, gt_of 1275 (by decide +kernel) rfl, rfl, tyX8_ok, nmX8, rfl, by decide +kernel⟩
theorem lkJ_X8_23 : lkJ RX8 23 8 8 (.array .long) true := ⟨TX8, 33, tyX8, rfl, by decide, uw8, gt_of 1276 (by decide +kernel) rfl, rfl, tyX8_ok, nmX8, rfl, by decide +kernel⟩
theorem lkJ_X8_27 : lkJ RX8 27 8 18 (.array .int) true := ⟨TX8, 33, tyX8, rfl, by decide, uw8, gt_of 1286 (by decide +kernel) rfl, rfl, tyX8_ok, nmX8, rfl, by decide +kernel⟩
theorem lkJ_X8_30 : lkJ RX8 30 8 19 (.array .int) true := ⟨TX8, 33, tyX8, rfl, by decide, uw8, gt_of 1287 (by decide +kernel) rfl, rfl, tyX8_ok, nmX8, rfl, by decide +kernel⟩
theorem lkJ_X8_33 : lkJ RX8 33 8 20 (.array .int) true := ⟨TX8, 33, tyX8, rfl, by decide, uw8, gt_of 1288 (by decide +kernel) rfl, rfl, tyX8_ok, nmX8, rfl, by decide +kernel⟩
theorem lkJ_X8_36 : lkJ RX8 36 8 22 (.array .int) true := ⟨TX8, 33, tyX8, rfl, by decide, uw8, gt_of 1290 (by decide +kernel) rfl, rfl, tyX8_ok, nmX8, rfl, by decide +kernel⟩
theorem lkJ_X8_39 : lkJ RX8 39 8 24 (.array .int) true := ⟨TX8, 33, tyX8, rfl, by decide, uw8, gt_of 1292 (by decide +kernel) rfl, rfl, tyX8_ok, nmX8, rfl, by decide +kernel⟩
theorem lkJ_X8_42 : lkJ RX8 42 8 25 (.array .int) true := ⟨TX8, 33, tyX8, rfl, by decide, uw8, gt_of 1293 (by decide +kernel) rfl, rfl, tyX8_ok, nmX8, rfl, by decide +kernel⟩
theorem lkJ_X8_45 : lkJ RX8 45 8 26 (.array .int) true := ⟨TX8, 33, tyX8, rfl, by decide, uw8, gt_of 1294 (by decide +kernel) rfl, rfl, tyX8_ok, nmX8, rfl, by decide +kernel⟩
theorem lkJ_X8_48 : lkJ RX8 48 8 27 (.array .int) true := ⟨TX8, 33, tyX8, rfl, by decide, uw8, gt_of 1295 (by decide +kernel) rfl, rfl, tyX8_ok, nmX8, rfl, by decide +kernel⟩
theorem lkJ_X8_51 : lkJ RX8 51 8 28 (.array .int) true := ⟨TX8, 33, tyX8, rfl, by decide, uw8, gt_of 1296 (by decide +kernel) rfl, rfl, tyX8_ok, nmX8, rfl, by decide +kernel⟩
/-- what an OpenLines is made of -/
def Ph7 (cy : Nat → ClassId) (h : Nat) (w : va_W) : Prop := ∃ q9 q24 q35 q46 q57 q68 q79 q90 : Nat → Nat → Nat, q24 6 0 = q9 6 0 ∧ w = (h, .inr (7, [.ref (q9 6 0), .ref (q24 3 0), .ref (q35 0 0), .ref (q46 4 0), .ref (q57 4 0), .ref (q68 4 0), .ref (q79 2 0), .ref (q90 2 0), .int 0, .int 0, .int 0, .int 0, .int 0])) :: (((((((([] ++ wcV vv6 q9 cy z0) ++ wcV vv3 q24 cy z0) ++ wcV vv0 q35 cy z0) ++ wcV vv4 q46 cy z0) ++ wcV vv4 q57 cy z0) ++ wcV vv4 q68 cy z0) ++ wcV vv2 q79 cy z0) ++ wcV vv2 q90 cy z0)
set_option maxHeartbeats 4000000 in
set_option maxRecDepth 100000 in
theorem c_X2 (l : Launch) (D : va_G) (cy : Nat → ClassId) : Nk l yX2_init cX2_init 1 (rmK 1 8 66 20) 8 66 2 [] cy D (fun h w => ∃ q : Nat → Nat → Nat, q 2 0 = h ∧ w = wcV vv2 q cy z0) := by
  intro h0 sz
  refine Met.ofW (cc := cX2_init) (maxL := 1) (ret := none) (by decide +kernel) rfl ?_
  intro p e s m args below meth c s₁ B hml hv
  obtain ⟨rfl, hsz, hP, hKx⟩ := hv
  have hx := B.exec
  have hb := B.bytes
  have hr := B.returns
  have hts : ∀ w ∈ gt, w.before ([.ref h0] : List Value).toArray s = true := fun w hw => atoms_spec (ws := .code yX2_init cX2_init 1 none :: gt) B.pre w (List.mem_cons_of_mem _ hw)
  have hown : s.vm.findClass RX2 = some m.cls := findClass_of_methodNamed B.named
  have hlocks := B.notSynchronized
  have hin : meth.name = "<init>" := (name_of_methodNamed B.named B.method).1
  subst hsz
  have hD : va_D (va_A [(h0, .inr (2, df 2))] s.heap.size) [(h0, .inr (2, df 2))] := D_one (Or.inl ⟨0, _, rfl⟩)
  generalize hAe : va_A [(h0, .inr (2, df 2))] s.heap.size = A at hD ⊢
  have hA : ∀ q : Nat, s.heap.size ≤ q → A q := fun q h => by rw [← hAe]; exact Or.inr h
  have hS : va_S A s.heap s.heap [] := va_S.rf
  have hl := lv_entry ([.ref h0]) (n := 1) (Nat.le_of_ble_eq_true rfl)
  rw [lg_entry_eq]
  generalize (lg_sl ([.ref h0]) ++ List.replicate (1 - (lg_sl ([.ref h0])).length) Slot.unset).toArray = ls at hl ⊢
  have hl : lv_has ls 1 [(0, .ref h0)] := hl
  have hP : va_P D vwCl [(h0, .inr (2, [.int 0, .int 0, .int 0, .int 0, .int 0, .int 0, .null, .null, .null, .null, .null, .null, .null, .null]))] s.heap := hP
  have hD : va_D A [(h0, .inr (2, [.int 0, .int 0, .int 0, .int 0, .int 0, .int 0, .null, .null, .null, .null, .null, .null, .null, .null]))] := hD
  refine lv_aload_n hx hb dX2_init_0 rfl (lv_at hl 0 rfl) ?_
  refine W.objInit hx hb hown (hts (.methodLink RX2 3 objectInit) (gt_of 150 (by decide +kernel) rfl)) (hts (.instanceMethod objectInit) (gt_of 122 (by decide +kernel) rfl)) (hts _ (gt_of 123 (by decide +kernel) rfl)) rfl (by rw [hml]; exact hl.1) rfl dX2_init_1 (Nat.le_of_ble_eq_true rfl) (Nat.le_of_ble_eq_true rfl) ?_
  refine W.eq (g2 := F0 m 4 ls []) rfl ?_
  refine lv_aload_n hx hb dX2_init_4 rfl (lv_at hl 0 rfl) ?_
  refine lv_bipush (v := 6) hx hb dX2_init_5 (by decide) ?_
  refine n_newiT (N' := 6) hx hb hts hKx hP hD hS hA (by decide) (by decide) (by decide) (Nat.le_of_ble_eq_true rfl) (Nat.le_of_ble_eq_true rfl) dX2_init_7 (fun a7 H hP hD hS => ?_)
  refine n_putT (v := .ref a7) (fs' := [.int 0, .int 0, .int 0, .int 0, .int 0, .int 0, .ref a7, .null, .null, .null, .null, .null, .null, .null]) hx hb hown hts hin lkJ_X2_9 hKx hP hD hS rfl rfl (Nat.le_of_ble_eq_true rfl) dX2_init_9 rfl (fun H locs hP hD hS => ?_)
  refine lv_aload_n hx hb dX2_init_12 rfl (lv_at hl 0 rfl) ?_
  refine lv_bipush (v := 6) hx hb dX2_init_13 (by decide) ?_
  refine n_newiT (N' := 6) hx hb hts hKx hP hD hS hA (by decide) (by decide) (by decide) (Nat.le_of_ble_eq_true rfl) (Nat.le_of_ble_eq_true rfl) dX2_init_15 (fun a15 H hP hD hS => ?_)
  refine n_putT (v := .ref a15) (fs' := [.int 0, .int 0, .int 0, .int 0, .int 0, .int 0, .ref a7, .ref a15, .null, .null, .null, .null, .null, .null]) hx hb hown hts hin lkJ_X2_15 hKx hP hD hS rfl rfl (Nat.le_of_ble_eq_true rfl) dX2_init_17 rfl (fun H locs hP hD hS => ?_)
  refine lv_aload_n hx hb dX2_init_20 rfl (lv_at hl 0 rfl) ?_
  refine lv_bipush (v := 6) hx hb dX2_init_21 (by decide) ?_
  refine n_newiT (N' := 6) hx hb hts hKx hP hD hS hA (by decide) (by decide) (by decide) (Nat.le_of_ble_eq_true rfl) (Nat.le_of_ble_eq_true rfl) dX2_init_23 (fun a23 H hP hD hS => ?_)
  refine n_putT (v := .ref a23) (fs' := [.int 0, .int 0, .int 0, .int 0, .int 0, .int 0, .ref a7, .ref a15, .ref a23, .null, .null, .null, .null, .null]) hx hb hown hts hin lkJ_X2_18 hKx hP hD hS rfl rfl (Nat.le_of_ble_eq_true rfl) dX2_init_25 rfl (fun H locs hP hD hS => ?_)
  refine lv_aload_n hx hb dX2_init_28 rfl (lv_at hl 0 rfl) ?_
  refine lv_bipush (v := 6) hx hb dX2_init_29 (by decide) ?_
  refine n_newiT (N' := 6) hx hb hts hKx hP hD hS hA (by decide) (by decide) (by decide) (Nat.le_of_ble_eq_true rfl) (Nat.le_of_ble_eq_true rfl) dX2_init_31 (fun a31 H hP hD hS => ?_)
  refine n_putT (v := .ref a31) (fs' := [.int 0, .int 0, .int 0, .int 0, .int 0, .int 0, .ref a7, .ref a15, .ref a23, .ref a31, .null, .null, .null, .null]) hx hb hown hts hin lkJ_X2_21 hKx hP hD hS rfl rfl (Nat.le_of_ble_eq_true rfl) dX2_init_33 rfl (fun H locs hP hD hS => ?_)
  refine lv_aload_n hx hb dX2_init_36 rfl (lv_at hl 0 rfl) ?_
  refine lv_bipush (v := 6) hx hb dX2_init_37 (by decide) ?_
  refine n_newiT (N' := 6) hx hb hts hKx hP hD hS hA (by decide) (by decide) (by decide) (Nat.le_of_ble_eq_true rfl) (Nat.le_of_ble_eq_true rfl) dX2_init_39 (fun a39 H hP hD hS => ?_)
  refine n_putT (v := .ref a39) (fs' := [.int 0, .int 0, .int 0, .int 0, .int 0, .int 0, .ref a7, .ref a15, .ref a23, .ref a31, .ref a39, .null, .null, .null]) hx hb hown hts hin lkJ_X2_24 hKx hP hD hS rfl rfl (Nat.le_of_ble_eq_true rfl) dX2_init_41 rfl (fun H locs hP hD hS => ?_)
  refine lv_aload_n hx hb dX2_init_44 rfl (lv_at hl 0 rfl) ?_
  refine lv_bipush (v := 12) hx hb dX2_init_45 (by decide) ?_
  refine n_newiT (N' := 12) hx hb hts hKx hP hD hS hA (by decide) (by decide) (by decide) (Nat.le_of_ble_eq_true rfl) (Nat.le_of_ble_eq_true rfl) dX2_init_47 (fun a47 H hP hD hS => ?_)
  refine n_putT (v := .ref a47) (fs' := [.int 0, .int 0, .int 0, .int 0, .int 0, .int 0, .ref a7, .ref a15, .ref a23, .ref a31, .ref a39, .ref a47, .null, .null]) hx hb hown hts hin lkJ_X2_27 hKx hP hD hS rfl rfl (Nat.le_of_ble_eq_true rfl) dX2_init_49 rfl (fun H locs hP hD hS => ?_)
  refine lv_aload_n hx hb dX2_init_52 rfl (lv_at hl 0 rfl) ?_
  refine lv_bipush (v := 12) hx hb dX2_init_53 (by decide) ?_
  refine n_newiT (N' := 12) hx hb hts hKx hP hD hS hA (by decide) (by decide) (by decide) (Nat.le_of_ble_eq_true rfl) (Nat.le_of_ble_eq_true rfl) dX2_init_55 (fun a55 H hP hD hS => ?_)
  refine n_putT (v := .ref a55) (fs' := [.int 0, .int 0, .int 0, .int 0, .int 0, .int 0, .ref a7, .ref a15, .ref a23, .ref a31, .ref a39, .ref a47, .ref a55, .null]) hx hb hown hts hin lkJ_X2_30 hKx hP hD hS rfl rfl (Nat.le_of_ble_eq_true rfl) dX2_init_57 rfl (fun H locs hP hD hS => ?_)
  refine lv_aload_n hx hb dX2_init_60 rfl (lv_at hl 0 rfl) ?_
  refine lv_bipush (v := 12) hx hb dX2_init_61 (by decide) ?_
  refine n_newiT (N' := 12) hx hb hts hKx hP hD hS hA (by decide) (by decide) (by decide) (Nat.le_of_ble_eq_true rfl) (Nat.le_of_ble_eq_true rfl) dX2_init_63 (fun a63 H hP hD hS => ?_)
  refine n_putT (v := .ref a63) (fs' := [.int 0, .int 0, .int 0, .int 0, .int 0, .int 0, .ref a7, .ref a15, .ref a23, .ref a31, .ref a39, .ref a47, .ref a55, .ref a63]) hx hb hown hts hin lkJ_X2_33 hKx hP hD hS rfl rfl (Nat.le_of_ble_eq_true rfl) dX2_init_65 rfl (fun H locs hP hD hS => ?_)
  have hP9 : va_P D vwCl (wcV vv2 (adT [fun _ => 0, fun _ => 0, fun _ => h0, fun _ => 0, fun _ => 0, fun _ => 0, fun _ => 0, fun _ => 0, fun _ => 0, fun _ => 0, fun _ => 0, fun _ => 0, fun _ => 0, fun _ => 0, fun _ => 0, fun _ => 0, fun _ => 0, fun _ => 0, fun _ => 0, fun _ => 0, fun _ => 0, fun _ => 0, fun _ => 0, fun _ => a7, fun _ => a15, fun _ => a23, fun _ => a31, fun _ => a39, fun _ => a47, fun _ => a55, fun _ => a63, fun _ => 0, fun _ => 0, fun _ => 0, fun _ => 0, fun _ => 0, fun _ => 0, fun _ => 0, fun _ => 0, fun _ => 0, fun _ => 0, fun _ => 0, fun _ => 0, fun _ => 0, fun _ => 0, fun _ => 0, fun _ => 0, fun _ => 0, fun _ => 0, fun _ => 0, fun _ => 0, fun _ => 0, fun _ => 0, fun _ => 0, fun _ => 0, fun _ => 0, fun _ => 0]) cy z0) H := hP
  have hD9 : va_D A (wcV vv2 (adT [fun _ => 0, fun _ => 0, fun _ => h0, fun _ => 0, fun _ => 0, fun _ => 0, fun _ => 0, fun _ => 0, fun _ => 0, fun _ => 0, fun _ => 0, fun _ => 0, fun _ => 0, fun _ => 0, fun _ => 0, fun _ => 0, fun _ => 0, fun _ => 0, fun _ => 0, fun _ => 0, fun _ => 0, fun _ => 0, fun _ => 0, fun _ => a7, fun _ => a15, fun _ => a23, fun _ => a31, fun _ => a39, fun _ => a47, fun _ => a55, fun _ => a63, fun _ => 0, fun _ => 0, fun _ => 0, fun _ => 0, fun _ => 0, fun _ => 0, fun _ => 0, fun _ => 0, fun _ => 0, fun _ => 0, fun _ => 0, fun _ => 0, fun _ => 0, fun _ => 0, fun _ => 0, fun _ => 0, fun _ => 0, fun _ => 0, fun _ => 0, fun _ => 0, fun _ => 0, fun _ => 0, fun _ => 0, fun _ => 0, fun _ => 0, fun _ => 0]) cy z0) := hD
  refine W.widen (k := 8) (n := 66) (Nat.le_of_ble_eq_true rfl) (Nat.le_of_ble_eq_true rfl) ?_
  exact W.vret hx hb hr (fun t ht hW => ⟨⟨_, rfl, ⟨adT [fun _ => 0, fun _ => 0, fun _ => h0, fun _ => 0, fun _ => 0, fun _ => 0, fun _ => 0, fun _ => 0, fun _ => 0, fun _ => 0, fun _ => 0, fun _ => 0, fun _ => 0, fun _ => 0, fun _ => 0, fun _ => 0, fun _ => 0, fun _ => 0, fun _ => 0, fun _ => 0, fun _ => 0, fun _ => 0, fun _ => 0, fun _ => a7, fun _ => a15, fun _ => a23, fun _ => a31, fun _ => a39, fun _ => a47, fun _ => a55, fun _ => a63, fun _ => 0, fun _ => 0, fun _ => 0, fun _ => 0, fun _ => 0, fun _ => 0, fun _ => 0, fun _ => 0, fun _ => 0, fun _ => 0, fun _ => 0, fun _ => 0, fun _ => 0, fun _ => 0, fun _ => 0, fun _ => 0, fun _ => 0, fun _ => 0, fun _ => 0, fun _ => 0, fun _ => 0, fun _ => 0, fun _ => 0, fun _ => 0, fun _ => 0, fun _ => 0], rfl, rfl⟩, by rw [ht]; exact hP9, hD9⟩, hS.F ht⟩) hS.2.2 dX2_init_68
set_option maxHeartbeats 4000000 in
set_option maxRecDepth 100000 in
theorem c_X6 (l : Launch) (D : va_G) (cy : Nat → ClassId) : Nk l yX6_init cX6_init 1 (rmK 1 1 700 20) 1 700 6 [] cy D (fun h w => ∃ q : Nat → Nat → Nat, q 6 0 = h ∧ w = wcV vv6 q cy z0) := by
  intro h0 sz
  refine Met.ofW (cc := cX6_init) (maxL := 1) (ret := none) (by decide +kernel) rfl ?_
  intro p e s m args below meth c s₁ B hml hv
  obtain ⟨rfl, hsz, hP, hKx⟩ := hv
  have hx := B.exec
  have hb := B.bytes
  have hr := B.returns
  have hts : ∀ w ∈ gt, w.before ([.ref h0] : List Value).toArray s = true := fun w hw => atoms_spec (ws := .code yX6_init cX6_init 1 none :: gt) B.pre w (List.mem_cons_of_mem _ hw)
  have hown : s.vm.findClass RX6 = some m.cls := findClass_of_methodNamed B.named
  have hlocks := B.notSynchronized
  have hin : meth.name = "<init>" := (name_of_methodNamed B.named B.method).1
  subst hsz
  have hD : va_D (va_A [(h0, .inr (6, df 6))] s.heap.size) [(h0, .inr (6, df 6))] := D_one (Or.inl ⟨0, _, rfl⟩)
  generalize hAe : va_A [(h0, .inr (6, df 6))] s.heap.size = A at hD ⊢
  have hA : ∀ q : Nat, s.heap.size ≤ q → A q := fun q h => by rw [← hAe]; exact Or.inr h
  have hS : va_S A s.heap s.heap [] := va_S.rf
  have hl := lv_entry ([.ref h0]) (n := 1) (Nat.le_of_ble_eq_true rfl)
  rw [lg_entry_eq]
  generalize (lg_sl ([.ref h0]) ++ List.replicate (1 - (lg_sl ([.ref h0])).length) Slot.unset).toArray = ls at hl ⊢
  have hl : lv_has ls 1 [(0, .ref h0)] := hl
  have hP : va_P D vwCl [(h0, .inr (6, [.null, .int 0]))] s.heap := hP
  have hD : va_D A [(h0, .inr (6, [.null, .int 0]))] := hD
  refine lv_aload_n hx hb dX6_init_0 rfl (lv_at hl 0 rfl) ?_
  refine W.objInit hx hb hown (hts (.methodLink RX6 3 objectInit) (gt_of 129 (by decide +kernel) rfl)) (hts (.instanceMethod objectInit) (gt_of 122 (by decide +kernel) rfl)) (hts _ (gt_of 123 (by decide +kernel) rfl)) rfl (by rw [hml]; exact hl.1) rfl dX6_init_1 (Nat.le_of_ble_eq_true rfl) (Nat.le_of_ble_eq_true rfl) ?_
  refine W.eq (g2 := F0 m 4 ls []) rfl ?_
  refine lv_aload_n hx hb dX6_init_4 rfl (lv_at hl 0 rfl) ?_
  refine lv_sipush (v := 700) hx hb dX6_init_5 (by decide) ?_
  refine n_newbT (N' := 700) hx hb hts hKx hP hD hS hA (by decide) (by decide) (by decide) (Nat.le_of_ble_eq_true rfl) (Nat.le_of_ble_eq_true rfl) dX6_init_8 (fun a8 H hP hD hS => ?_)
  refine n_putT (v := .ref a8) (fs' := [.ref a8, .int 0]) hx hb hown hts hin lkJ_X6_9 hKx hP hD hS rfl rfl (Nat.le_of_ble_eq_true rfl) dX6_init_10 rfl (fun H locs hP hD hS => ?_)
  have hP9 : va_P D vwCl (wcV vv6 (adT [fun _ => 0, fun _ => 0, fun _ => 0, fun _ => 0, fun _ => 0, fun _ => 0, fun _ => h0, fun _ => 0, fun _ => 0, fun _ => 0, fun _ => 0, fun _ => 0, fun _ => 0, fun _ => 0, fun _ => 0, fun _ => 0, fun _ => 0, fun _ => 0, fun _ => 0, fun _ => 0, fun _ => 0, fun _ => 0, fun _ => 0, fun _ => 0, fun _ => 0, fun _ => 0, fun _ => 0, fun _ => 0, fun _ => 0, fun _ => 0, fun _ => 0, fun _ => 0, fun _ => 0, fun _ => 0, fun _ => 0, fun _ => 0, fun _ => 0, fun _ => 0, fun _ => 0, fun _ => 0, fun _ => 0, fun _ => 0, fun _ => a8, fun _ => 0, fun _ => 0, fun _ => 0, fun _ => 0, fun _ => 0, fun _ => 0, fun _ => 0, fun _ => 0, fun _ => 0, fun _ => 0, fun _ => 0, fun _ => 0, fun _ => 0, fun _ => 0]) cy z0) H := hP
  have hD9 : va_D A (wcV vv6 (adT [fun _ => 0, fun _ => 0, fun _ => 0, fun _ => 0, fun _ => 0, fun _ => 0, fun _ => h0, fun _ => 0, fun _ => 0, fun _ => 0, fun _ => 0, fun _ => 0, fun _ => 0, fun _ => 0, fun _ => 0, fun _ => 0, fun _ => 0, fun _ => 0, fun _ => 0, fun _ => 0, fun _ => 0, fun _ => 0, fun _ => 0, fun _ => 0, fun _ => 0, fun _ => 0, fun _ => 0, fun _ => 0, fun _ => 0, fun _ => 0, fun _ => 0, fun _ => 0, fun _ => 0, fun _ => 0, fun _ => 0, fun _ => 0, fun _ => 0, fun _ => 0, fun _ => 0, fun _ => 0, fun _ => 0, fun _ => 0, fun _ => a8, fun _ => 0, fun _ => 0, fun _ => 0, fun _ => 0, fun _ => 0, fun _ => 0, fun _ => 0, fun _ => 0, fun _ => 0, fun _ => 0, fun _ => 0, fun _ => 0, fun _ => 0, fun _ => 0]) cy z0) := hD
  refine W.widen (k := 1) (n := 700) (Nat.le_of_ble_eq_true rfl) (Nat.le_of_ble_eq_true rfl) ?_
  exact W.vret hx hb hr (fun t ht hW => ⟨⟨_, rfl, ⟨adT [fun _ => 0, fun _ => 0, fun _ => 0, fun _ => 0, fun _ => 0, fun _ => 0, fun _ => h0, fun _ => 0, fun _ => 0, fun _ => 0, fun _ => 0, fun _ => 0, fun _ => 0, fun _ => 0, fun _ => 0, fun _ => 0, fun _ => 0, fun _ => 0, fun _ => 0, fun _ => 0, fun _ => 0, fun _ => 0, fun _ => 0, fun _ => 0, fun _ => 0, fun _ => 0, fun _ => 0, fun _ => 0, fun _ => 0, fun _ => 0, fun _ => 0, fun _ => 0, fun _ => 0, fun _ => 0, fun _ => 0, fun _ => 0, fun _ => 0, fun _ => 0, fun _ => 0, fun _ => 0, fun _ => 0, fun _ => 0, fun _ => a8, fun _ => 0, fun _ => 0, fun _ => 0, fun _ => 0, fun _ => 0, fun _ => 0, fun _ => 0, fun _ => 0, fun _ => 0, fun _ => 0, fun _ => 0, fun _ => 0, fun _ => 0, fun _ => 0], rfl, rfl⟩, by rw [ht]; exact hP9, hD9⟩, hS.F ht⟩) hS.2.2 dX6_init_13
set_option maxHeartbeats 4000000 in
set_option maxRecDepth 100000 in
theorem c_X1 (l : Launch) (D : va_G) (cy : Nat → ClassId) : Nk l yX1_init cX1_init 1 (rmK 1 43 12108 20) 43 12108 1 [] cy D (fun h w => ∃ q : Nat → Nat → Nat, q 1 0 = h ∧ w = wcV vv1 q cy z0) := by
  intro h0 sz
  refine Met.ofW (cc := cX1_init) (maxL := 1) (ret := none) (by decide +kernel) rfl ?_
  intro p e s m args below meth c s₁ B hml hv
  obtain ⟨rfl, hsz, hP, hKx⟩ := hv
  have hx := B.exec
  have hb := B.bytes
  have hr := B.returns
  have hts : ∀ w ∈ gt, w.before ([.ref h0] : List Value).toArray s = true := fun w hw => atoms_spec (ws := .code yX1_init cX1_init 1 none :: gt) B.pre w (List.mem_cons_of_mem _ hw)
  have hown : s.vm.findClass RX1 = some m.cls := findClass_of_methodNamed B.named
  have hlocks := B.notSynchronized
  have hin : meth.name = "<init>" := (name_of_methodNamed B.named B.method).1
  subst hsz
  have hD : va_D (va_A [(h0, .inr (1, df 1))] s.heap.size) [(h0, .inr (1, df 1))] := D_one (Or.inl ⟨0, _, rfl⟩)
  generalize hAe : va_A [(h0, .inr (1, df 1))] s.heap.size = A at hD ⊢
  have hA : ∀ q : Nat, s.heap.size ≤ q → A q := fun q h => by rw [← hAe]; exact Or.inr h
  have hS : va_S A s.heap s.heap [] := va_S.rf
  have hl := lv_entry ([.ref h0]) (n := 1) (Nat.le_of_ble_eq_true rfl)
  rw [lg_entry_eq]
  generalize (lg_sl ([.ref h0]) ++ List.replicate (1 - (lg_sl ([.ref h0])).length) Slot.unset).toArray = ls at hl ⊢
  have hl : lv_has ls 1 [(0, .ref h0)] := hl
  have hP : va_P D vwCl [(h0, .inr (1, [.null, .null, .null, .null, .null, .null, .null, .int 0, .int 0, .int 0, .int 0, .int 0, .int 0, .int 0, .int 0, .int 0, .int 0]))] s.heap := hP
  have hD : va_D A [(h0, .inr (1, [.null, .null, .null, .null, .null, .null, .null, .int 0, .int 0, .int 0, .int 0, .int 0, .int 0, .int 0, .int 0, .int 0, .int 0]))] := hD
  refine lv_aload_n hx hb dX1_init_0 rfl (lv_at hl 0 rfl) ?_
  refine W.objInit hx hb hown (hts (.methodLink RX1 3 objectInit) (gt_of 258 (by decide +kernel) rfl)) (hts (.instanceMethod objectInit) (gt_of 122 (by decide +kernel) rfl)) (hts _ (gt_of 123 (by decide +kernel) rfl)) rfl (by rw [hml]; exact hl.1) rfl dX1_init_1 (Nat.le_of_ble_eq_true rfl) (Nat.le_of_ble_eq_true rfl) ?_
  refine W.eq (g2 := F0 m 4 ls []) rfl ?_
  refine lv_aload_n hx hb dX1_init_4 rfl (lv_at hl 0 rfl) ?_
  refine lv_bipush (v := 6) hx hb dX1_init_5 (by decide) ?_
  refine n_newiT (N' := 6) hx hb hts hKx hP hD hS hA (by decide) (by decide) (by decide) (Nat.le_of_ble_eq_true rfl) (Nat.le_of_ble_eq_true rfl) dX1_init_7 (fun a7 H hP hD hS => ?_)
  refine n_putT (v := .ref a7) (fs' := [.ref a7, .null, .null, .null, .null, .null, .null, .int 0, .int 0, .int 0, .int 0, .int 0, .int 0, .int 0, .int 0, .int 0, .int 0]) hx hb hown hts hin lkJ_X1_9 hKx hP hD hS rfl rfl (Nat.le_of_ble_eq_true rfl) dX1_init_9 rfl (fun H locs hP hD hS => ?_)
  refine lv_aload_n hx hb dX1_init_12 rfl (lv_at hl 0 rfl) ?_
  refine lv_bipush (v := 6) hx hb dX1_init_13 (by decide) ?_
  refine lv_bipush (v := 6) hx hb dX1_init_15 (by decide) ?_
  refine n_gridT (N' := 6) (K' := 6) hx hb hown hts (gt_of 259 (by decide +kernel) rfl) hKx hP hD hS hA (by decide) (by decide) (by decide) (by decide) (by decide) (Nat.le_of_ble_eq_true rfl) (Nat.le_of_ble_eq_true rfl) dX1_init_17 (fun a17 r17 H hP hD hS => ?_)
  refine n_putT (v := .ref a17) (fs' := [.ref a7, .ref a17, .null, .null, .null, .null, .null, .int 0, .int 0, .int 0, .int 0, .int 0, .int 0, .int 0, .int 0, .int 0, .int 0]) hx hb hown hts hin lkJ_X1_17 hKx hP hD hS rfl rfl (Nat.le_of_ble_eq_true rfl) dX1_init_21 rfl (fun H locs hP hD hS => ?_)
  refine lv_aload_n hx hb dX1_init_24 rfl (lv_at hl 0 rfl) ?_
  refine lv_bipush (v := 6) hx hb dX1_init_25 (by decide) ?_
  refine lv_sipush (v := 401) hx hb dX1_init_27 (by decide) ?_
  refine n_gridT (N' := 6) (K' := 401) hx hb hown hts (gt_of 259 (by decide +kernel) rfl) hKx hP hD hS hA (by decide) (by decide) (by decide) (by decide) (by decide) (Nat.le_of_ble_eq_true rfl) (Nat.le_of_ble_eq_true rfl) dX1_init_30 (fun a30 r30 H hP hD hS => ?_)
  refine n_putT (v := .ref a30) (fs' := [.ref a7, .ref a17, .ref a30, .null, .null, .null, .null, .int 0, .int 0, .int 0, .int 0, .int 0, .int 0, .int 0, .int 0, .int 0, .int 0]) hx hb hown hts hin lkJ_X1_20 hKx hP hD hS rfl rfl (Nat.le_of_ble_eq_true rfl) dX1_init_34 rfl (fun H locs hP hD hS => ?_)
  refine lv_aload_n hx hb dX1_init_37 rfl (lv_at hl 0 rfl) ?_
  refine lv_bipush (v := 6) hx hb dX1_init_38 (by decide) ?_
  refine lv_sipush (v := 401) hx hb dX1_init_40 (by decide) ?_
  refine n_gridT (N' := 6) (K' := 401) hx hb hown hts (gt_of 259 (by decide +kernel) rfl) hKx hP hD hS hA (by decide) (by decide) (by decide) (by decide) (by decide) (Nat.le_of_ble_eq_true rfl) (Nat.le_of_ble_eq_true rfl) dX1_init_43 (fun a43 r43 H hP hD hS => ?_)
  refine n_putT (v := .ref a43) (fs' := [.ref a7, .ref a17, .ref a30, .ref a43, .null, .null, .null, .int 0, .int 0, .int 0, .int 0, .int 0, .int 0, .int 0, .int 0, .int 0, .int 0]) hx hb hown hts hin lkJ_X1_23 hKx hP hD hS rfl rfl (Nat.le_of_ble_eq_true rfl) dX1_init_47 rfl (fun H locs hP hD hS => ?_)
  refine lv_aload_n hx hb dX1_init_50 rfl (lv_at hl 0 rfl) ?_
  refine lv_bipush (v := 6) hx hb dX1_init_51 (by decide) ?_
  refine lv_sipush (v := 401) hx hb dX1_init_53 (by decide) ?_
  refine n_gridT (N' := 6) (K' := 401) hx hb hown hts (gt_of 259 (by decide +kernel) rfl) hKx hP hD hS hA (by decide) (by decide) (by decide) (by decide) (by decide) (Nat.le_of_ble_eq_true rfl) (Nat.le_of_ble_eq_true rfl) dX1_init_56 (fun a56 r56 H hP hD hS => ?_)
  refine n_putT (v := .ref a56) (fs' := [.ref a7, .ref a17, .ref a30, .ref a43, .ref a56, .null, .null, .int 0, .int 0, .int 0, .int 0, .int 0, .int 0, .int 0, .int 0, .int 0, .int 0]) hx hb hown hts hin lkJ_X1_26 hKx hP hD hS rfl rfl (Nat.le_of_ble_eq_true rfl) dX1_init_60 rfl (fun H locs hP hD hS => ?_)
  refine lv_aload_n hx hb dX1_init_63 rfl (lv_at hl 0 rfl) ?_
  refine lv_bipush (v := 6) hx hb dX1_init_64 (by decide) ?_
  refine lv_sipush (v := 401) hx hb dX1_init_66 (by decide) ?_
  refine n_gridT (N' := 6) (K' := 401) hx hb hown hts (gt_of 259 (by decide +kernel) rfl) hKx hP hD hS hA (by decide) (by decide) (by decide) (by decide) (by decide) (Nat.le_of_ble_eq_true rfl) (Nat.le_of_ble_eq_true rfl) dX1_init_69 (fun a69 r69 H hP hD hS => ?_)
  refine n_putT (v := .ref a69) (fs' := [.ref a7, .ref a17, .ref a30, .ref a43, .ref a56, .ref a69, .null, .int 0, .int 0, .int 0, .int 0, .int 0, .int 0, .int 0, .int 0, .int 0, .int 0]) hx hb hown hts hin lkJ_X1_29 hKx hP hD hS rfl rfl (Nat.le_of_ble_eq_true rfl) dX1_init_73 rfl (fun H locs hP hD hS => ?_)
  refine lv_aload_n hx hb dX1_init_76 rfl (lv_at hl 0 rfl) ?_
  refine lv_bipush (v := 6) hx hb dX1_init_77 (by decide) ?_
  refine lv_sipush (v := 401) hx hb dX1_init_79 (by decide) ?_
  refine n_gridT (N' := 6) (K' := 401) hx hb hown hts (gt_of 259 (by decide +kernel) rfl) hKx hP hD hS hA (by decide) (by decide) (by decide) (by decide) (by decide) (Nat.le_of_ble_eq_true rfl) (Nat.le_of_ble_eq_true rfl) dX1_init_82 (fun a82 r82 H hP hD hS => ?_)
  refine n_putT (v := .ref a82) (fs' := [.ref a7, .ref a17, .ref a30, .ref a43, .ref a56, .ref a69, .ref a82, .int 0, .int 0, .int 0, .int 0, .int 0, .int 0, .int 0, .int 0, .int 0, .int 0]) hx hb hown hts hin lkJ_X1_32 hKx hP hD hS rfl rfl (Nat.le_of_ble_eq_true rfl) dX1_init_86 rfl (fun H locs hP hD hS => ?_)
  have hP9 : va_P D vwCl (wcV vv1 (adT [fun _ => 0, fun _ => h0, fun _ => 0, fun _ => 0, fun _ => 0, fun _ => 0, fun _ => 0, fun _ => 0, fun _ => 0, fun _ => 0, fun _ => a7, fun _ => a17, r17, fun _ => a30, r30, fun _ => a43, r43, fun _ => a56, r56, fun _ => a69, r69, fun _ => a82, r82, fun _ => 0, fun _ => 0, fun _ => 0, fun _ => 0, fun _ => 0, fun _ => 0, fun _ => 0, fun _ => 0, fun _ => 0, fun _ => 0, fun _ => 0, fun _ => 0, fun _ => 0, fun _ => 0, fun _ => 0, fun _ => 0, fun _ => 0, fun _ => 0, fun _ => 0, fun _ => 0, fun _ => 0, fun _ => 0, fun _ => 0, fun _ => 0, fun _ => 0, fun _ => 0, fun _ => 0, fun _ => 0, fun _ => 0, fun _ => 0, fun _ => 0, fun _ => 0, fun _ => 0, fun _ => 0]) cy z0) H := hP
  have hD9 : va_D A (wcV vv1 (adT [fun _ => 0, fun _ => h0, fun _ => 0, fun _ => 0, fun _ => 0, fun _ => 0, fun _ => 0, fun _ => 0, fun _ => 0, fun _ => 0, fun _ => a7, fun _ => a17, r17, fun _ => a30, r30, fun _ => a43, r43, fun _ => a56, r56, fun _ => a69, r69, fun _ => a82, r82, fun _ => 0, fun _ => 0, fun _ => 0, fun _ => 0, fun _ => 0, fun _ => 0, fun _ => 0, fun _ => 0, fun _ => 0, fun _ => 0, fun _ => 0, fun _ => 0, fun _ => 0, fun _ => 0, fun _ => 0, fun _ => 0, fun _ => 0, fun _ => 0, fun _ => 0, fun _ => 0, fun _ => 0, fun _ => 0, fun _ => 0, fun _ => 0, fun _ => 0, fun _ => 0, fun _ => 0, fun _ => 0, fun _ => 0, fun _ => 0, fun _ => 0, fun _ => 0, fun _ => 0, fun _ => 0]) cy z0) := hD
  refine W.widen (k := 43) (n := 12108) (Nat.le_of_ble_eq_true rfl) (Nat.le_of_ble_eq_true rfl) ?_
  exact W.vret hx hb hr (fun t ht hW => ⟨⟨_, rfl, ⟨adT [fun _ => 0, fun _ => h0, fun _ => 0, fun _ => 0, fun _ => 0, fun _ => 0, fun _ => 0, fun _ => 0, fun _ => 0, fun _ => 0, fun _ => a7, fun _ => a17, r17, fun _ => a30, r30, fun _ => a43, r43, fun _ => a56, r56, fun _ => a69, r69, fun _ => a82, r82, fun _ => 0, fun _ => 0, fun _ => 0, fun _ => 0, fun _ => 0, fun _ => 0, fun _ => 0, fun _ => 0, fun _ => 0, fun _ => 0, fun _ => 0, fun _ => 0, fun _ => 0, fun _ => 0, fun _ => 0, fun _ => 0, fun _ => 0, fun _ => 0, fun _ => 0, fun _ => 0, fun _ => 0, fun _ => 0, fun _ => 0, fun _ => 0, fun _ => 0, fun _ => 0, fun _ => 0, fun _ => 0, fun _ => 0, fun _ => 0, fun _ => 0, fun _ => 0, fun _ => 0, fun _ => 0], rfl, rfl⟩, by rw [ht]; exact hP9, hD9⟩, hS.F ht⟩) hS.2.2 dX1_init_89
set_option maxHeartbeats 4000000 in
set_option maxRecDepth 100000 in
theorem c_X5 (l : Launch) (D : va_G) (cy : Nat → ClassId) : Nk l yX5_init cX5_init 1 (rmK 1 25 218 20) 25 218 5 [] cy D (fun h w => ∃ q : Nat → Nat → Nat, q 5 0 = h ∧ w = wcV vv5 q cy z0) := by
  intro h0 sz
  refine Met.ofW (cc := cX5_init) (maxL := 1) (ret := none) (by decide +kernel) rfl ?_
  intro p e s m args below meth c s₁ B hml hv
  obtain ⟨rfl, hsz, hP, hKx⟩ := hv
  have hx := B.exec
  have hb := B.bytes
  have hr := B.returns
  have hts : ∀ w ∈ gt, w.before ([.ref h0] : List Value).toArray s = true := fun w hw => atoms_spec (ws := .code yX5_init cX5_init 1 none :: gt) B.pre w (List.mem_cons_of_mem _ hw)
  have hown : s.vm.findClass RX5 = some m.cls := findClass_of_methodNamed B.named
  have hlocks := B.notSynchronized
  have hin : meth.name = "<init>" := (name_of_methodNamed B.named B.method).1
  subst hsz
  have hD : va_D (va_A [(h0, .inr (5, df 5))] s.heap.size) [(h0, .inr (5, df 5))] := D_one (Or.inl ⟨0, _, rfl⟩)
  generalize hAe : va_A [(h0, .inr (5, df 5))] s.heap.size = A at hD ⊢
  have hA : ∀ q : Nat, s.heap.size ≤ q → A q := fun q h => by rw [← hAe]; exact Or.inr h
  have hS : va_S A s.heap s.heap [] := va_S.rf
  have hl := lv_entry ([.ref h0]) (n := 1) (Nat.le_of_ble_eq_true rfl)
  rw [lg_entry_eq]
  generalize (lg_sl ([.ref h0]) ++ List.replicate (1 - (lg_sl ([.ref h0])).length) Slot.unset).toArray = ls at hl ⊢
  have hl : lv_has ls 1 [(0, .ref h0)] := hl
  have hP : va_P D vwCl [(h0, .inr (5, [.int 0, .int 0, .int 0, .int 0, .int 0, .null, .null, .null]))] s.heap := hP
  have hD : va_D A [(h0, .inr (5, [.int 0, .int 0, .int 0, .int 0, .int 0, .null, .null, .null]))] := hD
  refine lv_aload_n hx hb dX5_init_0 rfl (lv_at hl 0 rfl) ?_
  refine W.objInit hx hb hown (hts (.methodLink RX5 3 objectInit) (gt_of 351 (by decide +kernel) rfl)) (hts (.instanceMethod objectInit) (gt_of 122 (by decide +kernel) rfl)) (hts _ (gt_of 123 (by decide +kernel) rfl)) rfl (by rw [hml]; exact hl.1) rfl dX5_init_1 (Nat.le_of_ble_eq_true rfl) (Nat.le_of_ble_eq_true rfl) ?_
  refine W.eq (g2 := F0 m 4 ls []) rfl ?_
  refine lv_aload_n hx hb dX5_init_4 rfl (lv_at hl 0 rfl) ?_
  refine lv_bipush (v := 6) hx hb dX5_init_5 (by decide) ?_
  refine lv_bipush (v := 6) hx hb dX5_init_7 (by decide) ?_
  refine n_gridT (N' := 6) (K' := 6) hx hb hown hts (gt_of 352 (by decide +kernel) rfl) hKx hP hD hS hA (by decide) (by decide) (by decide) (by decide) (by decide) (Nat.le_of_ble_eq_true rfl) (Nat.le_of_ble_eq_true rfl) dX5_init_9 (fun a9 r9 H hP hD hS => ?_)
  refine n_putT (v := .ref a9) (fs' := [.int 0, .int 0, .int 0, .int 0, .int 0, .ref a9, .null, .null]) hx hb hown hts hin lkJ_X5_11 hKx hP hD hS rfl rfl (Nat.le_of_ble_eq_true rfl) dX5_init_13 rfl (fun H locs hP hD hS => ?_)
  refine lv_aload_n hx hb dX5_init_16 rfl (lv_at hl 0 rfl) ?_
  refine lv_bipush (v := 16) hx hb dX5_init_17 (by decide) ?_
  refine lv_bipush (v := 6) hx hb dX5_init_19 (by decide) ?_
  refine n_gridT (N' := 16) (K' := 6) hx hb hown hts (gt_of 352 (by decide +kernel) rfl) hKx hP hD hS hA (by decide) (by decide) (by decide) (by decide) (by decide) (Nat.le_of_ble_eq_true rfl) (Nat.le_of_ble_eq_true rfl) dX5_init_21 (fun a21 r21 H hP hD hS => ?_)
  refine n_putT (v := .ref a21) (fs' := [.int 0, .int 0, .int 0, .int 0, .int 0, .ref a9, .ref a21, .null]) hx hb hown hts hin lkJ_X5_16 hKx hP hD hS rfl rfl (Nat.le_of_ble_eq_true rfl) dX5_init_25 rfl (fun H locs hP hD hS => ?_)
  refine lv_aload_n hx hb dX5_init_28 rfl (lv_at hl 0 rfl) ?_
  refine lv_bipush (v := 64) hx hb dX5_init_29 (by decide) ?_
  refine n_newiT (N' := 64) hx hb hts hKx hP hD hS hA (by decide) (by decide) (by decide) (Nat.le_of_ble_eq_true rfl) (Nat.le_of_ble_eq_true rfl) dX5_init_31 (fun a31 H hP hD hS => ?_)
  refine n_putT (v := .ref a31) (fs' := [.int 0, .int 0, .int 0, .int 0, .int 0, .ref a9, .ref a21, .ref a31]) hx hb hown hts hin lkJ_X5_19 hKx hP hD hS rfl rfl (Nat.le_of_ble_eq_true rfl) dX5_init_33 rfl (fun H locs hP hD hS => ?_)
  have hP9 : va_P D vwCl (wcV vv5 (adT [fun _ => 0, fun _ => 0, fun _ => 0, fun _ => 0, fun _ => 0, fun _ => h0, fun _ => 0, fun _ => 0, fun _ => 0, fun _ => 0, fun _ => 0, fun _ => 0, fun _ => 0, fun _ => 0, fun _ => 0, fun _ => 0, fun _ => 0, fun _ => 0, fun _ => 0, fun _ => 0, fun _ => 0, fun _ => 0, fun _ => 0, fun _ => 0, fun _ => 0, fun _ => 0, fun _ => 0, fun _ => 0, fun _ => 0, fun _ => 0, fun _ => 0, fun _ => 0, fun _ => 0, fun _ => 0, fun _ => 0, fun _ => 0, fun _ => 0, fun _ => a9, r9, fun _ => a21, r21, fun _ => a31, fun _ => 0, fun _ => 0, fun _ => 0, fun _ => 0, fun _ => 0, fun _ => 0, fun _ => 0, fun _ => 0, fun _ => 0, fun _ => 0, fun _ => 0, fun _ => 0, fun _ => 0, fun _ => 0, fun _ => 0]) cy z0) H := hP
  have hD9 : va_D A (wcV vv5 (adT [fun _ => 0, fun _ => 0, fun _ => 0, fun _ => 0, fun _ => 0, fun _ => h0, fun _ => 0, fun _ => 0, fun _ => 0, fun _ => 0, fun _ => 0, fun _ => 0, fun _ => 0, fun _ => 0, fun _ => 0, fun _ => 0, fun _ => 0, fun _ => 0, fun _ => 0, fun _ => 0, fun _ => 0, fun _ => 0, fun _ => 0, fun _ => 0, fun _ => 0, fun _ => 0, fun _ => 0, fun _ => 0, fun _ => 0, fun _ => 0, fun _ => 0, fun _ => 0, fun _ => 0, fun _ => 0, fun _ => 0, fun _ => 0, fun _ => 0, fun _ => a9, r9, fun _ => a21, r21, fun _ => a31, fun _ => 0, fun _ => 0, fun _ => 0, fun _ => 0, fun _ => 0, fun _ => 0, fun _ => 0, fun _ => 0, fun _ => 0, fun _ => 0, fun _ => 0, fun _ => 0, fun _ => 0, fun _ => 0, fun _ => 0]) cy z0) := hD
  refine W.widen (k := 25) (n := 218) (Nat.le_of_ble_eq_true rfl) (Nat.le_of_ble_eq_true rfl) ?_
  exact W.vret hx hb hr (fun t ht hW => ⟨⟨_, rfl, ⟨adT [fun _ => 0, fun _ => 0, fun _ => 0, fun _ => 0, fun _ => 0, fun _ => h0, fun _ => 0, fun _ => 0, fun _ => 0, fun _ => 0, fun _ => 0, fun _ => 0, fun _ => 0, fun _ => 0, fun _ => 0, fun _ => 0, fun _ => 0, fun _ => 0, fun _ => 0, fun _ => 0, fun _ => 0, fun _ => 0, fun _ => 0, fun _ => 0, fun _ => 0, fun _ => 0, fun _ => 0, fun _ => 0, fun _ => 0, fun _ => 0, fun _ => 0, fun _ => 0, fun _ => 0, fun _ => 0, fun _ => 0, fun _ => 0, fun _ => 0, fun _ => a9, r9, fun _ => a21, r21, fun _ => a31, fun _ => 0, fun _ => 0, fun _ => 0, fun _ => 0, fun _ => 0, fun _ => 0, fun _ => 0, fun _ => 0, fun _ => 0, fun _ => 0, fun _ => 0, fun _ => 0, fun _ => 0, fun _ => 0, fun _ => 0], rfl, rfl⟩, by rw [ht]; exact hP9, hD9⟩, hS.F ht⟩) hS.2.2 dX5_init_36
set_option maxHeartbeats 4000000 in
set_option maxRecDepth 100000 in
theorem c_X3 (l : Launch) (D : va_G) (cy : Nat → ClassId) (tp : Nat) : Nk l yX3_init cX3_init 2 (rmK 2 9 80 40) 9 80 3 [.ref tp] cy D (fun h w => ∃ q : Nat → Nat → Nat, q 3 0 = h ∧ q 6 0 = tp ∧ w = wcV vv3 q cy z0) := by
  intro h0 sz
  refine Met.ofW (cc := cX3_init) (maxL := 2) (ret := none) (by decide +kernel) rfl ?_
  intro p e s m args below meth c s₁ B hml hv
  obtain ⟨rfl, hsz, hP, hKx⟩ := hv
  have hx := B.exec
  have hb := B.bytes
  have hr := B.returns
  have hts : ∀ w ∈ gt, w.before ([.ref h0, .ref tp] : List Value).toArray s = true := fun w hw => atoms_spec (ws := .code yX3_init cX3_init 2 none :: gt) B.pre w (List.mem_cons_of_mem _ hw)
  have hown : s.vm.findClass RX3 = some m.cls := findClass_of_methodNamed B.named
  have hlocks := B.notSynchronized
  have hin : meth.name = "<init>" := (name_of_methodNamed B.named B.method).1
  subst hsz
  have hD : va_D (va_A [(h0, .inr (3, df 3))] s.heap.size) [(h0, .inr (3, df 3))] := D_one (Or.inl ⟨0, _, rfl⟩)
  generalize hAe : va_A [(h0, .inr (3, df 3))] s.heap.size = A at hD ⊢
  have hA : ∀ q : Nat, s.heap.size ≤ q → A q := fun q h => by rw [← hAe]; exact Or.inr h
  have hS : va_S A s.heap s.heap [] := va_S.rf
  have hl := lv_entry ([.ref h0, .ref tp]) (n := 2) (Nat.le_of_ble_eq_true rfl)
  rw [lg_entry_eq]
  generalize (lg_sl ([.ref h0, .ref tp]) ++ List.replicate (2 - (lg_sl ([.ref h0, .ref tp])).length) Slot.unset).toArray = ls at hl ⊢
  have hl : lv_has ls 2 [(0, .ref h0), (1, .ref tp)] := hl
  have hP : va_P D vwCl [(h0, .inr (3, [.int 0, .int 0, .null, .null, .int 0, .int 0, .int 0, .int 0, .int 0]))] s.heap := hP
  have hD : va_D A [(h0, .inr (3, [.int 0, .int 0, .null, .null, .int 0, .int 0, .int 0, .int 0, .int 0]))] := hD
  refine lv_aload_n hx hb dX3_init_0 rfl (lv_at hl 0 rfl) ?_
  refine W.objInit hx hb hown (hts (.methodLink RX3 3 objectInit) (gt_of 144 (by decide +kernel) rfl)) (hts (.instanceMethod objectInit) (gt_of 122 (by decide +kernel) rfl)) (hts _ (gt_of 123 (by decide +kernel) rfl)) rfl (by rw [hml]; exact hl.1) rfl dX3_init_1 (Nat.le_of_ble_eq_true rfl) (Nat.le_of_ble_eq_true rfl) ?_
  refine W.eq (g2 := F0 m 4 ls []) rfl ?_
  refine lv_aload_n hx hb dX3_init_4 rfl (lv_at hl 0 rfl) ?_
  refine n_new hx hb hown hts lkI_X3_9 hKx hP hD hS hA (Nat.le_of_ble_eq_true rfl) (Nat.le_of_ble_eq_true rfl) dX3_init_5 (fun b5 H hP hD hS => ?_)
  refine lv_dup hx hb dX3_init_8 rfl ?_
  refine n_callT (As := []) (rest := [.ref b5, .ref h0]) (n := 0) hx hb hml hown hts (c_X2 l D cy) (Or.inl (hKx.2.1 _ (by simp [nestI]))) ⟨gt_of 98 (by decide +kernel) rfl, gt_of 148 (by decide +kernel) rfl, gt_of 149 (by decide +kernel) rfl⟩ ⟨rfl, by decide +kernel, by decide +kernel, by decide +kernel⟩ rfl ⟨rfl, rfl, Nat.le_of_ble_eq_true rfl, Nat.le_of_ble_eq_true rfl⟩ hKx hP hD hS hA hl.1 (Nat.le_of_ble_eq_true rfl) dX3_init_9 ⟨Nat.le_of_ble_eq_true rfl, Nat.le_of_ble_eq_true rfl⟩ (fun w9 H locs hw hP1 hD1 hS1 => ?_)
  obtain ⟨q9, e9, rfl⟩ := hw
  subst e9
  have hP := hP1
  have hD := hD1
  have hS := hS1
  refine n_putT (v := .ref (q9 2 0)) (fs' := [.int 0, .int 0, .null, .ref (q9 2 0), .int 0, .int 0, .int 0, .int 0, .int 0]) hx hb hown hts hin lkJ_X3_12 hKx hP hD hS rfl rfl (Nat.le_of_ble_eq_true rfl) dX3_init_12 rfl (fun H locs hP hD hS => ?_)
  refine lv_aload_n hx hb dX3_init_15 rfl (lv_at hl 0 rfl) ?_
  refine lv_aload_n hx hb dX3_init_16 rfl (lv_at hl 1 rfl) ?_
  refine n_putT (v := .ref tp) (fs' := [.int 0, .int 0, .ref tp, .ref (q9 2 0), .int 0, .int 0, .int 0, .int 0, .int 0]) hx hb hown hts hin lkJ_X3_18 hKx hP hD hS rfl rfl (Nat.le_of_ble_eq_true rfl) dX3_init_17 rfl (fun H locs hP hD hS => ?_)
  have hP9 : va_P D vwCl (wcV vv3 (adT [fun _ => 0, fun _ => 0, q9 2, fun _ => h0, fun _ => 0, fun _ => 0, fun _ => tp, fun _ => 0, fun _ => 0, fun _ => 0, fun _ => 0, fun _ => 0, fun _ => 0, fun _ => 0, fun _ => 0, fun _ => 0, fun _ => 0, fun _ => 0, fun _ => 0, fun _ => 0, fun _ => 0, fun _ => 0, fun _ => 0, q9 23, q9 24, q9 25, q9 26, q9 27, q9 28, q9 29, q9 30, fun _ => 0, fun _ => 0, fun _ => 0, fun _ => 0, fun _ => 0, fun _ => 0, fun _ => 0, fun _ => 0, fun _ => 0, fun _ => 0, fun _ => 0, fun _ => 0, fun _ => 0, fun _ => 0, fun _ => 0, fun _ => 0, fun _ => 0, fun _ => 0, fun _ => 0, fun _ => 0, fun _ => 0, fun _ => 0, fun _ => 0, fun _ => 0, fun _ => 0, fun _ => 0]) cy z0) H := hP
  have hD9 : va_D A (wcV vv3 (adT [fun _ => 0, fun _ => 0, q9 2, fun _ => h0, fun _ => 0, fun _ => 0, fun _ => tp, fun _ => 0, fun _ => 0, fun _ => 0, fun _ => 0, fun _ => 0, fun _ => 0, fun _ => 0, fun _ => 0, fun _ => 0, fun _ => 0, fun _ => 0, fun _ => 0, fun _ => 0, fun _ => 0, fun _ => 0, fun _ => 0, q9 23, q9 24, q9 25, q9 26, q9 27, q9 28, q9 29, q9 30, fun _ => 0, fun _ => 0, fun _ => 0, fun _ => 0, fun _ => 0, fun _ => 0, fun _ => 0, fun _ => 0, fun _ => 0, fun _ => 0, fun _ => 0, fun _ => 0, fun _ => 0, fun _ => 0, fun _ => 0, fun _ => 0, fun _ => 0, fun _ => 0, fun _ => 0, fun _ => 0, fun _ => 0, fun _ => 0, fun _ => 0, fun _ => 0, fun _ => 0, fun _ => 0]) cy z0) := hD
  refine W.widen (k := 9) (n := 80) (Nat.le_of_ble_eq_true rfl) (Nat.le_of_ble_eq_true rfl) ?_
  exact W.vret hx hb hr (fun t ht hW => ⟨⟨_, rfl, ⟨adT [fun _ => 0, fun _ => 0, q9 2, fun _ => h0, fun _ => 0, fun _ => 0, fun _ => tp, fun _ => 0, fun _ => 0, fun _ => 0, fun _ => 0, fun _ => 0, fun _ => 0, fun _ => 0, fun _ => 0, fun _ => 0, fun _ => 0, fun _ => 0, fun _ => 0, fun _ => 0, fun _ => 0, fun _ => 0, fun _ => 0, q9 23, q9 24, q9 25, q9 26, q9 27, q9 28, q9 29, q9 30, fun _ => 0, fun _ => 0, fun _ => 0, fun _ => 0, fun _ => 0, fun _ => 0, fun _ => 0, fun _ => 0, fun _ => 0, fun _ => 0, fun _ => 0, fun _ => 0, fun _ => 0, fun _ => 0, fun _ => 0, fun _ => 0, fun _ => 0, fun _ => 0, fun _ => 0, fun _ => 0, fun _ => 0, fun _ => 0, fun _ => 0, fun _ => 0, fun _ => 0, fun _ => 0], rfl, rfl, rfl⟩, by rw [ht]; exact hP9, hD9⟩, hS.F ht⟩) hS.2.2 dX3_init_20
set_option maxHeartbeats 4000000 in
set_option maxRecDepth 100000 in
theorem c_X0 (l : Launch) (D : va_G) (cy : Nat → ClassId) : Nk l yX0_init cX0_init 1 (rmK 2 44 12125 40) 44 12125 0 [] cy D (fun h w => ∃ q : Nat → Nat → Nat, q 0 0 = h ∧ w = wcV vv0 q cy z0) := by
  intro h0 sz
  refine Met.ofW (cc := cX0_init) (maxL := 1) (ret := none) (by decide +kernel) rfl ?_
  intro p e s m args below meth c s₁ B hml hv
  obtain ⟨rfl, hsz, hP, hKx⟩ := hv
  have hx := B.exec
  have hb := B.bytes
  have hr := B.returns
  have hts : ∀ w ∈ gt, w.before ([.ref h0] : List Value).toArray s = true := fun w hw => atoms_spec (ws := .code yX0_init cX0_init 1 none :: gt) B.pre w (List.mem_cons_of_mem _ hw)
  have hown : s.vm.findClass RX0 = some m.cls := findClass_of_methodNamed B.named
  have hlocks := B.notSynchronized
  have hin : meth.name = "<init>" := (name_of_methodNamed B.named B.method).1
  subst hsz
  have hD : va_D (va_A [(h0, .inr (0, df 0))] s.heap.size) [(h0, .inr (0, df 0))] := D_one (Or.inl ⟨0, _, rfl⟩)
  generalize hAe : va_A [(h0, .inr (0, df 0))] s.heap.size = A at hD ⊢
  have hA : ∀ q : Nat, s.heap.size ≤ q → A q := fun q h => by rw [← hAe]; exact Or.inr h
  have hS : va_S A s.heap s.heap [] := va_S.rf
  have hl := lv_entry ([.ref h0]) (n := 1) (Nat.le_of_ble_eq_true rfl)
  rw [lg_entry_eq]
  generalize (lg_sl ([.ref h0]) ++ List.replicate (1 - (lg_sl ([.ref h0])).length) Slot.unset).toArray = ls at hl ⊢
  have hl : lv_has ls 1 [(0, .ref h0)] := hl
  have hP : va_P D vwCl [(h0, .inr (0, [.null, .int 0, .int 0, .int 0, .int 0]))] s.heap := hP
  have hD : va_D A [(h0, .inr (0, [.null, .int 0, .int 0, .int 0, .int 0]))] := hD
  refine lv_aload_n hx hb dX0_init_0 rfl (lv_at hl 0 rfl) ?_
  refine W.objInit hx hb hown (hts (.methodLink RX0 3 objectInit) (gt_of 252 (by decide +kernel) rfl)) (hts (.instanceMethod objectInit) (gt_of 122 (by decide +kernel) rfl)) (hts _ (gt_of 123 (by decide +kernel) rfl)) rfl (by rw [hml]; exact hl.1) rfl dX0_init_1 (Nat.le_of_ble_eq_true rfl) (Nat.le_of_ble_eq_true rfl) ?_
  refine W.eq (g2 := F0 m 4 ls []) rfl ?_
  refine lv_aload_n hx hb dX0_init_4 rfl (lv_at hl 0 rfl) ?_
  refine n_new hx hb hown hts lkI_X0_9 hKx hP hD hS hA (Nat.le_of_ble_eq_true rfl) (Nat.le_of_ble_eq_true rfl) dX0_init_5 (fun b5 H hP hD hS => ?_)
  refine lv_dup hx hb dX0_init_8 rfl ?_
  refine n_callT (As := []) (rest := [.ref b5, .ref h0]) (n := 0) hx hb hml hown hts (c_X1 l D cy) (Or.inl (hKx.2.1 _ (by simp [nestI]))) ⟨gt_of 100 (by decide +kernel) rfl, gt_of 256 (by decide +kernel) rfl, gt_of 257 (by decide +kernel) rfl⟩ ⟨rfl, by decide +kernel, by decide +kernel, by decide +kernel⟩ rfl ⟨rfl, rfl, Nat.le_of_ble_eq_true rfl, Nat.le_of_ble_eq_true rfl⟩ hKx hP hD hS hA hl.1 (Nat.le_of_ble_eq_true rfl) dX0_init_9 ⟨Nat.le_of_ble_eq_true rfl, Nat.le_of_ble_eq_true rfl⟩ (fun w9 H locs hw hP1 hD1 hS1 => ?_)
  obtain ⟨q9, e9, rfl⟩ := hw
  subst e9
  have hP := hP1
  have hD := hD1
  have hS := hS1
  refine n_putT (v := .ref (q9 1 0)) (fs' := [.ref (q9 1 0), .int 0, .int 0, .int 0, .int 0]) hx hb hown hts hin lkJ_X0_12 hKx hP hD hS rfl rfl (Nat.le_of_ble_eq_true rfl) dX0_init_12 rfl (fun H locs hP hD hS => ?_)
  have hP9 : va_P D vwCl (wcV vv0 (adT [fun _ => h0, q9 1, fun _ => 0, fun _ => 0, fun _ => 0, fun _ => 0, fun _ => 0, fun _ => 0, fun _ => 0, fun _ => 0, q9 10, q9 11, q9 12, q9 13, q9 14, q9 15, q9 16, q9 17, q9 18, q9 19, q9 20, q9 21, q9 22, fun _ => 0, fun _ => 0, fun _ => 0, fun _ => 0, fun _ => 0, fun _ => 0, fun _ => 0, fun _ => 0, fun _ => 0, fun _ => 0, fun _ => 0, fun _ => 0, fun _ => 0, fun _ => 0, fun _ => 0, fun _ => 0, fun _ => 0, fun _ => 0, fun _ => 0, fun _ => 0, fun _ => 0, fun _ => 0, fun _ => 0, fun _ => 0, fun _ => 0, fun _ => 0, fun _ => 0, fun _ => 0, fun _ => 0, fun _ => 0, fun _ => 0, fun _ => 0, fun _ => 0, fun _ => 0]) cy z0) H := hP
  have hD9 : va_D A (wcV vv0 (adT [fun _ => h0, q9 1, fun _ => 0, fun _ => 0, fun _ => 0, fun _ => 0, fun _ => 0, fun _ => 0, fun _ => 0, fun _ => 0, q9 10, q9 11, q9 12, q9 13, q9 14, q9 15, q9 16, q9 17, q9 18, q9 19, q9 20, q9 21, q9 22, fun _ => 0, fun _ => 0, fun _ => 0, fun _ => 0, fun _ => 0, fun _ => 0, fun _ => 0, fun _ => 0, fun _ => 0, fun _ => 0, fun _ => 0, fun _ => 0, fun _ => 0, fun _ => 0, fun _ => 0, fun _ => 0, fun _ => 0, fun _ => 0, fun _ => 0, fun _ => 0, fun _ => 0, fun _ => 0, fun _ => 0, fun _ => 0, fun _ => 0, fun _ => 0, fun _ => 0, fun _ => 0, fun _ => 0, fun _ => 0, fun _ => 0, fun _ => 0, fun _ => 0, fun _ => 0]) cy z0) := hD
  refine W.widen (k := 44) (n := 12125) (Nat.le_of_ble_eq_true rfl) (Nat.le_of_ble_eq_true rfl) ?_
  exact W.vret hx hb hr (fun t ht hW => ⟨⟨_, rfl, ⟨adT [fun _ => h0, q9 1, fun _ => 0, fun _ => 0, fun _ => 0, fun _ => 0, fun _ => 0, fun _ => 0, fun _ => 0, fun _ => 0, q9 10, q9 11, q9 12, q9 13, q9 14, q9 15, q9 16, q9 17, q9 18, q9 19, q9 20, q9 21, q9 22, fun _ => 0, fun _ => 0, fun _ => 0, fun _ => 0, fun _ => 0, fun _ => 0, fun _ => 0, fun _ => 0, fun _ => 0, fun _ => 0, fun _ => 0, fun _ => 0, fun _ => 0, fun _ => 0, fun _ => 0, fun _ => 0, fun _ => 0, fun _ => 0, fun _ => 0, fun _ => 0, fun _ => 0, fun _ => 0, fun _ => 0, fun _ => 0, fun _ => 0, fun _ => 0, fun _ => 0, fun _ => 0, fun _ => 0, fun _ => 0, fun _ => 0, fun _ => 0, fun _ => 0, fun _ => 0], rfl, rfl⟩, by rw [ht]; exact hP9, hD9⟩, hS.F ht⟩) hS.2.2 dX0_init_15
set_option maxHeartbeats 4000000 in
set_option maxRecDepth 100000 in
theorem c_X4 (l : Launch) (D : va_G) (cy : Nat → ClassId) : Nk l yX4_init cX4_init 1 (rmK 2 41 342 40) 41 342 4 [] cy D (fun h w => ∃ q : Nat → Nat → Nat, q 4 0 = h ∧ w = wcV vv4 q cy z0) := by
  intro h0 sz
  refine Met.ofW (cc := cX4_init) (maxL := 1) (ret := none) (by decide +kernel) rfl ?_
  intro p e s m args below meth c s₁ B hml hv
  obtain ⟨rfl, hsz, hP, hKx⟩ := hv
  have hx := B.exec
  have hb := B.bytes
  have hr := B.returns
  have hts : ∀ w ∈ gt, w.before ([.ref h0] : List Value).toArray s = true := fun w hw => atoms_spec (ws := .code yX4_init cX4_init 1 none :: gt) B.pre w (List.mem_cons_of_mem _ hw)
  have hown : s.vm.findClass RX4 = some m.cls := findClass_of_methodNamed B.named
  have hlocks := B.notSynchronized
  have hin : meth.name = "<init>" := (name_of_methodNamed B.named B.method).1
  subst hsz
  have hD : va_D (va_A [(h0, .inr (4, df 4))] s.heap.size) [(h0, .inr (4, df 4))] := D_one (Or.inl ⟨0, _, rfl⟩)
  generalize hAe : va_A [(h0, .inr (4, df 4))] s.heap.size = A at hD ⊢
  have hA : ∀ q : Nat, s.heap.size ≤ q → A q := fun q h => by rw [← hAe]; exact Or.inr h
  have hS : va_S A s.heap s.heap [] := va_S.rf
  have hl := lv_entry ([.ref h0]) (n := 1) (Nat.le_of_ble_eq_true rfl)
  rw [lg_entry_eq]
  generalize (lg_sl ([.ref h0]) ++ List.replicate (1 - (lg_sl ([.ref h0])).length) Slot.unset).toArray = ls at hl ⊢
  have hl : lv_has ls 1 [(0, .ref h0)] := hl
  have hP : va_P D vwCl [(h0, .inr (4, [.null, .null, .int 0, .int 0, .int 0, .int 0, .int 0, .int 0, .int 0, .null, .null, .null, .null, .null, .null]))] s.heap := hP
  have hD : va_D A [(h0, .inr (4, [.null, .null, .int 0, .int 0, .int 0, .int 0, .int 0, .int 0, .int 0, .null, .null, .null, .null, .null, .null]))] := hD
  refine lv_aload_n hx hb dX4_init_0 rfl (lv_at hl 0 rfl) ?_
  refine W.objInit hx hb hown (hts (.methodLink RX4 3 objectInit) (gt_of 345 (by decide +kernel) rfl)) (hts (.instanceMethod objectInit) (gt_of 122 (by decide +kernel) rfl)) (hts _ (gt_of 123 (by decide +kernel) rfl)) rfl (by rw [hml]; exact hl.1) rfl dX4_init_1 (Nat.le_of_ble_eq_true rfl) (Nat.le_of_ble_eq_true rfl) ?_
  refine W.eq (g2 := F0 m 4 ls []) rfl ?_
  refine lv_aload_n hx hb dX4_init_4 rfl (lv_at hl 0 rfl) ?_
  refine n_new hx hb hown hts lkI_X4_9 hKx hP hD hS hA (Nat.le_of_ble_eq_true rfl) (Nat.le_of_ble_eq_true rfl) dX4_init_5 (fun b5 H hP hD hS => ?_)
  refine lv_dup hx hb dX4_init_8 rfl ?_
  refine n_callT (As := []) (rest := [.ref b5, .ref h0]) (n := 0) hx hb hml hown hts (c_X5 l D cy) (Or.inl (hKx.2.1 _ (by simp [nestI]))) ⟨gt_of 102 (by decide +kernel) rfl, gt_of 349 (by decide +kernel) rfl, gt_of 350 (by decide +kernel) rfl⟩ ⟨rfl, by decide +kernel, by decide +kernel, by decide +kernel⟩ rfl ⟨rfl, rfl, Nat.le_of_ble_eq_true rfl, Nat.le_of_ble_eq_true rfl⟩ hKx hP hD hS hA hl.1 (Nat.le_of_ble_eq_true rfl) dX4_init_9 ⟨Nat.le_of_ble_eq_true rfl, Nat.le_of_ble_eq_true rfl⟩ (fun w9 H locs hw hP1 hD1 hS1 => ?_)
  obtain ⟨q9, e9, rfl⟩ := hw
  subst e9
  have hP := hP1
  have hD := hD1
  have hS := hS1
  refine n_putT (v := .ref (q9 5 0)) (fs' := [.ref (q9 5 0), .null, .int 0, .int 0, .int 0, .int 0, .int 0, .int 0, .int 0, .null, .null, .null, .null, .null, .null]) hx hb hown hts hin lkJ_X4_12 hKx hP hD hS rfl rfl (Nat.le_of_ble_eq_true rfl) dX4_init_12 rfl (fun H locs hP hD hS => ?_)
  refine lv_aload_n hx hb dX4_init_15 rfl (lv_at hl 0 rfl) ?_
  refine n_new hx hb hown hts lkI_X4_18 hKx hP hD hS hA (Nat.le_of_ble_eq_true rfl) (Nat.le_of_ble_eq_true rfl) dX4_init_16 (fun b16 H hP hD hS => ?_)
  refine lv_dup hx hb dX4_init_19 rfl ?_
  refine n_callT (As := []) (rest := [.ref b16, .ref h0]) (n := 0) hx hb hml hown hts (c_X2 l D cy) (Or.inl (hKx.2.1 _ (by simp [nestI]))) ⟨gt_of 98 (by decide +kernel) rfl, gt_of 148 (by decide +kernel) rfl, gt_of 149 (by decide +kernel) rfl⟩ ⟨rfl, by decide +kernel, by decide +kernel, by decide +kernel⟩ rfl ⟨rfl, rfl, Nat.le_of_ble_eq_true rfl, Nat.le_of_ble_eq_true rfl⟩ hKx hP hD hS hA hl.1 (Nat.le_of_ble_eq_true rfl) dX4_init_20 ⟨Nat.le_of_ble_eq_true rfl, Nat.le_of_ble_eq_true rfl⟩ (fun w20 H locs hw hP1 hD1 hS1 => ?_)
  obtain ⟨q20, e20, rfl⟩ := hw
  subst e20
  have hP := hP1
  have hD := hD1
  have hS := hS1
  refine n_putT (v := .ref (q20 2 0)) (fs' := [.ref (q9 5 0), .ref (q20 2 0), .int 0, .int 0, .int 0, .int 0, .int 0, .int 0, .int 0, .null, .null, .null, .null, .null, .null]) hx hb hown hts hin lkJ_X4_21 hKx hP hD hS rfl rfl (Nat.le_of_ble_eq_true rfl) dX4_init_23 rfl (fun H locs hP hD hS => ?_)
  refine lv_aload_n hx hb dX4_init_26 rfl (lv_at hl 0 rfl) ?_
  refine lv_bipush (v := 6) hx hb dX4_init_27 (by decide) ?_
  refine n_newiT (N' := 6) hx hb hts hKx hP hD hS hA (by decide) (by decide) (by decide) (Nat.le_of_ble_eq_true rfl) (Nat.le_of_ble_eq_true rfl) dX4_init_29 (fun a29 H hP hD hS => ?_)
  refine n_putT (v := .ref a29) (fs' := [.ref (q9 5 0), .ref (q20 2 0), .int 0, .int 0, .int 0, .int 0, .int 0, .int 0, .int 0, .ref a29, .null, .null, .null, .null, .null]) hx hb hown hts hin lkJ_X4_25 hKx hP hD hS rfl rfl (Nat.le_of_ble_eq_true rfl) dX4_init_31 rfl (fun H locs hP hD hS => ?_)
  refine lv_aload_n hx hb dX4_init_34 rfl (lv_at hl 0 rfl) ?_
  refine lv_bipush (v := 6) hx hb dX4_init_35 (by decide) ?_
  refine n_newiT (N' := 6) hx hb hts hKx hP hD hS hA (by decide) (by decide) (by decide) (Nat.le_of_ble_eq_true rfl) (Nat.le_of_ble_eq_true rfl) dX4_init_37 (fun a37 H hP hD hS => ?_)
  refine n_putT (v := .ref a37) (fs' := [.ref (q9 5 0), .ref (q20 2 0), .int 0, .int 0, .int 0, .int 0, .int 0, .int 0, .int 0, .ref a29, .ref a37, .null, .null, .null, .null]) hx hb hown hts hin lkJ_X4_29 hKx hP hD hS rfl rfl (Nat.le_of_ble_eq_true rfl) dX4_init_39 rfl (fun H locs hP hD hS => ?_)
  refine lv_aload_n hx hb dX4_init_42 rfl (lv_at hl 0 rfl) ?_
  refine lv_bipush (v := 6) hx hb dX4_init_43 (by decide) ?_
  refine n_newiT (N' := 6) hx hb hts hKx hP hD hS hA (by decide) (by decide) (by decide) (Nat.le_of_ble_eq_true rfl) (Nat.le_of_ble_eq_true rfl) dX4_init_45 (fun a45 H hP hD hS => ?_)
  refine n_putT (v := .ref a45) (fs' := [.ref (q9 5 0), .ref (q20 2 0), .int 0, .int 0, .int 0, .int 0, .int 0, .int 0, .int 0, .ref a29, .ref a37, .ref a45, .null, .null, .null]) hx hb hown hts hin lkJ_X4_32 hKx hP hD hS rfl rfl (Nat.le_of_ble_eq_true rfl) dX4_init_47 rfl (fun H locs hP hD hS => ?_)
  refine lv_aload_n hx hb dX4_init_50 rfl (lv_at hl 0 rfl) ?_
  refine lv_bipush (v := 6) hx hb dX4_init_51 (by decide) ?_
  refine n_newiT (N' := 6) hx hb hts hKx hP hD hS hA (by decide) (by decide) (by decide) (Nat.le_of_ble_eq_true rfl) (Nat.le_of_ble_eq_true rfl) dX4_init_53 (fun a53 H hP hD hS => ?_)
  refine n_putT (v := .ref a53) (fs' := [.ref (q9 5 0), .ref (q20 2 0), .int 0, .int 0, .int 0, .int 0, .int 0, .int 0, .int 0, .ref a29, .ref a37, .ref a45, .ref a53, .null, .null]) hx hb hown hts hin lkJ_X4_35 hKx hP hD hS rfl rfl (Nat.le_of_ble_eq_true rfl) dX4_init_55 rfl (fun H locs hP hD hS => ?_)
  refine lv_aload_n hx hb dX4_init_58 rfl (lv_at hl 0 rfl) ?_
  refine lv_bipush (v := 6) hx hb dX4_init_59 (by decide) ?_
  refine n_newiT (N' := 6) hx hb hts hKx hP hD hS hA (by decide) (by decide) (by decide) (Nat.le_of_ble_eq_true rfl) (Nat.le_of_ble_eq_true rfl) dX4_init_61 (fun a61 H hP hD hS => ?_)
  refine n_putT (v := .ref a61) (fs' := [.ref (q9 5 0), .ref (q20 2 0), .int 0, .int 0, .int 0, .int 0, .int 0, .int 0, .int 0, .ref a29, .ref a37, .ref a45, .ref a53, .ref a61, .null]) hx hb hown hts hin lkJ_X4_38 hKx hP hD hS rfl rfl (Nat.le_of_ble_eq_true rfl) dX4_init_63 rfl (fun H locs hP hD hS => ?_)
  refine lv_aload_n hx hb dX4_init_66 rfl (lv_at hl 0 rfl) ?_
  refine lv_bipush (v := 6) hx hb dX4_init_67 (by decide) ?_
  refine n_newiT (N' := 6) hx hb hts hKx hP hD hS hA (by decide) (by decide) (by decide) (Nat.le_of_ble_eq_true rfl) (Nat.le_of_ble_eq_true rfl) dX4_init_69 (fun a69 H hP hD hS => ?_)
  refine n_putT (v := .ref a69) (fs' := [.ref (q9 5 0), .ref (q20 2 0), .int 0, .int 0, .int 0, .int 0, .int 0, .int 0, .int 0, .ref a29, .ref a37, .ref a45, .ref a53, .ref a61, .ref a69]) hx hb hown hts hin lkJ_X4_41 hKx hP hD hS rfl rfl (Nat.le_of_ble_eq_true rfl) dX4_init_71 rfl (fun H locs hP hD hS => ?_)
  have hP9 : va_P D vwCl (wcV vv4 (adT [fun _ => 0, fun _ => 0, q20 2, fun _ => 0, fun _ => h0, q9 5, fun _ => 0, fun _ => 0, fun _ => 0, fun _ => 0, fun _ => 0, fun _ => 0, fun _ => 0, fun _ => 0, fun _ => 0, fun _ => 0, fun _ => 0, fun _ => 0, fun _ => 0, fun _ => 0, fun _ => 0, fun _ => 0, fun _ => 0, q20 23, q20 24, q20 25, q20 26, q20 27, q20 28, q20 29, q20 30, fun _ => a29, fun _ => a37, fun _ => a45, fun _ => a53, fun _ => a61, fun _ => a69, q9 37, q9 38, q9 39, q9 40, q9 41, fun _ => 0, fun _ => 0, fun _ => 0, fun _ => 0, fun _ => 0, fun _ => 0, fun _ => 0, fun _ => 0, fun _ => 0, fun _ => 0, fun _ => 0, fun _ => 0, fun _ => 0, fun _ => 0, fun _ => 0]) cy z0) H := hP
  have hD9 : va_D A (wcV vv4 (adT [fun _ => 0, fun _ => 0, q20 2, fun _ => 0, fun _ => h0, q9 5, fun _ => 0, fun _ => 0, fun _ => 0, fun _ => 0, fun _ => 0, fun _ => 0, fun _ => 0, fun _ => 0, fun _ => 0, fun _ => 0, fun _ => 0, fun _ => 0, fun _ => 0, fun _ => 0, fun _ => 0, fun _ => 0, fun _ => 0, q20 23, q20 24, q20 25, q20 26, q20 27, q20 28, q20 29, q20 30, fun _ => a29, fun _ => a37, fun _ => a45, fun _ => a53, fun _ => a61, fun _ => a69, q9 37, q9 38, q9 39, q9 40, q9 41, fun _ => 0, fun _ => 0, fun _ => 0, fun _ => 0, fun _ => 0, fun _ => 0, fun _ => 0, fun _ => 0, fun _ => 0, fun _ => 0, fun _ => 0, fun _ => 0, fun _ => 0, fun _ => 0, fun _ => 0]) cy z0) := hD
  refine W.widen (k := 41) (n := 342) (Nat.le_of_ble_eq_true rfl) (Nat.le_of_ble_eq_true rfl) ?_
  exact W.vret hx hb hr (fun t ht hW => ⟨⟨_, rfl, ⟨adT [fun _ => 0, fun _ => 0, q20 2, fun _ => 0, fun _ => h0, q9 5, fun _ => 0, fun _ => 0, fun _ => 0, fun _ => 0, fun _ => 0, fun _ => 0, fun _ => 0, fun _ => 0, fun _ => 0, fun _ => 0, fun _ => 0, fun _ => 0, fun _ => 0, fun _ => 0, fun _ => 0, fun _ => 0, fun _ => 0, q20 23, q20 24, q20 25, q20 26, q20 27, q20 28, q20 29, q20 30, fun _ => a29, fun _ => a37, fun _ => a45, fun _ => a53, fun _ => a61, fun _ => a69, q9 37, q9 38, q9 39, q9 40, q9 41, fun _ => 0, fun _ => 0, fun _ => 0, fun _ => 0, fun _ => 0, fun _ => 0, fun _ => 0, fun _ => 0, fun _ => 0, fun _ => 0, fun _ => 0, fun _ => 0, fun _ => 0, fun _ => 0, fun _ => 0], rfl, rfl⟩, by rw [ht]; exact hP9, hD9⟩, hS.F ht⟩) hS.2.2 dX4_init_74
set_option maxHeartbeats 4000000 in
set_option maxRecDepth 100000 in
theorem c_X7 (l : Launch) (D : va_G) (cy : Nat → ClassId) : Nk l yX7_init cX7_init 1 (rmK 3 201 14152 61) 201 14152 7 [] cy D (Ph7 cy) := by
  intro h0 sz
  refine Met.ofW (cc := cX7_init) (maxL := 1) (ret := none) (by decide +kernel) rfl ?_
  intro p e s m args below meth c s₁ B hml hv
  obtain ⟨rfl, hsz, hP, hKx⟩ := hv
  have hx := B.exec
  have hb := B.bytes
  have hr := B.returns
  have hts : ∀ w ∈ gt, w.before ([.ref h0] : List Value).toArray s = true := fun w hw => atoms_spec (ws := .code yX7_init cX7_init 1 none :: gt) B.pre w (List.mem_cons_of_mem _ hw)
  have hown : s.vm.findClass RX7 = some m.cls := findClass_of_methodNamed B.named
  have hlocks := B.notSynchronized
  have hin : meth.name = "<init>" := (name_of_methodNamed B.named B.method).1
  subst hsz
  have hD : va_D (va_A [(h0, .inr (7, df 7))] s.heap.size) [(h0, .inr (7, df 7))] := D_one (Or.inl ⟨0, _, rfl⟩)
  generalize hAe : va_A [(h0, .inr (7, df 7))] s.heap.size = A at hD ⊢
  have hA : ∀ q : Nat, s.heap.size ≤ q → A q := fun q h => by rw [← hAe]; exact Or.inr h
  have hS : va_S A s.heap s.heap [] := va_S.rf
  have hl := lv_entry ([.ref h0]) (n := 1) (Nat.le_of_ble_eq_true rfl)
  rw [lg_entry_eq]
  generalize (lg_sl ([.ref h0]) ++ List.replicate (1 - (lg_sl ([.ref h0])).length) Slot.unset).toArray = ls at hl ⊢
  have hl : lv_has ls 1 [(0, .ref h0)] := hl
  have hP : va_P D vwCl [(h0, .inr (7, [.null, .null, .null, .null, .null, .null, .null, .null, .int 0, .int 0, .int 0, .int 0, .int 0]))] s.heap := hP
  have hD : va_D A [(h0, .inr (7, [.null, .null, .null, .null, .null, .null, .null, .null, .int 0, .int 0, .int 0, .int 0, .int 0]))] := hD
  refine lv_aload_n hx hb dX7_init_0 rfl (lv_at hl 0 rfl) ?_
  refine W.objInit hx hb hown (hts (.methodLink RX7 1 objectInit) (gt_of 121 (by decide +kernel) rfl)) (hts (.instanceMethod objectInit) (gt_of 122 (by decide +kernel) rfl)) (hts _ (gt_of 123 (by decide +kernel) rfl)) rfl (by rw [hml]; exact hl.1) rfl dX7_init_1 (Nat.le_of_ble_eq_true rfl) (Nat.le_of_ble_eq_true rfl) ?_
  refine W.eq (g2 := F0 m 4 ls []) rfl ?_
  refine lv_aload_n hx hb dX7_init_4 rfl (lv_at hl 0 rfl) ?_
  refine n_new hx hb hown hts lkI_X7_7 hKx hP hD hS hA (Nat.le_of_ble_eq_true rfl) (Nat.le_of_ble_eq_true rfl) dX7_init_5 (fun b5 H hP hD hS => ?_)
  refine lv_dup hx hb dX7_init_8 rfl ?_
  refine n_callT (As := []) (rest := [.ref b5, .ref h0]) (n := 0) hx hb hml hown hts (c_X6 l D cy) (Or.inl (hKx.2.1 _ (by simp [nestI]))) ⟨gt_of 96 (by decide +kernel) rfl, gt_of 127 (by decide +kernel) rfl, gt_of 128 (by decide +kernel) rfl⟩ ⟨rfl, by decide +kernel, by decide +kernel, by decide +kernel⟩ rfl ⟨rfl, rfl, Nat.le_of_ble_eq_true rfl, Nat.le_of_ble_eq_true rfl⟩ hKx hP hD hS hA hl.1 (Nat.le_of_ble_eq_true rfl) dX7_init_9 ⟨Nat.le_of_ble_eq_true rfl, Nat.le_of_ble_eq_true rfl⟩ (fun w9 H locs hw hP1 hD1 hS1 => ?_)
  obtain ⟨q9, e9, rfl⟩ := hw
  subst e9
  have hP := hP1
  have hD := hD1
  have hS := hS1
  refine n_putT (v := .ref (q9 6 0)) (fs' := [.ref (q9 6 0), .null, .null, .null, .null, .null, .null, .null, .int 0, .int 0, .int 0, .int 0, .int 0]) hx hb hown hts hin lkJ_X7_10 hKx hP hD hS rfl rfl (Nat.le_of_ble_eq_true rfl) dX7_init_12 rfl (fun H locs hP hD hS => ?_)
  refine lv_aload_n hx hb dX7_init_15 rfl (lv_at hl 0 rfl) ?_
  refine n_new hx hb hown hts lkI_X7_16 hKx hP hD hS hA (Nat.le_of_ble_eq_true rfl) (Nat.le_of_ble_eq_true rfl) dX7_init_16 (fun b16 H hP hD hS => ?_)
  refine lv_dup hx hb dX7_init_19 rfl ?_
  refine lv_aload_n hx hb dX7_init_20 rfl (lv_at hl 0 rfl) ?_
  refine va_get (D := D) (ci := 7) (v := .ref (q9 6 0)) (C := RX7) (T := TX7) (N := 13) hx hb hts uw7 hown hKx.1 hP 0 rfl rfl 0 (by decide) (hts (.fieldLink RX7 10 RX7 "tape" "LOpenLines$Tape;") (gt_of 433 (by decide +kernel) rfl)) (fun _ h9 => h9) rfl dX7_init_21 ?_
  refine n_callT (As := [.ref (q9 6 0)]) (rest := [.ref b16, .ref h0]) (n := 1) hx hb hml hown hts (c_X3 l D cy (q9 6 0)) (Or.inr (gt_of 141 (by decide +kernel) rfl)) ⟨gt_of 97 (by decide +kernel) rfl, gt_of 142 (by decide +kernel) rfl, gt_of 143 (by decide +kernel) rfl⟩ ⟨rfl, by decide +kernel, by decide +kernel, by decide +kernel⟩ rfl ⟨rfl, rfl, Nat.le_of_ble_eq_true rfl, Nat.le_of_ble_eq_true rfl⟩ hKx hP hD hS hA hl.1 (Nat.le_of_ble_eq_true rfl) dX7_init_24 ⟨Nat.le_of_ble_eq_true rfl, Nat.le_of_ble_eq_true rfl⟩ (fun w24 H locs hw hP1 hD1 hS1 => ?_)
  obtain ⟨q24, e24, f24, rfl⟩ := hw
  subst e24
  have hP := hP1
  have hD := hD1
  have hS := hS1
  refine n_putT (v := .ref (q24 3 0)) (fs' := [.ref (q9 6 0), .ref (q24 3 0), .null, .null, .null, .null, .null, .null, .int 0, .int 0, .int 0, .int 0, .int 0]) hx hb hown hts hin lkJ_X7_21 hKx hP hD hS rfl rfl (Nat.le_of_ble_eq_true rfl) dX7_init_27 rfl (fun H locs hP hD hS => ?_)
  refine lv_aload_n hx hb dX7_init_30 rfl (lv_at hl 0 rfl) ?_
  refine n_new hx hb hown hts lkI_X7_25 hKx hP hD hS hA (Nat.le_of_ble_eq_true rfl) (Nat.le_of_ble_eq_true rfl) dX7_init_31 (fun b31 H hP hD hS => ?_)
  refine lv_dup hx hb dX7_init_34 rfl ?_
  refine n_callT (As := []) (rest := [.ref b31, .ref h0]) (n := 0) hx hb hml hown hts (c_X0 l D cy) (Or.inl (hKx.2.1 _ (by simp [nestI]))) ⟨gt_of 99 (by decide +kernel) rfl, gt_of 250 (by decide +kernel) rfl, gt_of 251 (by decide +kernel) rfl⟩ ⟨rfl, by decide +kernel, by decide +kernel, by decide +kernel⟩ rfl ⟨rfl, rfl, Nat.le_of_ble_eq_true rfl, Nat.le_of_ble_eq_true rfl⟩ hKx hP hD hS hA hl.1 (Nat.le_of_ble_eq_true rfl) dX7_init_35 ⟨Nat.le_of_ble_eq_true rfl, Nat.le_of_ble_eq_true rfl⟩ (fun w35 H locs hw hP1 hD1 hS1 => ?_)
  obtain ⟨q35, e35, rfl⟩ := hw
  subst e35
  have hP := hP1
  have hD := hD1
  have hS := hS1
  refine n_putT (v := .ref (q35 0 0)) (fs' := [.ref (q9 6 0), .ref (q24 3 0), .ref (q35 0 0), .null, .null, .null, .null, .null, .int 0, .int 0, .int 0, .int 0, .int 0]) hx hb hown hts hin lkJ_X7_28 hKx hP hD hS rfl rfl (Nat.le_of_ble_eq_true rfl) dX7_init_38 rfl (fun H locs hP hD hS => ?_)
  refine lv_aload_n hx hb dX7_init_41 rfl (lv_at hl 0 rfl) ?_
  refine n_new hx hb hown hts lkI_X7_32 hKx hP hD hS hA (Nat.le_of_ble_eq_true rfl) (Nat.le_of_ble_eq_true rfl) dX7_init_42 (fun b42 H hP hD hS => ?_)
  refine lv_dup hx hb dX7_init_45 rfl ?_
  refine n_callT (As := []) (rest := [.ref b42, .ref h0]) (n := 0) hx hb hml hown hts (c_X4 l D cy) (Or.inl (hKx.2.1 _ (by simp [nestI]))) ⟨gt_of 101 (by decide +kernel) rfl, gt_of 343 (by decide +kernel) rfl, gt_of 344 (by decide +kernel) rfl⟩ ⟨rfl, by decide +kernel, by decide +kernel, by decide +kernel⟩ rfl ⟨rfl, rfl, Nat.le_of_ble_eq_true rfl, Nat.le_of_ble_eq_true rfl⟩ hKx hP hD hS hA hl.1 (Nat.le_of_ble_eq_true rfl) dX7_init_46 ⟨Nat.le_of_ble_eq_true rfl, Nat.le_of_ble_eq_true rfl⟩ (fun w46 H locs hw hP1 hD1 hS1 => ?_)
  obtain ⟨q46, e46, rfl⟩ := hw
  subst e46
  have hP := hP1
  have hD := hD1
  have hS := hS1
  refine n_putT (v := .ref (q46 4 0)) (fs' := [.ref (q9 6 0), .ref (q24 3 0), .ref (q35 0 0), .ref (q46 4 0), .null, .null, .null, .null, .int 0, .int 0, .int 0, .int 0, .int 0]) hx hb hown hts hin lkJ_X7_35 hKx hP hD hS rfl rfl (Nat.le_of_ble_eq_true rfl) dX7_init_49 rfl (fun H locs hP hD hS => ?_)
  refine lv_aload_n hx hb dX7_init_52 rfl (lv_at hl 0 rfl) ?_
  refine n_new hx hb hown hts lkI_X7_32 hKx hP hD hS hA (Nat.le_of_ble_eq_true rfl) (Nat.le_of_ble_eq_true rfl) dX7_init_53 (fun b53 H hP hD hS => ?_)
  refine lv_dup hx hb dX7_init_56 rfl ?_
  refine n_callT (As := []) (rest := [.ref b53, .ref h0]) (n := 0) hx hb hml hown hts (c_X4 l D cy) (Or.inl (hKx.2.1 _ (by simp [nestI]))) ⟨gt_of 101 (by decide +kernel) rfl, gt_of 343 (by decide +kernel) rfl, gt_of 344 (by decide +kernel) rfl⟩ ⟨rfl, by decide +kernel, by decide +kernel, by decide +kernel⟩ rfl ⟨rfl, rfl, Nat.le_of_ble_eq_true rfl, Nat.le_of_ble_eq_true rfl⟩ hKx hP hD hS hA hl.1 (Nat.le_of_ble_eq_true rfl) dX7_init_57 ⟨Nat.le_of_ble_eq_true rfl, Nat.le_of_ble_eq_true rfl⟩ (fun w57 H locs hw hP1 hD1 hS1 => ?_)
  obtain ⟨q57, e57, rfl⟩ := hw
  subst e57
  have hP := hP1
  have hD := hD1
  have hS := hS1
  refine n_putT (v := .ref (q57 4 0)) (fs' := [.ref (q9 6 0), .ref (q24 3 0), .ref (q35 0 0), .ref (q46 4 0), .ref (q57 4 0), .null, .null, .null, .int 0, .int 0, .int 0, .int 0, .int 0]) hx hb hown hts hin lkJ_X7_39 hKx hP hD hS rfl rfl (Nat.le_of_ble_eq_true rfl) dX7_init_60 rfl (fun H locs hP hD hS => ?_)
  refine lv_aload_n hx hb dX7_init_63 rfl (lv_at hl 0 rfl) ?_
  refine n_new hx hb hown hts lkI_X7_32 hKx hP hD hS hA (Nat.le_of_ble_eq_true rfl) (Nat.le_of_ble_eq_true rfl) dX7_init_64 (fun b64 H hP hD hS => ?_)
  refine lv_dup hx hb dX7_init_67 rfl ?_
  refine n_callT (As := []) (rest := [.ref b64, .ref h0]) (n := 0) hx hb hml hown hts (c_X4 l D cy) (Or.inl (hKx.2.1 _ (by simp [nestI]))) ⟨gt_of 101 (by decide +kernel) rfl, gt_of 343 (by decide +kernel) rfl, gt_of 344 (by decide +kernel) rfl⟩ ⟨rfl, by decide +kernel, by decide +kernel, by decide +kernel⟩ rfl ⟨rfl, rfl, Nat.le_of_ble_eq_true rfl, Nat.le_of_ble_eq_true rfl⟩ hKx hP hD hS hA hl.1 (Nat.le_of_ble_eq_true rfl) dX7_init_68 ⟨Nat.le_of_ble_eq_true rfl, Nat.le_of_ble_eq_true rfl⟩ (fun w68 H locs hw hP1 hD1 hS1 => ?_)
  obtain ⟨q68, e68, rfl⟩ := hw
  subst e68
  have hP := hP1
  have hD := hD1
  have hS := hS1
  refine n_putT (v := .ref (q68 4 0)) (fs' := [.ref (q9 6 0), .ref (q24 3 0), .ref (q35 0 0), .ref (q46 4 0), .ref (q57 4 0), .ref (q68 4 0), .null, .null, .int 0, .int 0, .int 0, .int 0, .int 0]) hx hb hown hts hin lkJ_X7_42 hKx hP hD hS rfl rfl (Nat.le_of_ble_eq_true rfl) dX7_init_71 rfl (fun H locs hP hD hS => ?_)
  refine lv_aload_n hx hb dX7_init_74 rfl (lv_at hl 0 rfl) ?_
  refine n_new hx hb hown hts lkI_X7_45 hKx hP hD hS hA (Nat.le_of_ble_eq_true rfl) (Nat.le_of_ble_eq_true rfl) dX7_init_75 (fun b75 H hP hD hS => ?_)
  refine lv_dup hx hb dX7_init_78 rfl ?_
  refine n_callT (As := []) (rest := [.ref b75, .ref h0]) (n := 0) hx hb hml hown hts (c_X2 l D cy) (Or.inl (hKx.2.1 _ (by simp [nestI]))) ⟨gt_of 98 (by decide +kernel) rfl, gt_of 148 (by decide +kernel) rfl, gt_of 149 (by decide +kernel) rfl⟩ ⟨rfl, by decide +kernel, by decide +kernel, by decide +kernel⟩ rfl ⟨rfl, rfl, Nat.le_of_ble_eq_true rfl, Nat.le_of_ble_eq_true rfl⟩ hKx hP hD hS hA hl.1 (Nat.le_of_ble_eq_true rfl) dX7_init_79 ⟨Nat.le_of_ble_eq_true rfl, Nat.le_of_ble_eq_true rfl⟩ (fun w79 H locs hw hP1 hD1 hS1 => ?_)
  obtain ⟨q79, e79, rfl⟩ := hw
  subst e79
  have hP := hP1
  have hD := hD1
  have hS := hS1
  refine n_putT (v := .ref (q79 2 0)) (fs' := [.ref (q9 6 0), .ref (q24 3 0), .ref (q35 0 0), .ref (q46 4 0), .ref (q57 4 0), .ref (q68 4 0), .ref (q79 2 0), .null, .int 0, .int 0, .int 0, .int 0, .int 0]) hx hb hown hts hin lkJ_X7_48 hKx hP hD hS rfl rfl (Nat.le_of_ble_eq_true rfl) dX7_init_82 rfl (fun H locs hP hD hS => ?_)
  refine lv_aload_n hx hb dX7_init_85 rfl (lv_at hl 0 rfl) ?_
  refine n_new hx hb hown hts lkI_X7_45 hKx hP hD hS hA (Nat.le_of_ble_eq_true rfl) (Nat.le_of_ble_eq_true rfl) dX7_init_86 (fun b86 H hP hD hS => ?_)
  refine lv_dup hx hb dX7_init_89 rfl ?_
  refine n_callT (As := []) (rest := [.ref b86, .ref h0]) (n := 0) hx hb hml hown hts (c_X2 l D cy) (Or.inl (hKx.2.1 _ (by simp [nestI]))) ⟨gt_of 98 (by decide +kernel) rfl, gt_of 148 (by decide +kernel) rfl, gt_of 149 (by decide +kernel) rfl⟩ ⟨rfl, by decide +kernel, by decide +kernel, by decide +kernel⟩ rfl ⟨rfl, rfl, Nat.le_of_ble_eq_true rfl, Nat.le_of_ble_eq_true rfl⟩ hKx hP hD hS hA hl.1 (Nat.le_of_ble_eq_true rfl) dX7_init_90 ⟨Nat.le_of_ble_eq_true rfl, Nat.le_of_ble_eq_true rfl⟩ (fun w90 H locs hw hP1 hD1 hS1 => ?_)
  obtain ⟨q90, e90, rfl⟩ := hw
  subst e90
  have hP := hP1
  have hD := hD1
  have hS := hS1
  refine n_putT (v := .ref (q90 2 0)) (fs' := [.ref (q9 6 0), .ref (q24 3 0), .ref (q35 0 0), .ref (q46 4 0), .ref (q57 4 0), .ref (q68 4 0), .ref (q79 2 0), .ref (q90 2 0), .int 0, .int 0, .int 0, .int 0, .int 0]) hx hb hown hts hin lkJ_X7_52 hKx hP hD hS rfl rfl (Nat.le_of_ble_eq_true rfl) dX7_init_93 rfl (fun H locs hP hD hS => ?_)
  refine W.widen (k := 201) (n := 14152) (Nat.le_of_ble_eq_true rfl) (Nat.le_of_ble_eq_true rfl) ?_
  exact W.vret hx hb hr (fun t ht hW => ⟨⟨_, rfl, ⟨q9, q24, q35, q46, q57, q68, q79, q90, f24, rfl⟩, by rw [ht]; exact hP, hD⟩, hS.F ht⟩) hS.2.2 dX7_init_96
set_option maxHeartbeats 4000000 in
set_option maxRecDepth 100000 in
theorem c_X8 (l : Launch) (D : va_G) (cy : Nat → ClassId) : Nk l yX8_init cX8_init 1 (rmK 1 13 13973 20) 13 13973 8 [] cy D (fun h w => ∃ q : Nat → Nat → Nat, q 8 0 = h ∧ w = wcV vv8 q cy st0) := by
  intro h0 sz
  refine Met.ofW (cc := cX8_init) (maxL := 1) (ret := none) (by decide +kernel) rfl ?_
  intro p e s m args below meth c s₁ B hml hv
  obtain ⟨rfl, hsz, hP, hKx⟩ := hv
  have hx := B.exec
  have hb := B.bytes
  have hr := B.returns
  have hts : ∀ w ∈ gt, w.before ([.ref h0] : List Value).toArray s = true := fun w hw => atoms_spec (ws := .code yX8_init cX8_init 1 none :: gt) B.pre w (List.mem_cons_of_mem _ hw)
  have hown : s.vm.findClass RX8 = some m.cls := findClass_of_methodNamed B.named
  have hlocks := B.notSynchronized
  have hin : meth.name = "<init>" := (name_of_methodNamed B.named B.method).1
  subst hsz
  have hD : va_D (va_A [(h0, .inr (8, df 8))] s.heap.size) [(h0, .inr (8, df 8))] := D_one (Or.inl ⟨0, _, rfl⟩)
  generalize hAe : va_A [(h0, .inr (8, df 8))] s.heap.size = A at hD ⊢
  have hA : ∀ q : Nat, s.heap.size ≤ q → A q := fun q h => by rw [← hAe]; exact Or.inr h
  have hS : va_S A s.heap s.heap [] := va_S.rf
  have hl := lv_entry ([.ref h0]) (n := 1) (Nat.le_of_ble_eq_true rfl)
  rw [lg_entry_eq]
  generalize (lg_sl ([.ref h0]) ++ List.replicate (1 - (lg_sl ([.ref h0])).length) Slot.unset).toArray = ls at hl ⊢
  have hl : lv_has ls 1 [(0, .ref h0)] := hl
  have hP : va_P D vwCl [(h0, .inr (8, [.int 0, .int 0, .int 0, .int 0, .null, .int 0, .null, .null, .null, .int 0, .int 0, .int 0, .int 0, .int 0, .int 0, .int 0, .int 0, .int 0, .null, .null, .null, .int 0, .null, .int 0, .null, .null, .null, .null, .null, .int 0, .int 0, .int 0, .int 0]))] s.heap := hP
  have hD : va_D A [(h0, .inr (8, [.int 0, .int 0, .int 0, .int 0, .null, .int 0, .null, .null, .null, .int 0, .int 0, .int 0, .int 0, .int 0, .int 0, .int 0, .int 0, .int 0, .null, .null, .null, .int 0, .null, .int 0, .null, .null, .null, .null, .null, .int 0, .int 0, .int 0, .int 0]))] := hD
  refine lv_aload_n hx hb dX8_init_0 rfl (lv_at hl 0 rfl) ?_
  refine W.objInit hx hb hown (hts (.methodLink RX8 3 objectInit) (gt_of 1267 (by decide +kernel) rfl)) (hts (.instanceMethod objectInit) (gt_of 122 (by decide +kernel) rfl)) (hts _ (gt_of 123 (by decide +kernel) rfl)) rfl (by rw [hml]; exact hl.1) rfl dX8_init_1 (Nat.le_of_ble_eq_true rfl) (Nat.le_of_ble_eq_true rfl) ?_
  refine W.eq (g2 := F0 m 4 ls []) rfl ?_
  refine lv_aload_n hx hb dX8_init_4 rfl (lv_at hl 0 rfl) ?_
  refine lv_iconst (v := -1) hx hb dX8_init_5 (by decide) ?_
  refine n_putT (v := .int (-1)) (fs' := [.int 0, .int 0, .int 0, .int (-1), .null, .int 0, .null, .null, .null, .int 0, .int 0, .int 0, .int 0, .int 0, .int 0, .int 0, .int 0, .int 0, .null, .null, .null, .int 0, .null, .int 0, .null, .null, .null, .null, .null, .int 0, .int 0, .int 0, .int 0]) hx hb hown hts hin lkJ_X8_9 hKx hP hD hS rfl rfl (Nat.le_of_ble_eq_true rfl) dX8_init_6 rfl (fun H locs hP hD hS => ?_)
  refine lv_aload_n hx hb dX8_init_9 rfl (lv_at hl 0 rfl) ?_
  refine lv_sipush (v := 700) hx hb dX8_init_10 (by decide) ?_
  refine n_newiT (N' := 700) hx hb hts hKx hP hD hS hA (by decide) (by decide) (by decide) (Nat.le_of_ble_eq_true rfl) (Nat.le_of_ble_eq_true rfl) dX8_init_13 (fun a13 H hP hD hS => ?_)
  refine n_putT (v := .ref a13) (fs' := [.int 0, .int 0, .int 0, .int (-1), .ref a13, .int 0, .null, .null, .null, .int 0, .int 0, .int 0, .int 0, .int 0, .int 0, .int 0, .int 0, .int 0, .null, .null, .null, .int 0, .null, .int 0, .null, .null, .null, .null, .null, .int 0, .int 0, .int 0, .int 0]) hx hb hown hts hin lkJ_X8_13 hKx hP hD hS rfl rfl (Nat.le_of_ble_eq_true rfl) dX8_init_15 rfl (fun H locs hP hD hS => ?_)
  refine lv_aload_n hx hb dX8_init_18 rfl (lv_at hl 0 rfl) ?_
  refine lv_bipush (v := 59) hx hb dX8_init_19 (by decide) ?_
  refine n_newiT (N' := 59) hx hb hts hKx hP hD hS hA (by decide) (by decide) (by decide) (Nat.le_of_ble_eq_true rfl) (Nat.le_of_ble_eq_true rfl) dX8_init_21 (fun a21 H hP hD hS => ?_)
  refine n_putT (v := .ref a21) (fs' := [.int 0, .int 0, .int 0, .int (-1), .ref a13, .int 0, .ref a21, .null, .null, .int 0, .int 0, .int 0, .int 0, .int 0, .int 0, .int 0, .int 0, .int 0, .null, .null, .null, .int 0, .null, .int 0, .null, .null, .null, .null, .null, .int 0, .int 0, .int 0, .int 0]) hx hb hown hts hin lkJ_X8_17 hKx hP hD hS rfl rfl (Nat.le_of_ble_eq_true rfl) dX8_init_23 rfl (fun H locs hP hD hS => ?_)
  refine lv_aload_n hx hb dX8_init_26 rfl (lv_at hl 0 rfl) ?_
  refine lv_bipush (v := 59) hx hb dX8_init_27 (by decide) ?_
  refine n_newiT (N' := 59) hx hb hts hKx hP hD hS hA (by decide) (by decide) (by decide) (Nat.le_of_ble_eq_true rfl) (Nat.le_of_ble_eq_true rfl) dX8_init_29 (fun a29 H hP hD hS => ?_)
  refine n_putT (v := .ref a29) (fs' := [.int 0, .int 0, .int 0, .int (-1), .ref a13, .int 0, .ref a21, .ref a29, .null, .int 0, .int 0, .int 0, .int 0, .int 0, .int 0, .int 0, .int 0, .int 0, .null, .null, .null, .int 0, .null, .int 0, .null, .null, .null, .null, .null, .int 0, .int 0, .int 0, .int 0]) hx hb hown hts hin lkJ_X8_20 hKx hP hD hS rfl rfl (Nat.le_of_ble_eq_true rfl) dX8_init_31 rfl (fun H locs hP hD hS => ?_)
  refine lv_aload_n hx hb dX8_init_34 rfl (lv_at hl 0 rfl) ?_
  refine lv_bipush (v := 6) hx hb dX8_init_35 (by decide) ?_
  refine n_newlT (N' := 6) hx hb hts hKx hP hD hS hA (by decide) (by decide) (by decide) (Nat.le_of_ble_eq_true rfl) (Nat.le_of_ble_eq_true rfl) dX8_init_37 (fun a37 H hP hD hS => ?_)
  refine n_putT (v := .ref a37) (fs' := [.int 0, .int 0, .int 0, .int (-1), .ref a13, .int 0, .ref a21, .ref a29, .ref a37, .int 0, .int 0, .int 0, .int 0, .int 0, .int 0, .int 0, .int 0, .int 0, .null, .null, .null, .int 0, .null, .int 0, .null, .null, .null, .null, .null, .int 0, .int 0, .int 0, .int 0]) hx hb hown hts hin lkJ_X8_23 hKx hP hD hS rfl rfl (Nat.le_of_ble_eq_true rfl) dX8_init_39 rfl (fun H locs hP hD hS => ?_)
  refine lv_aload_n hx hb dX8_init_42 rfl (lv_at hl 0 rfl) ?_
  refine lv_sipush (v := 251) hx hb dX8_init_43 (by decide) ?_
  refine n_newiT (N' := 251) hx hb hts hKx hP hD hS hA (by decide) (by decide) (by decide) (Nat.le_of_ble_eq_true rfl) (Nat.le_of_ble_eq_true rfl) dX8_init_46 (fun a46 H hP hD hS => ?_)
  refine n_putT (v := .ref a46) (fs' := [.int 0, .int 0, .int 0, .int (-1), .ref a13, .int 0, .ref a21, .ref a29, .ref a37, .int 0, .int 0, .int 0, .int 0, .int 0, .int 0, .int 0, .int 0, .int 0, .ref a46, .null, .null, .int 0, .null, .int 0, .null, .null, .null, .null, .null, .int 0, .int 0, .int 0, .int 0]) hx hb hown hts hin lkJ_X8_27 hKx hP hD hS rfl rfl (Nat.le_of_ble_eq_true rfl) dX8_init_48 rfl (fun H locs hP hD hS => ?_)
  refine lv_aload_n hx hb dX8_init_51 rfl (lv_at hl 0 rfl) ?_
  refine lv_sipush (v := 251) hx hb dX8_init_52 (by decide) ?_
  refine n_newiT (N' := 251) hx hb hts hKx hP hD hS hA (by decide) (by decide) (by decide) (Nat.le_of_ble_eq_true rfl) (Nat.le_of_ble_eq_true rfl) dX8_init_55 (fun a55 H hP hD hS => ?_)
  refine n_putT (v := .ref a55) (fs' := [.int 0, .int 0, .int 0, .int (-1), .ref a13, .int 0, .ref a21, .ref a29, .ref a37, .int 0, .int 0, .int 0, .int 0, .int 0, .int 0, .int 0, .int 0, .int 0, .ref a46, .ref a55, .null, .int 0, .null, .int 0, .null, .null, .null, .null, .null, .int 0, .int 0, .int 0, .int 0]) hx hb hown hts hin lkJ_X8_30 hKx hP hD hS rfl rfl (Nat.le_of_ble_eq_true rfl) dX8_init_57 rfl (fun H locs hP hD hS => ?_)
  refine lv_aload_n hx hb dX8_init_60 rfl (lv_at hl 0 rfl) ?_
  refine lv_sipush (v := 251) hx hb dX8_init_61 (by decide) ?_
  refine n_newiT (N' := 251) hx hb hts hKx hP hD hS hA (by decide) (by decide) (by decide) (Nat.le_of_ble_eq_true rfl) (Nat.le_of_ble_eq_true rfl) dX8_init_64 (fun a64 H hP hD hS => ?_)
  refine n_putT (v := .ref a64) (fs' := [.int 0, .int 0, .int 0, .int (-1), .ref a13, .int 0, .ref a21, .ref a29, .ref a37, .int 0, .int 0, .int 0, .int 0, .int 0, .int 0, .int 0, .int 0, .int 0, .ref a46, .ref a55, .ref a64, .int 0, .null, .int 0, .null, .null, .null, .null, .null, .int 0, .int 0, .int 0, .int 0]) hx hb hown hts hin lkJ_X8_33 hKx hP hD hS rfl rfl (Nat.le_of_ble_eq_true rfl) dX8_init_66 rfl (fun H locs hP hD hS => ?_)
  refine lv_aload_n hx hb dX8_init_69 rfl (lv_at hl 0 rfl) ?_
  refine lv_bipush (v := 6) hx hb dX8_init_70 (by decide) ?_
  refine n_newiT (N' := 6) hx hb hts hKx hP hD hS hA (by decide) (by decide) (by decide) (Nat.le_of_ble_eq_true rfl) (Nat.le_of_ble_eq_true rfl) dX8_init_72 (fun a72 H hP hD hS => ?_)
  refine n_putT (v := .ref a72) (fs' := [.int 0, .int 0, .int 0, .int (-1), .ref a13, .int 0, .ref a21, .ref a29, .ref a37, .int 0, .int 0, .int 0, .int 0, .int 0, .int 0, .int 0, .int 0, .int 0, .ref a46, .ref a55, .ref a64, .int 0, .ref a72, .int 0, .null, .null, .null, .null, .null, .int 0, .int 0, .int 0, .int 0]) hx hb hown hts hin lkJ_X8_36 hKx hP hD hS rfl rfl (Nat.le_of_ble_eq_true rfl) dX8_init_74 rfl (fun H locs hP hD hS => ?_)
  refine lv_aload_n hx hb dX8_init_77 rfl (lv_at hl 0 rfl) ?_
  refine lv_sipush (v := 2406) hx hb dX8_init_78 (by decide) ?_
  refine n_newiT (N' := 2406) hx hb hts hKx hP hD hS hA (by decide) (by decide) (by decide) (Nat.le_of_ble_eq_true rfl) (Nat.le_of_ble_eq_true rfl) dX8_init_81 (fun a81 H hP hD hS => ?_)
  refine n_putT (v := .ref a81) (fs' := [.int 0, .int 0, .int 0, .int (-1), .ref a13, .int 0, .ref a21, .ref a29, .ref a37, .int 0, .int 0, .int 0, .int 0, .int 0, .int 0, .int 0, .int 0, .int 0, .ref a46, .ref a55, .ref a64, .int 0, .ref a72, .int 0, .ref a81, .null, .null, .null, .null, .int 0, .int 0, .int 0, .int 0]) hx hb hown hts hin lkJ_X8_39 hKx hP hD hS rfl rfl (Nat.le_of_ble_eq_true rfl) dX8_init_83 rfl (fun H locs hP hD hS => ?_)
  refine lv_aload_n hx hb dX8_init_86 rfl (lv_at hl 0 rfl) ?_
  refine lv_sipush (v := 2406) hx hb dX8_init_87 (by decide) ?_
  refine n_newiT (N' := 2406) hx hb hts hKx hP hD hS hA (by decide) (by decide) (by decide) (Nat.le_of_ble_eq_true rfl) (Nat.le_of_ble_eq_true rfl) dX8_init_90 (fun a90 H hP hD hS => ?_)
  refine n_putT (v := .ref a90) (fs' := [.int 0, .int 0, .int 0, .int (-1), .ref a13, .int 0, .ref a21, .ref a29, .ref a37, .int 0, .int 0, .int 0, .int 0, .int 0, .int 0, .int 0, .int 0, .int 0, .ref a46, .ref a55, .ref a64, .int 0, .ref a72, .int 0, .ref a81, .ref a90, .null, .null, .null, .int 0, .int 0, .int 0, .int 0]) hx hb hown hts hin lkJ_X8_42 hKx hP hD hS rfl rfl (Nat.le_of_ble_eq_true rfl) dX8_init_92 rfl (fun H locs hP hD hS => ?_)
  refine lv_aload_n hx hb dX8_init_95 rfl (lv_at hl 0 rfl) ?_
  refine lv_sipush (v := 2406) hx hb dX8_init_96 (by decide) ?_
  refine n_newiT (N' := 2406) hx hb hts hKx hP hD hS hA (by decide) (by decide) (by decide) (Nat.le_of_ble_eq_true rfl) (Nat.le_of_ble_eq_true rfl) dX8_init_99 (fun a99 H hP hD hS => ?_)
  refine n_putT (v := .ref a99) (fs' := [.int 0, .int 0, .int 0, .int (-1), .ref a13, .int 0, .ref a21, .ref a29, .ref a37, .int 0, .int 0, .int 0, .int 0, .int 0, .int 0, .int 0, .int 0, .int 0, .ref a46, .ref a55, .ref a64, .int 0, .ref a72, .int 0, .ref a81, .ref a90, .ref a99, .null, .null, .int 0, .int 0, .int 0, .int 0]) hx hb hown hts hin lkJ_X8_45 hKx hP hD hS rfl rfl (Nat.le_of_ble_eq_true rfl) dX8_init_101 rfl (fun H locs hP hD hS => ?_)
  refine lv_aload_n hx hb dX8_init_104 rfl (lv_at hl 0 rfl) ?_
  refine lv_sipush (v := 2406) hx hb dX8_init_105 (by decide) ?_
  refine n_newiT (N' := 2406) hx hb hts hKx hP hD hS hA (by decide) (by decide) (by decide) (Nat.le_of_ble_eq_true rfl) (Nat.le_of_ble_eq_true rfl) dX8_init_108 (fun a108 H hP hD hS => ?_)
  refine n_putT (v := .ref a108) (fs' := [.int 0, .int 0, .int 0, .int (-1), .ref a13, .int 0, .ref a21, .ref a29, .ref a37, .int 0, .int 0, .int 0, .int 0, .int 0, .int 0, .int 0, .int 0, .int 0, .ref a46, .ref a55, .ref a64, .int 0, .ref a72, .int 0, .ref a81, .ref a90, .ref a99, .ref a108, .null, .int 0, .int 0, .int 0, .int 0]) hx hb hown hts hin lkJ_X8_48 hKx hP hD hS rfl rfl (Nat.le_of_ble_eq_true rfl) dX8_init_110 rfl (fun H locs hP hD hS => ?_)
  refine lv_aload_n hx hb dX8_init_113 rfl (lv_at hl 0 rfl) ?_
  refine lv_sipush (v := 2766) hx hb dX8_init_114 (by decide) ?_
  refine n_newiT (N' := 2766) hx hb hts hKx hP hD hS hA (by decide) (by decide) (by decide) (Nat.le_of_ble_eq_true rfl) (Nat.le_of_ble_eq_true rfl) dX8_init_117 (fun a117 H hP hD hS => ?_)
  refine n_putT (v := .ref a117) (fs' := [.int 0, .int 0, .int 0, .int (-1), .ref a13, .int 0, .ref a21, .ref a29, .ref a37, .int 0, .int 0, .int 0, .int 0, .int 0, .int 0, .int 0, .int 0, .int 0, .ref a46, .ref a55, .ref a64, .int 0, .ref a72, .int 0, .ref a81, .ref a90, .ref a99, .ref a108, .ref a117, .int 0, .int 0, .int 0, .int 0]) hx hb hown hts hin lkJ_X8_51 hKx hP hD hS rfl rfl (Nat.le_of_ble_eq_true rfl) dX8_init_119 rfl (fun H locs hP hD hS => ?_)
  have hP9 : va_P D vwCl (wcV vv8 (adT [fun _ => 0, fun _ => 0, fun _ => 0, fun _ => 0, fun _ => 0, fun _ => 0, fun _ => 0, fun _ => 0, fun _ => h0, fun _ => 0, fun _ => 0, fun _ => 0, fun _ => 0, fun _ => 0, fun _ => 0, fun _ => 0, fun _ => 0, fun _ => 0, fun _ => 0, fun _ => 0, fun _ => 0, fun _ => 0, fun _ => 0, fun _ => 0, fun _ => 0, fun _ => 0, fun _ => 0, fun _ => 0, fun _ => 0, fun _ => 0, fun _ => 0, fun _ => 0, fun _ => 0, fun _ => 0, fun _ => 0, fun _ => 0, fun _ => 0, fun _ => 0, fun _ => 0, fun _ => 0, fun _ => 0, fun _ => 0, fun _ => 0, fun _ => a13, fun _ => a21, fun _ => a29, fun _ => a37, fun _ => a46, fun _ => a55, fun _ => a64, fun _ => a72, fun _ => a81, fun _ => a90, fun _ => a99, fun _ => a108, fun _ => a117, fun _ => 0]) cy st0) H := hP
  have hD9 : va_D A (wcV vv8 (adT [fun _ => 0, fun _ => 0, fun _ => 0, fun _ => 0, fun _ => 0, fun _ => 0, fun _ => 0, fun _ => 0, fun _ => h0, fun _ => 0, fun _ => 0, fun _ => 0, fun _ => 0, fun _ => 0, fun _ => 0, fun _ => 0, fun _ => 0, fun _ => 0, fun _ => 0, fun _ => 0, fun _ => 0, fun _ => 0, fun _ => 0, fun _ => 0, fun _ => 0, fun _ => 0, fun _ => 0, fun _ => 0, fun _ => 0, fun _ => 0, fun _ => 0, fun _ => 0, fun _ => 0, fun _ => 0, fun _ => 0, fun _ => 0, fun _ => 0, fun _ => 0, fun _ => 0, fun _ => 0, fun _ => 0, fun _ => 0, fun _ => 0, fun _ => a13, fun _ => a21, fun _ => a29, fun _ => a37, fun _ => a46, fun _ => a55, fun _ => a64, fun _ => a72, fun _ => a81, fun _ => a90, fun _ => a99, fun _ => a108, fun _ => a117, fun _ => 0]) cy st0) := hD
  refine W.widen (k := 13) (n := 13973) (Nat.le_of_ble_eq_true rfl) (Nat.le_of_ble_eq_true rfl) ?_
  exact W.vret hx hb hr (fun t ht hW => ⟨⟨_, rfl, ⟨adT [fun _ => 0, fun _ => 0, fun _ => 0, fun _ => 0, fun _ => 0, fun _ => 0, fun _ => 0, fun _ => 0, fun _ => h0, fun _ => 0, fun _ => 0, fun _ => 0, fun _ => 0, fun _ => 0, fun _ => 0, fun _ => 0, fun _ => 0, fun _ => 0, fun _ => 0, fun _ => 0, fun _ => 0, fun _ => 0, fun _ => 0, fun _ => 0, fun _ => 0, fun _ => 0, fun _ => 0, fun _ => 0, fun _ => 0, fun _ => 0, fun _ => 0, fun _ => 0, fun _ => 0, fun _ => 0, fun _ => 0, fun _ => 0, fun _ => 0, fun _ => 0, fun _ => 0, fun _ => 0, fun _ => 0, fun _ => 0, fun _ => 0, fun _ => a13, fun _ => a21, fun _ => a29, fun _ => a37, fun _ => a46, fun _ => a55, fun _ => a64, fun _ => a72, fun _ => a81, fun _ => a90, fun _ => a99, fun _ => a108, fun _ => a117, fun _ => 0], rfl, rfl⟩, by rw [ht]; exact hP9, hD9⟩, hS.F ht⟩) hS.2.2 dX8_init_122
