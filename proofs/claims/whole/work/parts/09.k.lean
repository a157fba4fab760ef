/-! ===== small rows and constants ===== -/
section VSM
variable {R : Type} {X : Cx} {g : R → Option Value} {own : String} {cc : ByteArray} {nL d pc pcJ : Nat} {lv lv' : List (Nat × Value)} {st st' : List Value} {σ : St} {res : Option (R × St)}
theorem v_cut (hJ : V X g pcJ lv st σ res) (hb : V X g pcJ lv st σ res → V X g pc lv' st' σ res) : V X g pc lv' st' σ res := hb hJ
theorem v_jpos {c : Prop} [Decidable c] {a b : Int32} (h : c) (j : V X g pcJ lv (.int (if c then a else b) :: st) σ res) : V X g pcJ lv (.int a :: st) σ res := by rw [if_pos h] at j; exact j
theorem v_jneg {c : Prop} [Decidable c] {a b : Int32} (h : ¬ c) (j : V X g pcJ lv (.int (if c then a else b) :: st) σ res) : V X g pcJ lv (.int b :: st) σ res := by rw [if_neg h] at j; exact j
theorem v_aretU {ci k : Nat} {rt : FieldType} (C : Ok X own cc nL d) (M : OkM X (some rt)) (hrt : (∃ n, rt = .object n) ∨ ∃ t, rt = .array t) (hd : decode cc pc = .ok (.areturn, 1)) : V X (fun _ : Unit => some (.ref (adr X ci k))) pc lv [.ref (adr X ci k)] σ (some ((), σ)) := by
  obtain ⟨⟨p, l, e, Rm, s, m⟩, ⟨args, below, meth, c, cells, slots⟩, Q, ad, cy, D, adK, adV⟩ := X
  obtain ⟨hx, hb, hml, hown, hts, hK, hD, hE, hfr, hlo, hcl, hsl⟩ := C
  obtain ⟨rfl, rfl, hret, hlocks, rfl⟩ := M
  intro r σ' hr H locs ls hP hS hlv
  cases hr
  exact W.aret hx hb hret hrt (Or.inr ⟨_, rfl⟩) (fun t ht hW => ⟨⟨rfl, by rw [ht]; exact hP⟩, hS.F ht⟩) hS.2.2 hd hlocks
end VSM
theorem metOfWF {l : Launch} {y : MethodName} {ws ws' : List Cond} {rm : Room} {Pc : Array Value → State → Prop} {Qc : Array Value → State → Outcome → State → Prop} {mc ms : Nat} {free : Addr → Prop} {cc : ByteArray} {maxL : Nat} {ret : Option FieldType}
    (hy : plainFor y = true) (hw : ws = Cond.code y cc maxL ret :: ws')
    (body : ∀ p e s m args below meth c s₁, BodyLoose p l y (headSpec ws rm) cc maxL ret e s m args below meth c s₁ → c.maxLocals = maxL → Pc args s →
      W p l e (headSpec ws rm).room s m args below meth c s.heap [] 0 0 (MQ below Qc args s mc ms free) (entryFrame m args maxL)) : Met l y ws rm Pc Qc mc ms free := by
  refine MetFree.of_bodySF (code := cc) (maxLocals := maxL) (ret := ret) hy ?_ ?_
  · intro args s m h hn
    obtain ⟨meth, c, h1, h2, h3, h4, h5, h6, -, -⟩ := Cond.code_spec hn (atoms_spec (ws := ws) h _ (by rw [hw]; exact List.mem_cons_self))
    exact ⟨meth, c, h1, h2, h3, h4, h5, h6⟩
  · intro p e s m args below meth c s₁ B hml hP _
    have hh0 : s₁.heap = s.heap := by rw [B.state]; rfl
    obtain ⟨t, a1, o, b1, b2, b3⟩ := body p e s m args below meth c s₁ B hml hP s₁ hh0 (Stand.of_body B)
    exact ⟨t, o, a1, b1, b2, ⟨b3.1, b3.2⟩⟩
theorem konIF {R : Type} {X : Cx} {d : Nat} {y : MethodName} {bytes : ByteArray} {maxL : Nat} {ret : Option FieldType} {g : R → Option Value} {as : List Value} {σ : St} {fy : Option (R × St)} {own : String} (hy : plainFor y = true) (ho : y.cls = own) (hm : (lg_sl as).length ≤ maxL)
    (h : ∀ Y : Cx, Sm X Y → Ok Y own bytes maxL d → OkM Y ret → V Y g 0 (lv_args 0 as) [] σ fy) : Kon X d y bytes maxL ret g as σ fy := by
  obtain ⟨⟨p0, l, e0, R0, s0, m0⟩, X2, Q0, ad, cy, D, adK, adV⟩ := X
  intro r σ' hr
  refine metOfWF (cc := bytes) (maxL := maxL) (ret := ret) hy rfl ?_
  intro p e s m args below meth c s₁ B hml hv
  obtain ⟨rfl, hP, hK, hD, hE⟩ := hv
  have hts := atoms_spec (ws := .code y bytes maxL ret :: gt) B.pre
  have hown : s.vm.findClass y.cls = some m.cls := findClass_of_methodNamed B.named
  rw [ho] at hown
  have hl := lv_entry as (n := maxL) hm
  rw [lg_entry_eq]
  exact h ((p, l, e, rmD d, s, m), (as.toArray, below, meth, c, 0, 0), (fun rv σ' => MQ below (Po ad cy D rv σ') as.toArray s 0 0 (inA ad)), ad, cy, D, adK, adV) ⟨rfl, rfl⟩
    ⟨B.exec, B.bytes, hml, hown, fun w hw => hts w (List.mem_cons_of_mem _ hw), hK, hD, hE, Nat.le_refl _, Nat.le_refl _, Nat.le_refl _, Nat.le_refl _⟩
    ⟨rfl, rfl, B.returns, B.notSynchronized, rfl⟩ r σ' hr s.heap [] _ hP va_S.rf (by rw [hml]; exact hl)
theorem konJF {R : Type} {X : Cx} {d : Nat} {y : MethodName} {bytes : ByteArray} {maxL : Nat} {ret : Option FieldType} (G : (Nat → Nat → Nat) → R → Option Value) (as : (Nat → Nat → Nat) → (Nat → Nat) → List Value) {σ : St} {fy : Option (R × St)} {own : String} (hy : plainFor y = true) (ho : y.cls = own) (hm : ∀ a b, (lg_sl (as a b)).length ≤ maxL)
    (h : ∀ Y : Cx, Ok Y own bytes maxL d → OkM Y ret → V Y (G (adr Y)) 0 (lv_args 0 (as (adr Y) (adS Y))) [] σ fy) : Kon X d y bytes maxL ret (G (adr X)) (as (adr X) (adS X)) σ fy := by
  refine konIF (own := own) hy ho (hm _ _) (fun Y hS hC hM => ?_)
  have e1 : adr X = adr Y := congrArg (fun z => z.1) hS.2
  have e2 : adS X = adS Y := congrArg (fun z => z.2.2.2.1) hS.2
  rw [e1, e2]
  exact h Y hC hM

theorem ck_0 : 0 < cnt 0 := by decide
theorem ck_1 : 0 < cnt 1 := by decide
theorem ck_2 : 0 < cnt 2 := by decide
theorem ck_3 : 0 < cnt 3 := by decide
theorem ck_4 : 0 < cnt 4 := by decide
theorem ck_5 : 0 < cnt 5 := by decide
theorem ck_6 : 0 < cnt 6 := by decide
theorem ck_7 : 0 < cnt 7 := by decide
theorem ck_8 : 0 < cnt 8 := by decide
theorem ck_10 : 0 < cnt 10 := by decide
theorem ck_11 : 0 < cnt 11 := by decide
theorem ck_12 : 0 < cnt 12 := by decide
theorem ck_13 : 0 < cnt 13 := by decide
theorem ck_14 : 0 < cnt 14 := by decide
theorem ck_15 : 0 < cnt 15 := by decide
theorem ck_16 : 0 < cnt 16 := by decide
theorem ck_17 : 0 < cnt 17 := by decide
theorem ck_18 : 0 < cnt 18 := by decide
theorem ck_19 : 0 < cnt 19 := by decide
theorem ck_20 : 0 < cnt 20 := by decide
theorem ck_21 : 0 < cnt 21 := by decide
theorem ck_22 : 0 < cnt 22 := by decide
theorem ck_23 : 0 < cnt 23 := by decide
theorem ck_24 : 0 < cnt 24 := by decide
theorem ck_25 : 0 < cnt 25 := by decide
theorem ck_26 : 0 < cnt 26 := by decide
theorem ck_27 : 0 < cnt 27 := by decide
theorem ck_28 : 0 < cnt 28 := by decide
theorem ck_29 : 0 < cnt 29 := by decide
theorem ck_30 : 0 < cnt 30 := by decide
theorem ck_31 : 0 < cnt 31 := by decide
theorem ck_32 : 0 < cnt 32 := by decide
theorem ck_33 : 0 < cnt 33 := by decide
theorem ck_34 : 0 < cnt 34 := by decide
theorem ck_35 : 0 < cnt 35 := by decide
theorem ck_36 : 0 < cnt 36 := by decide
theorem ck_37 : 0 < cnt 37 := by decide
theorem ck_38 : 0 < cnt 38 := by decide
theorem ck_39 : 0 < cnt 39 := by decide
theorem ck_40 : 0 < cnt 40 := by decide
theorem ck_41 : 0 < cnt 41 := by decide
theorem ck_42 : 0 < cnt 42 := by decide
theorem ck_43 : 0 < cnt 43 := by decide
theorem ck_44 : 0 < cnt 44 := by decide
theorem ck_45 : 0 < cnt 45 := by decide
theorem ck_46 : 0 < cnt 46 := by decide
theorem ck_47 : 0 < cnt 47 := by decide
theorem ck_48 : 0 < cnt 48 := by decide
theorem ck_49 : 0 < cnt 49 := by decide
theorem ck_50 : 0 < cnt 50 := by decide
theorem ck_51 : 0 < cnt 51 := by decide
theorem ck_52 : 0 < cnt 52 := by decide
theorem ck_53 : 0 < cnt 53 := by decide
theorem ck_54 : 0 < cnt 54 := by decide
theorem ck_55 : 0 < cnt 55 := by decide
theorem ck_56 : 0 < cnt 56 := by decide
theorem ck_4_1 : 1 < cnt 4 := by decide
theorem ck_4_2 : 2 < cnt 4 := by decide
theorem kc_bipush_m2 : (Int8.ofInt (-2)).toInt32 = (-2) := by decide
theorem kc_bipush_6 : (Int8.ofInt (6)).toInt32 = nI 6 := by decide
theorem kc_bipush_7 : (Int8.ofInt (7)).toInt32 = nI 7 := by decide
theorem kc_bipush_8 : (Int8.ofInt (8)).toInt32 = nI 8 := by decide
theorem kc_bipush_9 : (Int8.ofInt (9)).toInt32 = nI 9 := by decide
theorem kc_bipush_10 : (Int8.ofInt (10)).toInt32 = nI 10 := by decide
theorem kc_bipush_11 : (Int8.ofInt (11)).toInt32 = nI 11 := by decide
theorem kc_bipush_12 : (Int8.ofInt (12)).toInt32 = nI 12 := by decide
theorem kc_bipush_16 : (Int8.ofInt (16)).toInt32 = nI 16 := by decide
theorem kc_bipush_17 : (Int8.ofInt (17)).toInt32 = nI 17 := by decide
theorem kc_bipush_18 : (Int8.ofInt (18)).toInt32 = nI 18 := by decide
theorem kc_bipush_20 : (Int8.ofInt (20)).toInt32 = nI 20 := by decide
theorem kc_bipush_23 : (Int8.ofInt (23)).toInt32 = nI 23 := by decide
theorem kc_bipush_24 : (Int8.ofInt (24)).toInt32 = nI 24 := by decide
theorem kc_bipush_27 : (Int8.ofInt (27)).toInt32 = nI 27 := by decide
theorem kc_bipush_31 : (Int8.ofInt (31)).toInt32 = nI 31 := by decide
theorem kc_bipush_32 : (Int8.ofInt (32)).toInt32 = nI 32 := by decide
theorem kc_bipush_35 : (Int8.ofInt (35)).toInt32 = nI 35 := by decide
theorem kc_bipush_47 : (Int8.ofInt (47)).toInt32 = nI 47 := by decide
theorem kc_bipush_48 : (Int8.ofInt (48)).toInt32 = nI 48 := by decide
theorem kc_bipush_50 : (Int8.ofInt (50)).toInt32 = nI 50 := by decide
theorem kc_bipush_57 : (Int8.ofInt (57)).toInt32 = nI 57 := by decide
theorem kc_bipush_59 : (Int8.ofInt (59)).toInt32 = nI 59 := by decide
theorem kc_bipush_63 : (Int8.ofInt (63)).toInt32 = nI 63 := by decide
theorem kc_bipush_64 : (Int8.ofInt (64)).toInt32 = nI 64 := by decide
theorem kc_bipush_90 : (Int8.ofInt (90)).toInt32 = nI 90 := by decide
theorem kc_bipush_91 : (Int8.ofInt (91)).toInt32 = nI 91 := by decide
theorem kc_bipush_92 : (Int8.ofInt (92)).toInt32 = nI 92 := by decide
theorem kc_bipush_93 : (Int8.ofInt (93)).toInt32 = nI 93 := by decide
theorem kc_bipush_94 : (Int8.ofInt (94)).toInt32 = nI 94 := by decide
theorem kc_bipush_95 : (Int8.ofInt (95)).toInt32 = nI 95 := by decide
theorem kc_bipush_96 : (Int8.ofInt (96)).toInt32 = nI 96 := by decide
theorem kc_bipush_97 : (Int8.ofInt (97)).toInt32 = nI 97 := by decide
theorem kc_bipush_99 : (Int8.ofInt (99)).toInt32 = nI 99 := by decide
theorem kc_bipush_122 : (Int8.ofInt (122)).toInt32 = nI 122 := by decide
theorem kc_iconst_m8 : Int32.ofInt (-8) = (-8) := by decide
theorem kc_iconst_m1 : Int32.ofInt (-1) = (-1) := by decide
theorem kc_iconst_0 : Int32.ofInt (0) = 0 := by decide
theorem kc_iconst_1 : Int32.ofInt (1) = nI 1 := by decide
theorem kc_iconst_2 : Int32.ofInt (2) = nI 2 := by decide
theorem kc_iconst_3 : Int32.ofInt (3) = nI 3 := by decide
theorem kc_iconst_4 : Int32.ofInt (4) = nI 4 := by decide
theorem kc_iconst_5 : Int32.ofInt (5) = nI 5 := by decide
theorem kc_sipush_187 : (Int16.ofInt (187)).toInt32 = nI 187 := by decide
theorem kc_sipush_200 : (Int16.ofInt (200)).toInt32 = nI 200 := by decide
theorem kc_sipush_251 : (Int16.ofInt (251)).toInt32 = nI 251 := by decide
theorem kc_sipush_255 : (Int16.ofInt (255)).toInt32 = nI 255 := by decide
theorem kc_sipush_400 : (Int16.ofInt (400)).toInt32 = nI 400 := by decide
theorem kc_sipush_401 : (Int16.ofInt (401)).toInt32 = nI 401 := by decide
theorem kc_sipush_461 : (Int16.ofInt (461)).toInt32 = nI 461 := by decide
theorem kc_sipush_680 : (Int16.ofInt (680)).toInt32 = nI 680 := by decide
theorem kc_sipush_700 : (Int16.ofInt (700)).toInt32 = nI 700 := by decide
theorem kc_sipush_999 : (Int16.ofInt (999)).toInt32 = nI 999 := by decide
theorem kc_sipush_2000 : (Int16.ofInt (2000)).toInt32 = nI 2000 := by decide
theorem kc_sipush_2766 : (Int16.ofInt (2766)).toInt32 = nI 2766 := by decide
