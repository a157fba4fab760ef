/-! ===== making cells: arrays, grids, objects by their constructors ===== -/
theorem va_AOA.warm {ty : FieldType} {s U : State} (hW : s.WarmedH U.vm) (h : va_AOA ty s) : va_AOA ty U := by
  have h1 : (Cond.arrayOver (.array ty)).before #[] (s.setVm U.vm) = true := by rw [Cond.arrayOver_setVmC hW.alike]; exact h
  exact h1
/-- the private constructors' links -/
def nestI : List Cond := [.methodLinkNest RX7 9 yX6_init RX7, .methodLinkNest RX3 11 yX2_init RX7, .methodLinkNest RX7 27 yX0_init RX7, .methodLinkNest RX0 11 yX1_init RX7, .methodLinkNest RX7 34 yX4_init RX7, .methodLinkNest RX4 11 yX5_init RX7, .methodLinkNest RX4 20 yX2_init RX7, .methodLinkNest RX7 47 yX2_init RX7]
def Kx (D : va_G) (cy : Nat → ClassId) (U : State) : Prop := va_K D vwCl (tysO cy) U ∧ (∀ w ∈ nestI, va_Nw w U) ∧ va_AOA .int U
theorem Kx.warm {D : va_G} {cy : Nat → ClassId} {s U : State} (hW : s.WarmedH U.vm) (h : Kx D cy s) : Kx D cy U := by
  refine ⟨va_K.moved hW.alike h.1, fun w hw => ?_, va_AOA.warm hW h.2.2⟩
  have h1 := h.2.1 w hw
  simp only [nestI, List.mem_cons, List.not_mem_nil, or_false] at hw
  rcases hw with rfl | rfl | rfl | rfl | rfl | rfl | rfl | rfl <;> exact va_Nw.warmM hW h1
theorem Kx.call {D : va_G} {cy : Nat → ClassId} {U : State} {g : JFrame} {mk : MethodId} {a : Array Value} (h : Kx D cy U) : Kx D cy (U.calling g mk a) := by
  refine ⟨va_K.moved (u := U) (U := U.calling g mk a) (Vm.Alike.refl U.vm) h.1, fun w hw => ?_, h.2.2⟩
  have h1 := h.2.1 w hw
  simp only [nestI, List.mem_cons, List.not_mem_nil, or_false] at hw
  rcases hw with rfl | rfl | rfl | rfl | rfl | rfl | rfl | rfl <;> exact va_Nw.same rfl (rfl : U.vm = (U.calling g mk a).vm) h1
theorem j_last {A0 : Nat → Prop} {D : va_G} {cl : List vw_C} {ws w1 : va_W} {x : Nat × va_E} {H H1 : Heap} (hP : va_P D cl (ws ++ [x]) H) (hD : va_D A0 (ws ++ [x])) (hk : ∀ q : Nat, q < H.size → ¬ va_A [x] H.size q → H1[q]? = H[q]?) (hF : ∀ q, va_A [x] H.size q → A0 q) (hP1 : va_P D cl w1 H1) (hD1 : va_D (va_A [x] H.size) w1) : va_P D cl (ws ++ w1) H1 ∧ va_D A0 (ws ++ w1) := by
  have hl : ∀ (k : Nat) (y : Nat × va_E), ws[k]? = some y → (ws ++ [x])[k]? = some y := fun k y h => by
    rw [List.getElem?_append_left (List.getElem?_eq_some_iff.mp h).1]; exact h
  have hx : (ws ++ [x])[ws.length]? = some x := by rw [List.getElem?_append_right (Nat.le_refl _), Nat.sub_self]; rfl
  have hne : ∀ (k : Nat) (y : Nat × va_E), ws[k]? = some y → y.1 < H.size ∧ ¬ va_A [x] H.size y.1 := fun k y h => by
    have h1 := (hP k y (hl k y h)).lt
    refine ⟨h1, fun z => ?_⟩
    rcases z with ⟨j, e, hj⟩ | z
    · have hj0 : j < 1 := (List.getElem?_eq_some_iff.mp hj).1
      rw [show j = 0 by omega] at hj
      have e0 : x = (y.1, e) := Option.some.inj hj
      have e1 : x.1 = y.1 := by rw [e0]
      have h2 := hD.1 k ws.length y x (hl k y h) hx e1.symm
      have h3 := (List.getElem?_eq_some_iff.mp h).1
      omega
    · omega
  have cut : ∀ (k : Nat) (y : Nat × va_E), (ws ++ w1)[k]? = some y → (k < ws.length ∧ ws[k]? = some y) ∨ (ws.length ≤ k ∧ w1[k - ws.length]? = some y) := fun k y h => by
    rcases Nat.lt_or_ge k ws.length with z | z
    · rw [List.getElem?_append_left z] at h
      exact Or.inl ⟨z, h⟩
    · rw [List.getElem?_append_right z] at h
      exact Or.inr ⟨z, h⟩
  refine ⟨fun k y h => ?_, fun i j y z hy hz e => ?_, fun k y h => ?_⟩
  · rcases cut k y h with ⟨_, h1⟩ | ⟨_, h1⟩
    · exact (hP k y (hl k y h1)).kept (hk y.1 (hne k y h1).1 (hne k y h1).2)
    · exact hP1 _ y h1
  · rcases cut i y hy with ⟨a1, h1⟩ | ⟨a1, h1⟩ <;> rcases cut j z hz with ⟨a2, h2⟩ | ⟨a2, h2⟩
    · exact hD.1 i j y z (hl i y h1) (hl j z h2) e
    · exact absurd (hD1.2 _ z h2) (by rw [← e]; exact (hne i y h1).2)
    · exact absurd (hD1.2 _ y h1) (by rw [e]; exact (hne j z h2).2)
    · have := hD1.1 _ _ y z h1 h2 e
      omega
  · rcases cut k y h with ⟨_, h1⟩ | ⟨_, h1⟩
    · exact hD.2 k y (hl k y h1)
    · exact hF _ (hD1.2 _ y h1)
/-- what fields hold before anything is put -/
def dfl : List (List Value) := (List.range 9).map (fun ci => (List.range (nfl ci)).map (fun j => if (fk ci j).1 = 0 ∨ (fk ci j).1 = 4 then Value.int 0 else .null))
def df (ci : Nat) : List Value := (List.range (nfl ci)).map (fun j => if (fk ci j).1 = 0 ∨ (fk ci j).1 = 4 then Value.int 0 else .null)
/-- a constructor's contract: of an object as 'new' leaves it, it makes a world -/
def Nk (l : Launch) (y : MethodName) (bytes : ByteArray) (maxL : Nat) (rm : Room) (mc ms ci : Nat) (As : List Value) (cy : Nat → ClassId) (D : va_G) (Φ : Nat → va_W → Prop) : Prop :=
  ∀ (h0 sz : Nat), Met l y (.code y bytes maxL none :: gt) rm (va_Pc (.ref h0 :: As) (fun U => U.heap.size = sz ∧ va_P D vwCl [(h0, .inr (ci, df ci))] U.heap ∧ Kx D cy U)) (va_Qv (fun w : va_W => Φ h0 w) (fun w t => va_P D vwCl w t.heap ∧ va_D (va_A [(h0, .inr (ci, df ci))] sz) w) (va_A [(h0, .inr (ci, df ci))] sz)) mc ms (va_A [(h0, .inr (ci, df ci))] sz)
def lkI (own : String) (index ci N : Nat) : Prop := ∃ (C : String) (T : u_T) (ty0 : Nat → FieldType), vwCl[ci]? = some (C, T, N) ∧ (∀ w ∈ u_ws C T N, w ∈ gt) ∧ (∀ k, k < N → parseFieldDescriptor (T k).2.2.1 = some (ty0 k)) ∧ (∀ j, j < N → defaultValue (ty0 j) = vp_V (df ci) j) ∧ Cond.classLink own index C ∈ gt ∧ Cond.instantiable C N ∈ gt ∧ Cond.initialized C ∈ gt
def lkJ (own : String) (index ci j : Nat) (ty : FieldType) (fin : Bool) : Prop := ∃ (T : u_T) (N : Nat) (ty0 : Nat → FieldType), vwCl[ci]? = some (own, T, N) ∧ j < N ∧ (∀ w ∈ u_ws own T N, w ∈ gt) ∧ Cond.fieldLink own index own (T j).2.1 (T j).2.2.1 ∈ gt ∧ (T j).1 = own ∧ (∀ k, k < N → parseFieldDescriptor (T k).2.2.1 = some (ty0 k)) ∧ (∀ a, a < N → ∀ b, b < N → a ≠ b → (T a).2.1 ≠ (T b).2.1) ∧ (T j).2.2.2 = fin ∧ parseFieldDescriptor (T j).2.2.1 = some ty
section MAKE
variable {p : Program} {l : Launch} {e : Env} {R : Room} {s : State} {m : MethodId} {args : Array Value} {below : List Frame} {meth : Method} {c : Code} {H : Heap} {locs : List Loc} {cells slots : Nat} {Q : State → Prop}
variable {cc : ByteArray} {pc : Nat} {ls : Array Slot} {rest : List Value} {D : va_G} {A : Nat → Prop} {ws : va_W} {cy : Nat → ClassId} {own : String} {nL : Nat}
theorem n_call {y : MethodName} {bytes : ByteArray} {maxL n index mc ms ci : Nat} {rm : Room} {q : Nat} {As : List Value} {Φ : Nat → va_W → Prop} (hx : p.tables.exec = Jvm.exec) (hb : c.code = cc) (hml : c.maxLocals = nL) (hown : s.vm.findClass own = some m.cls) (hts : ∀ w ∈ gt, w.before args s = true) (hM : Nk l y bytes maxL rm mc ms ci As cy D Φ)
    (hlk : va_Nw (.methodLinkNest own index y RX7) s ∨ Cond.methodLink own index y ∈ gt) (hw : Cond.initialized y.cls ∈ gt ∧ Cond.instanceMethod y ∈ gt ∧ Cond.code y bytes maxL none ∈ gt) (hy : y.name = "<init>" ∧ y.cls ≠ "java/lang/invoke/MethodHandle" ∧ y.cls ≠ "java/lang/invoke/VarHandle" ∧ (parseMethodDescriptor y.desc).map (fun d => d.parameters.length) = some n) (hn : As.length = n)
    (hR : rm.cells = mc ∧ rm.slots = ms ∧ rm.frames + 1 ≤ R.frames ∧ 8 + (maxL + 11) + rm.locals ≤ R.locals) (hKx : Kx D cy s) (hP : va_P D vwCl (ws ++ [(q, .inr (ci, df ci))]) H) (hD : va_D A (ws ++ [(q, .inr (ci, df ci))])) (hS : va_S A s.heap H locs) (hA : ∀ x, s.heap.size ≤ x → A x) (hls : ls.size = nL) (hst : (rest.map fun v => v.category).sum ≤ 8) (hdg : decode cc pc = .ok (.invokespecial index, 3)) (hf : cells + mc ≤ R.cells ∧ slots + ms ≤ R.slots)
    (kk : ∀ (w : va_W) (H1 : Heap) (locs1 : List Loc), Φ q w → va_P D vwCl (ws ++ w) H1 → va_D A (ws ++ w) → va_S A s.heap H1 locs1 → W p l e R s m args below meth c H1 locs1 (cells + mc) (slots + ms) Q (F0 m (pc + 3) ls rest)) : W p l e R s m args below meth c H locs cells slots Q (F0 m pc ls (As.reverse ++ .ref q :: rest)) := by
  have hx0 : (ws ++ [(q, (.inr (ci, df ci) : va_E))])[ws.length]? = some (q, .inr (ci, df ci)) := by rw [List.getElem?_append_right (Nat.le_refl _), Nat.sub_self]; rfl
  have hPc : va_P D vwCl [(q, .inr (ci, df ci))] H := fun k x hk => by
    have h0 : k < 1 := (List.getElem?_eq_some_iff.mp hk).1
    rw [show k = 0 by omega] at hk
    cases hk
    exact hP _ _ hx0
  have hFc := va_free (wc := [(q, .inr (ci, df ci))]) hD hS hA [ws.length] (congrArg (fun z => [z]) hx0)
  have hpre : PreS s H (va_Pc (.ref q :: As) (fun U => U.heap.size = H.size ∧ va_P D vwCl [(q, .inr (ci, df ci))] U.heap ∧ Kx D cy U)) (.ref q :: As) :=
    ⟨fun a U g mk z => ⟨z.1, z.2.1, z.2.2.1, z.2.2.2.call⟩, fun U hU hW => ⟨rfl, by rw [hU], by rw [hU]; exact hPc, hKx.warm hW⟩⟩
  have hr : va_Run p l e R s m args below meth c H locs cells slots mc ms (F0 m pc ls (As.reverse ++ .ref q :: rest)) rest (va_Qv (fun w : va_W => Φ q w) (fun w t => va_P D vwCl w t.heap ∧ va_D (va_A [(q, .inr (ci, df ci))] H.size) w) (va_A [(q, .inr (ci, df ci))] H.size) (Value.ref q :: As).toArray) (va_A [(q, .inr (ci, df ci))] H.size) := by
    rcases hlk with h | h
    · exact va_runIN (As := As) (rest := rest) ⟨hx, hb, hml, hown, hts⟩ (hM q H.size) ⟨va_cnB n hts (gt_call hw.2.2) rfl hR.1 hR.2.1 h (hts _ hw.1) hy.2 hR.2.2, hy.1, hts _ hw.2.1⟩ hpre rfl hn hls rfl (lv_room hst) hdg hf
    · exact va_runI (As := As) (rest := rest) ⟨hx, hb, hml, hown, hts⟩ (hM q H.size) ⟨callB_of n hts (gt_call hw.2.2) rfl hR.1 hR.2.1 (hts _ hw.1) (hts _ h) hy.2 hR.2.2, hy.1, hts _ hw.2.1⟩ hpre rfl hn hls rfl (lv_room hst) hdg hf
  refine va_callv hr hS (fun x _ h => hFc x h) hFc (fun w t H1 locs1 ht hal hΦ hB hz hk hS1 => ?_)
  obtain ⟨hP1, hD1⟩ := hB
  rw [ht] at hP1
  obtain ⟨hP2, hD2⟩ := j_last hP hD hk hFc hP1 hD1
  exact kk w H1 locs1 hΦ hP2 hD2 hS1
theorem n_new {ci N index : Nat} (hx : p.tables.exec = Jvm.exec) (hb : c.code = cc) (hown : s.vm.findClass own = some m.cls) (hts : ∀ w ∈ gt, w.before args s = true) (lk : lkI own index ci N) (hKx : Kx D cy s) (hP : va_P D vwCl ws H) (hD : va_D A ws) (hS : va_S A s.heap H locs) (hA : ∀ x, s.heap.size ≤ x → A x) (hc : cells + 1 ≤ R.cells) (hs : slots + N ≤ R.slots) (hdg : decode cc pc = .ok (.new index, 3))
    (kk : ∀ (q : Nat) (H1 : Heap), va_P D vwCl (ws ++ [(q, .inr (ci, df ci))]) H1 → va_D A (ws ++ [(q, .inr (ci, df ci))]) → va_S A s.heap H1 locs → W p l e R s m args below meth c H1 locs (cells + 1) (slots + N) Q (F0 m (pc + 3) ls (.ref q :: rest))) : W p l e R s m args below meth c H locs cells slots Q (F0 m pc ls rest) := by
  obtain ⟨C, T, ty0, h1, h2, h3, h4, h5, h6, h7⟩ := lk
  exact va_new hx hb hts h2 ty0 h3 hown (hts _ h5) (hts _ h6) (hts _ h7) hKx.1 hP hD hS hA h1 h4 hc hs hdg kk
theorem n_put {index ci j h0 : Nat} {ty : FieldType} {fin : Bool} {fs : List Value} {v : Value} (hx : p.tables.exec = Jvm.exec) (hb : c.code = cc) (hown : s.vm.findClass own = some m.cls) (hts : ∀ w ∈ gt, w.before args s = true) (hin : meth.name = "<init>") (lk : lkJ own index ci j ty fin) (hKx : Kx D cy s) (hP : va_P D vwCl ((h0, .inr (ci, fs)) :: ws) H) (hD : va_D A ((h0, .inr (ci, fs)) :: ws)) (hS : va_S A s.heap H locs) (hn : narrow ty v = v) (hfit : fits ty v = true) (hl : j < fs.length) (hdg : decode cc pc = .ok (.putfield index, 3))
    (kk : ∀ (H1 : Heap) (locs1 : List Loc), va_P D vwCl ((h0, .inr (ci, fs.set j v)) :: ws) H1 → va_D A ((h0, .inr (ci, fs.set j v)) :: ws) → va_S A s.heap H1 locs1 → W p l e R s m args below meth c H1 locs1 cells slots Q (F0 m (pc + 3) ls rest)) : W p l e R s m args below meth c H locs cells slots Q (F0 m pc ls (v :: .ref h0 :: rest)) := by
  obtain ⟨T, N, ty0, h1, h2, h3, h4, h5, h6, h7, h8, h9⟩ := lk
  cases fin with
  | true => exact va_putF (ref := own) hx hb hts h3 ty0 h6 h7 hown hKx.1 hP hD hS 0 rfl h1 j h2 (hts _ h4) (fun x hq => by rw [h5] at hq; exact hq) h8 hin h5 h9 hn hfit hl hdg kk
  | false => exact va_put (ref := own) hx hb hts h3 ty0 h6 h7 hown hKx.1 hP hD hS 0 rfl h1 j h2 (hts _ h4) (fun x hq => by rw [h5] at hq; exact hq) h8 h9 hn hfit hl hdg kk
theorem cy_of {k : Nat} {ty : FieldType} {cA : ClassId} (hno : ∀ C, ty ≠ .object C) (hK : va_K D vwCl (tysO cy) s) (hk : (tysO cy)[k]? = some (cy k, ty)) (h : va_RA s cA ty) : cA = cy k := by
  have h1 := (hK.2 k _ hk).2
  cases ty with
  | object C => exact absurd rfl (hno C)
  | _ => exact Option.some.inj (h.symm.trans h1)
theorem n_newi {n : Int32} {N' : Nat} (hx : p.tables.exec = Jvm.exec) (hb : c.code = cc) (hts : ∀ w ∈ gt, w.before args s = true) (hKx : Kx D cy s) (hP : va_P D vwCl ws H) (hD : va_D A ws) (hS : va_S A s.heap H locs) (hA : ∀ x, s.heap.size ≤ x → A x) (hn : ¬ n < 0) (hN : n.toNatClampNeg = N') (hby : N' ≤ 100000) (hc : cells + 1 ≤ R.cells) (hs : slots + N' ≤ R.slots) (hdg : decode cc pc = .ok (.newarray .int, 2))
    (kk : ∀ (q : Nat) (H1 : Heap), va_P D vwCl (ws ++ [(q, .inl (cy 0, N', .inl (fun _ => 0)))]) H1 → va_D A (ws ++ [(q, .inl (cy 0, N', .inl (fun _ => 0)))]) → va_S A s.heap H1 locs → W p l e R s m args below meth c H1 locs (cells + 1) (slots + N') Q (F0 m (pc + 2) ls (.ref q :: rest))) : W p l e R s m args below meth c H locs cells slots Q (F0 m pc ls (.int n :: rest)) := by
  refine va_newa (atype := .int) (ty := .int) (a0 := (N', .inl (fun _ => 0))) hx hb (hts _ (gt_of 217 (by decide +kernel) rfl)) rfl hKx.1 hP hD hS hA (fun cA => rfl) hn hN (by show N' * 4 ≤ _; omega) hc hs hdg (fun q cA H1 hK1 hP1 hD1 hS1 => ?_)
  have e := cy_of (k := 0) (fun C z => by cases z) hKx.1 rfl (hK1.2 4 (cA, .int) rfl).2
  subst e
  exact kk q H1 hP1 hD1 hS1
theorem n_newb {n : Int32} {N' : Nat} (hx : p.tables.exec = Jvm.exec) (hb : c.code = cc) (hts : ∀ w ∈ gt, w.before args s = true) (hKx : Kx D cy s) (hP : va_P D vwCl ws H) (hD : va_D A ws) (hS : va_S A s.heap H locs) (hA : ∀ x, s.heap.size ≤ x → A x) (hn : ¬ n < 0) (hN : n.toNatClampNeg = N') (hby : N' ≤ 100000) (hc : cells + 1 ≤ R.cells) (hs : slots + N' ≤ R.slots) (hdg : decode cc pc = .ok (.newarray .byte, 2))
    (kk : ∀ (q : Nat) (H1 : Heap), va_P D vwCl (ws ++ [(q, .inl (cy 1, N', .inl (fun _ => 0)))]) H1 → va_D A (ws ++ [(q, .inl (cy 1, N', .inl (fun _ => 0)))]) → va_S A s.heap H1 locs → W p l e R s m args below meth c H1 locs (cells + 1) (slots + N') Q (F0 m (pc + 2) ls (.ref q :: rest))) : W p l e R s m args below meth c H locs cells slots Q (F0 m pc ls (.int n :: rest)) := by
  refine va_newa (atype := .byte) (ty := .byte) (a0 := (N', .inl (fun _ => 0))) hx hb (hts _ (gt_of 138 (by decide +kernel) rfl)) rfl hKx.1 hP hD hS hA (fun cA => rfl) hn hN (by show N' * 1 ≤ _; omega) hc hs hdg (fun q cA H1 hK1 hP1 hD1 hS1 => ?_)
  have e := cy_of (k := 1) (fun C z => by cases z) hKx.1 rfl (hK1.2 4 (cA, .byte) rfl).2
  subst e
  exact kk q H1 hP1 hD1 hS1
theorem n_newl {n : Int32} {N' : Nat} (hx : p.tables.exec = Jvm.exec) (hb : c.code = cc) (hts : ∀ w ∈ gt, w.before args s = true) (hKx : Kx D cy s) (hP : va_P D vwCl ws H) (hD : va_D A ws) (hS : va_S A s.heap H locs) (hA : ∀ x, s.heap.size ≤ x → A x) (hn : ¬ n < 0) (hN : n.toNatClampNeg = N') (hby : N' ≤ 100000) (hc : cells + 1 ≤ R.cells) (hs : slots + N' ≤ R.slots) (hdg : decode cc pc = .ok (.newarray .long, 2))
    (kk : ∀ (q : Nat) (H1 : Heap), va_P D vwCl (ws ++ [(q, .inl (cy 2, N', .inr (.inl (fun _ => 0))))]) H1 → va_D A (ws ++ [(q, .inl (cy 2, N', .inr (.inl (fun _ => 0))))]) → va_S A s.heap H1 locs → W p l e R s m args below meth c H1 locs (cells + 1) (slots + N') Q (F0 m (pc + 2) ls (.ref q :: rest))) : W p l e R s m args below meth c H locs cells slots Q (F0 m pc ls (.int n :: rest)) := by
  refine va_newa (atype := .long) (ty := .long) (a0 := (N', .inr (.inl (fun _ => 0)))) hx hb (hts _ (gt_of 1368 (by decide +kernel) rfl)) rfl hKx.1 hP hD hS hA (fun cA => rfl) hn hN (by show N' * 8 ≤ _; omega) hc hs hdg (fun q cA H1 hK1 hP1 hD1 hS1 => ?_)
  have e := cy_of (k := 2) (fun C z => by cases z) hKx.1 rfl (hK1.2 4 (cA, .long) rfl).2
  subst e
  exact kk q H1 hP1 hD1 hS1
/-- a row of references reads only the places that it has -/
theorem arr_cg {cI : ClassId} {N : Nat} {f f' : Nat → Value} (h : ∀ i, i < N → f i = f' i) : arrV cI N f = arrV cI N f' := by
  unfold arrV
  have e : (fun j : Fin N => f j.val) = fun j => f' j.val := funext fun j => h j.val j.isLt
  rw [e]
theorem grid_at {cl : List vw_C} {a N : Nat} {cA : ClassId} {f f' : Nat → Option Nat} (h : ∀ i, i < N → f i = f' i) : va_at D cl (a, .inl (cA, N, .inr (.inr (.inr (.inr f))))) H → va_at D cl (a, .inl (cA, N, .inr (.inr (.inr (.inr f'))))) H := by
  intro z
  have e : vp_cell cA (N, .inr (.inr (.inr (.inr f)))) = vp_cell cA (N, .inr (.inr (.inr (.inr f')))) := by
    rw [vp_cell_q, vp_cell_q]
    exact arr_cg (fun i hi => by rw [h i hi])
  show H[a]? = some (vp_cell cA (N, .inr (.inr (.inr (.inr f')))))
  rw [← e]
  exact z
theorem P_mem {cl : List vw_C} : va_P D cl ws H ↔ ∀ x ∈ ws, va_at D cl x H := by
  constructor
  · intro h x hx
    obtain ⟨k, hk⟩ := List.getElem?_of_mem hx
    exact h k x hk
  · intro h k x hk
    exact h x (List.mem_of_getElem? hk)
theorem P_swap {cl : List vw_C} {u v : va_W} {x x' : Nat × va_E} (hx : va_at D cl x H → va_at D cl x' H) (h : va_P D cl ((u ++ [x]) ++ v) H) : va_P D cl ((u ++ [x']) ++ v) H := by
  rw [P_mem] at h ⊢
  intro y hy
  simp only [List.mem_append, List.mem_cons, List.not_mem_nil, or_false] at hy h
  rcases hy with (hy | hy) | hy
  · exact h y (Or.inl (Or.inl hy))
  · rw [hy]; exact hx (h x (Or.inl (Or.inr rfl)))
  · exact h y (Or.inr hy)
theorem D_map {ws' : va_W} (e : ws.map Prod.fst = ws'.map Prod.fst) (h : va_D A ws) : va_D A ws' := by
  have key : ∀ (i : Nat) (x : Nat × va_E), ws'[i]? = some x → ∃ y, ws[i]? = some y ∧ y.1 = x.1 := fun i x hx => by
    have h1 : (ws'.map Prod.fst)[i]? = some x.1 := by rw [List.getElem?_map, hx]; rfl
    rw [← e, List.getElem?_map] at h1
    cases hq : ws[i]? with
    | none => rw [hq] at h1; cases h1
    | some y => rw [hq] at h1; exact ⟨y, rfl, Option.some.inj h1⟩
  refine ⟨fun i j x y hx hy hxy => ?_, fun i x hx => ?_⟩
  · obtain ⟨x', h1, e1⟩ := key i x hx
    obtain ⟨y', h2, e2⟩ := key j y hy
    exact h.1 i j x' y' h1 h2 (by rw [e1, e2, hxy])
  · obtain ⟨x', h1, e1⟩ := key i x hx
    rw [← e1]
    exact h.2 i x' h1
theorem aa_s : "[" ++ (FieldType.array FieldType.int).toString = "[[I" := by decide +kernel
theorem n_grid {n k : Int32} {N' K' index : Nat} (hx : p.tables.exec = Jvm.exec) (hb : c.code = cc) (hown : s.vm.findClass own = some m.cls) (hts : ∀ w ∈ gt, w.before args s = true) (hlk : Cond.classLink own index "[[I" ∈ gt) (hKx : Kx D cy s) (hP : va_P D vwCl ws H) (hD : va_D A ws) (hS : va_S A s.heap H locs) (hA : ∀ x, s.heap.size ≤ x → A x) (hn : ¬ n < 0) (hN : n.toNatClampNeg = N') (hk : ¬ k < 0) (hM : k.toNatClampNeg = K') (hby : N' ≤ 1000 ∧ K' ≤ 1000) (hc : cells + (1 + N') ≤ R.cells) (hs : slots + (N' + N' * K') ≤ R.slots) (hdg : decode cc pc = .ok (.multianewarray index 2, 4))
    (kk : ∀ (q : Nat) (r : Nat → Nat) (H1 : Heap), va_P D vwCl ((ws ++ [(q, .inl (cy 3, N', .inr (.inr (.inr (.inr (fun i => some (r (0 + i))))))))]) ++ (List.range N').map (fun i => (r i, .inl (cy 0, K', .inl (fun _ => 0))))) H1 → va_D A ((ws ++ [(q, .inl (cy 3, N', .inr (.inr (.inr (.inr (fun i => some (r (0 + i))))))))]) ++ (List.range N').map (fun i => (r i, .inl (cy 0, K', .inl (fun _ => 0))))) → va_S A s.heap H1 locs → W p l e R s m args below meth c H1 locs (cells + 1 + N') (slots + N' + N' * K') Q (F0 m (pc + 4) ls (.ref q :: rest))) : W p l e R s m args below meth c H locs cells slots Q (F0 m pc ls (.int k :: .int n :: rest)) := by
  have e0 : ws ++ va_pl [] (fun _ => (.inr (0, []) : va_E)) = ws := List.append_nil ws
  refine va_mna (X := ws) (L := []) (f := fun _ => .inr (0, [])) (ty := .int) (cy := cy 0) (z := (K', .inl (fun _ => 0))) hx hb hown (by rw [aa_s]; exact hts _ hlk) hKx.2.2 (hts _ (gt_of 217 (by decide +kernel) rfl)) ((hKx.1.2 0 (cy 0, .int) rfl).2) hKx.1 (by rw [e0]; exact hP) (by rw [e0]; exact hD) hS hA hn hk hN hM (by omega) (by show K' * 4 ≤ _; omega) (by omega) rfl rfl hc hs (fun cA => ?_) hdg (fun q r cA H1 hinj hnl hK1 hP1 hD1 hS1 => ?_)
  · rw [vp_cell_i]
    exact arrV_new _ _ _
  · have e := cy_of (k := 3) (fun C z => by cases z) hKx.1 rfl (hK1.2 4 (cA, .array .int) rfl).2
    subst e
    have e1 : va_pl ([] ++ (List.range N').map r) (vr_up (fun _ => (.inr (0, []) : va_E)) ((List.range N').map r) (.inl (cy 0, (K', .inl (fun _ => 0))))) = (List.range N').map (fun i => (r i, .inl (cy 0, K', .inl (fun _ => 0)))) := by
      unfold va_pl
      rw [List.nil_append, List.map_map]
      apply List.map_congr_left
      intro i hi
      show (r i, _) = _
      rw [vr_up_in (List.mem_map.mpr ⟨i, hi, rfl⟩)]
    rw [e1] at hP1 hD1
    refine kk q r H1 (P_swap (grid_at (fun i hi => by rw [if_pos hi, Nat.zero_add])) hP1) (D_map ?_ hD1) hS1
    simp only [List.map_append, List.map_cons, List.map_nil]
theorem n_newiT {n : Int32} {N' : Nat} {x0 : Nat × va_E} {S : va_W} (hx : p.tables.exec = Jvm.exec) (hb : c.code = cc) (hts : ∀ w ∈ gt, w.before args s = true) (hKx : Kx D cy s) (hP : va_P D vwCl (x0 :: S) H) (hD : va_D A (x0 :: S)) (hS : va_S A s.heap H locs) (hA : ∀ x, s.heap.size ≤ x → A x) (hn : ¬ n < 0) (hN : n.toNatClampNeg = N') (hby : N' ≤ 100000) (hc : cells + 1 ≤ R.cells) (hs : slots + N' ≤ R.slots) (hdg : decode cc pc = .ok (.newarray .int, 2))
    (kk : ∀ (q : Nat) (H1 : Heap), va_P D vwCl (x0 :: (S ++ [(q, .inl (cy 0, N', .inl (fun _ => 0)))])) H1 → va_D A (x0 :: (S ++ [(q, .inl (cy 0, N', .inl (fun _ => 0)))])) → va_S A s.heap H1 locs → W p l e R s m args below meth c H1 locs (cells + 1) (slots + N') Q (F0 m (pc + 2) ls (.ref q :: rest))) : W p l e R s m args below meth c H locs cells slots Q (F0 m pc ls (.int n :: rest)) :=
  n_newi hx hb hts hKx hP hD hS hA hn hN hby hc hs hdg kk
theorem n_newbT {n : Int32} {N' : Nat} {x0 : Nat × va_E} {S : va_W} (hx : p.tables.exec = Jvm.exec) (hb : c.code = cc) (hts : ∀ w ∈ gt, w.before args s = true) (hKx : Kx D cy s) (hP : va_P D vwCl (x0 :: S) H) (hD : va_D A (x0 :: S)) (hS : va_S A s.heap H locs) (hA : ∀ x, s.heap.size ≤ x → A x) (hn : ¬ n < 0) (hN : n.toNatClampNeg = N') (hby : N' ≤ 100000) (hc : cells + 1 ≤ R.cells) (hs : slots + N' ≤ R.slots) (hdg : decode cc pc = .ok (.newarray .byte, 2))
    (kk : ∀ (q : Nat) (H1 : Heap), va_P D vwCl (x0 :: (S ++ [(q, .inl (cy 1, N', .inl (fun _ => 0)))])) H1 → va_D A (x0 :: (S ++ [(q, .inl (cy 1, N', .inl (fun _ => 0)))])) → va_S A s.heap H1 locs → W p l e R s m args below meth c H1 locs (cells + 1) (slots + N') Q (F0 m (pc + 2) ls (.ref q :: rest))) : W p l e R s m args below meth c H locs cells slots Q (F0 m pc ls (.int n :: rest)) :=
  n_newb hx hb hts hKx hP hD hS hA hn hN hby hc hs hdg kk
theorem n_newlT {n : Int32} {N' : Nat} {x0 : Nat × va_E} {S : va_W} (hx : p.tables.exec = Jvm.exec) (hb : c.code = cc) (hts : ∀ w ∈ gt, w.before args s = true) (hKx : Kx D cy s) (hP : va_P D vwCl (x0 :: S) H) (hD : va_D A (x0 :: S)) (hS : va_S A s.heap H locs) (hA : ∀ x, s.heap.size ≤ x → A x) (hn : ¬ n < 0) (hN : n.toNatClampNeg = N') (hby : N' ≤ 100000) (hc : cells + 1 ≤ R.cells) (hs : slots + N' ≤ R.slots) (hdg : decode cc pc = .ok (.newarray .long, 2))
    (kk : ∀ (q : Nat) (H1 : Heap), va_P D vwCl (x0 :: (S ++ [(q, .inl (cy 2, N', .inr (.inl (fun _ => 0))))])) H1 → va_D A (x0 :: (S ++ [(q, .inl (cy 2, N', .inr (.inl (fun _ => 0))))])) → va_S A s.heap H1 locs → W p l e R s m args below meth c H1 locs (cells + 1) (slots + N') Q (F0 m (pc + 2) ls (.ref q :: rest))) : W p l e R s m args below meth c H locs cells slots Q (F0 m pc ls (.int n :: rest)) :=
  n_newl hx hb hts hKx hP hD hS hA hn hN hby hc hs hdg kk
theorem n_gridT {n k : Int32} {N' K' index : Nat} {x0 : Nat × va_E} {S : va_W} (hx : p.tables.exec = Jvm.exec) (hb : c.code = cc) (hown : s.vm.findClass own = some m.cls) (hts : ∀ w ∈ gt, w.before args s = true) (hlk : Cond.classLink own index "[[I" ∈ gt) (hKx : Kx D cy s) (hP : va_P D vwCl (x0 :: S) H) (hD : va_D A (x0 :: S)) (hS : va_S A s.heap H locs) (hA : ∀ x, s.heap.size ≤ x → A x) (hn : ¬ n < 0) (hN : n.toNatClampNeg = N') (hk : ¬ k < 0) (hM : k.toNatClampNeg = K') (hby : N' ≤ 1000 ∧ K' ≤ 1000) (hc : cells + (1 + N') ≤ R.cells) (hs : slots + (N' + N' * K') ≤ R.slots) (hdg : decode cc pc = .ok (.multianewarray index 2, 4))
    (kk : ∀ (q : Nat) (r : Nat → Nat) (H1 : Heap), va_P D vwCl (x0 :: ((S ++ [(q, .inl (cy 3, N', .inr (.inr (.inr (.inr (fun i => some (r (0 + i))))))))]) ++ (List.range N').map (fun i => (r i, .inl (cy 0, K', .inl (fun _ => 0)))))) H1 → va_D A (x0 :: ((S ++ [(q, .inl (cy 3, N', .inr (.inr (.inr (.inr (fun i => some (r (0 + i))))))))]) ++ (List.range N').map (fun i => (r i, .inl (cy 0, K', .inl (fun _ => 0)))))) → va_S A s.heap H1 locs → W p l e R s m args below meth c H1 locs (cells + 1 + N') (slots + N' + N' * K') Q (F0 m (pc + 4) ls (.ref q :: rest))) : W p l e R s m args below meth c H locs cells slots Q (F0 m pc ls (.int k :: .int n :: rest)) :=
  n_grid hx hb hown hts hlk hKx hP hD hS hA hn hN hk hM hby hc hs hdg kk
theorem n_callT {y : MethodName} {bytes : ByteArray} {maxL n index mc ms ci : Nat} {rm : Room} {q : Nat} {As : List Value} {Φ : Nat → va_W → Prop} {x0 : Nat × va_E} {S : va_W} (hx : p.tables.exec = Jvm.exec) (hb : c.code = cc) (hml : c.maxLocals = nL) (hown : s.vm.findClass own = some m.cls) (hts : ∀ w ∈ gt, w.before args s = true) (hM : Nk l y bytes maxL rm mc ms ci As cy D Φ)
    (hlk : va_Nw (.methodLinkNest own index y RX7) s ∨ Cond.methodLink own index y ∈ gt) (hw : Cond.initialized y.cls ∈ gt ∧ Cond.instanceMethod y ∈ gt ∧ Cond.code y bytes maxL none ∈ gt) (hy : y.name = "<init>" ∧ y.cls ≠ "java/lang/invoke/MethodHandle" ∧ y.cls ≠ "java/lang/invoke/VarHandle" ∧ (parseMethodDescriptor y.desc).map (fun d => d.parameters.length) = some n) (hn : As.length = n)
    (hR : rm.cells = mc ∧ rm.slots = ms ∧ rm.frames + 1 ≤ R.frames ∧ 8 + (maxL + 11) + rm.locals ≤ R.locals) (hKx : Kx D cy s) (hP : va_P D vwCl ((x0 :: S) ++ [(q, .inr (ci, df ci))]) H) (hD : va_D A ((x0 :: S) ++ [(q, .inr (ci, df ci))])) (hS : va_S A s.heap H locs) (hA : ∀ x, s.heap.size ≤ x → A x) (hls : ls.size = nL) (hst : (rest.map fun v => v.category).sum ≤ 8) (hdg : decode cc pc = .ok (.invokespecial index, 3)) (hf : cells + mc ≤ R.cells ∧ slots + ms ≤ R.slots)
    (kk : ∀ (w : va_W) (H1 : Heap) (locs1 : List Loc), Φ q w → va_P D vwCl (x0 :: (S ++ w)) H1 → va_D A (x0 :: (S ++ w)) → va_S A s.heap H1 locs1 → W p l e R s m args below meth c H1 locs1 (cells + mc) (slots + ms) Q (F0 m (pc + 3) ls rest)) : W p l e R s m args below meth c H locs cells slots Q (F0 m pc ls (As.reverse ++ .ref q :: rest)) :=
  n_call hx hb hml hown hts hM hlk hw hy hn hR hKx hP hD hS hA hls hst hdg hf kk
theorem n_putT {index ci j h0 : Nat} {ty : FieldType} {fin : Bool} {fs : List Value} {v : Value} (hx : p.tables.exec = Jvm.exec) (hb : c.code = cc) (hown : s.vm.findClass own = some m.cls) (hts : ∀ w ∈ gt, w.before args s = true) (hin : meth.name = "<init>") (lk : lkJ own index ci j ty fin) (hKx : Kx D cy s) (hP : va_P D vwCl ((h0, .inr (ci, fs)) :: ws) H) (hD : va_D A ((h0, .inr (ci, fs)) :: ws)) (hS : va_S A s.heap H locs) (hn : narrow ty v = v) (hfit : fits ty v = true) (hl : j < fs.length) (hdg : decode cc pc = .ok (.putfield index, 3)) {fs' : List Value} (hfs : fs.set j v = fs')
    (kk : ∀ (H1 : Heap) (locs1 : List Loc), va_P D vwCl ((h0, .inr (ci, fs')) :: ws) H1 → va_D A ((h0, .inr (ci, fs')) :: ws) → va_S A s.heap H1 locs1 → W p l e R s m args below meth c H1 locs1 cells slots Q (F0 m (pc + 3) ls rest)) : W p l e R s m args below meth c H locs cells slots Q (F0 m pc ls (v :: .ref h0 :: rest)) := by
  subst hfs
  exact n_put hx hb hown hts hin lk hKx hP hD hS hn hfit hl hdg kk
end MAKE
