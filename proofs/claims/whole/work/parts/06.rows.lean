/-- the words that stay good, whatever is warmed -/
def gt : List Cond := lw_tbl.filter goodWord
theorem gt_good : ∀ w ∈ gt, (w.onTables && w.keeps) = true ∨ ∃ ty, w = .arrayClass ty := fun _ h => good_of_word (List.mem_filter.mp h).2
theorem gt_in {ws : List Cond} (h : ∀ w ∈ ws, w ∈ gt) : GoodIn gt ws := fun w hw => ⟨h w hw, gt_good w (h w hw)⟩
theorem gt_of {w : Cond} (i : Nat) (h : lw_tbl[i]? = some w) (hg : goodWord w = true) : w ∈ gt := List.mem_filter.mpr ⟨List.mem_of_getElem? h, hg⟩
theorem gt_tb {w : Cond} (h : w ∈ gt) : w ∈ lw_tbl := (List.mem_filter.mp h).1
def nestL : List Cond := [.methodLinkNest RX1 120 yX7_isBelow RX7, .methodLinkNest RX1 96 yX7_has RX7, .methodLinkNest RX2 56 yX7_odd RX7, .methodLinkNest RX4 160 yX7_has RX7, .methodLinkNest RX4 197 yX7_odd RX7, .methodLinkNest RX4 208 yX7_isBelow RX7, .methodLinkNest RX5 55 yX7_isBelow RX7]
def strL : List (String × Nat × String × Nat) := [(RX3, 64, "bus", 0), (RX3, 90, "gate", 1), (RX3, 104, "filter", 2), (RX3, 108, "window", 3), (RX3, 77, "board", 4), (RX3, 79, "ask", 5), (RX3, 119, "slot", 6), (RX3, 124, "code", 7), (RX3, 129, "rank", 8), (RX8, 120, "bus", 0), (RX8, 138, "gate", 1), (RX8, 144, "filter", 2), (RX8, 146, "window", 3), (RX8, 122, "board", 4), (RX8, 124, "ask", 5), (RX8, 159, "slot", 6), (RX8, 164, "code", 7), (RX8, 166, "rank", 8), (RX7, 294, "no such board", 9)]
def lenS : List Nat := [3, 4, 6, 6, 5, 3, 4, 4, 4, 13]
def bytS : List (List Int32) := [[98, 117, 115], [103, 97, 116, 101], [102, 105, 108, 116, 101, 114], [119, 105, 110, 100, 111, 119], [98, 111, 97, 114, 100], [97, 115, 107], [115, 108, 111, 116], [99, 111, 100, 101], [114, 97, 110, 107], [110, 111, 32, 115, 117, 99, 104, 32, 98, 111, 97, 114, 100]]
/-- what lies outside the system's own cells and is only read: nest words, text constants, the statics that texts ask -/
def Ext (ad : Nat → Nat → Nat) (adK adV : Nat → Nat) (U : State) (H : Heap) : Prop :=
  (∀ w ∈ nestL, va_Nw w U) ∧ (∀ q ∈ strL, vk_R q.1 q.2.1 q.2.2.1 (adK q.2.2.2) U) ∧ vk_S 10 lenS bytS adK adV (inA ad) U H ∧ va_Z "java/lang/String" "COMPACT_STRINGS" "Z" (.int 1) (inA ad) U H ∧ va_Zq "jdk/internal/util/Preconditions" "SIOOBE_FORMATTER" "Ljava/util/function/BiFunction;" (inA ad) U H
theorem nest_warm {s U : State} (hW : s.WarmedH U.vm) (h : ∀ w ∈ nestL, va_Nw w s) : ∀ w ∈ nestL, va_Nw w U := by
  intro w hw
  have h1 := h w hw
  simp only [nestL, List.mem_cons, List.not_mem_nil, or_false] at hw
  rcases hw with rfl | rfl | rfl | rfl | rfl | rfl | rfl <;> exact va_Nw.warmM hW h1
theorem nest_same {u U : State} (hv : u.vm = U.vm) (h : ∀ w ∈ nestL, va_Nw w u) : ∀ w ∈ nestL, va_Nw w U := by
  intro w hw
  have h1 := h w hw
  simp only [nestL, List.mem_cons, List.not_mem_nil, or_false] at hw
  rcases hw with rfl | rfl | rfl | rfl | rfl | rfl | rfl <;> exact va_Nw.same rfl hv h1
theorem Ext.warm {ad : Nat → Nat → Nat} {adK adV : Nat → Nat} {s U : State} {H : Heap} (hW : s.WarmedH U.vm) (h : Ext ad adK adV s H) : Ext ad adK adV U H :=
  ⟨nest_warm hW h.1, fun q hq => vk_R.warm hW (h.2.1 q hq), vk_S.moved hW.alike h.2.2.1, va_Z.moved hW.alike h.2.2.2.1, va_Zq.moved hW.alike h.2.2.2.2⟩
theorem Ext.same {ad : Nat → Nat → Nat} {adK adV : Nat → Nat} {u U : State} {H : Heap} (hv : u.vm = U.vm) (h : Ext ad adK adV u H) : Ext ad adK adV U H :=
  have ha : u.vm.Alike U.vm := hv ▸ Vm.Alike.refl u.vm
  ⟨nest_same hv h.1, fun q hq => vk_R.same hv.symm (h.2.1 q hq), vk_S.moved ha h.2.2.1, va_Z.moved ha h.2.2.2.1, va_Zq.moved ha h.2.2.2.2⟩
theorem Ext.kept {ad : Nat → Nat → Nat} {adK adV : Nat → Nat} {U : State} {H H1 : Heap} (hq : ∀ a : Nat, a < H.size → ¬ inA ad a → H1[a]? = H[a]?) (h : Ext ad adK adV U H) : Ext ad adK adV U H1 :=
  ⟨h.1, h.2.1, h.2.2.1.kept hq, h.2.2.2.1.kept hq, h.2.2.2.2.kept hq⟩
/-- the world at a method's start -/
def Wd (ad : Nat → Nat → Nat) (cy : Nat → ClassId) (D : va_G) (adK adV : Nat → Nat) (σ : St) (U : State) : Prop :=
  va_P D vwCl (wsO ad cy σ) U.heap ∧ va_K D vwCl (tysO cy) U ∧ va_D (inA ad) (wsO ad cy z0) ∧ Ext ad adK adV U U.heap
theorem Wd.blind {ad : Nat → Nat → Nat} {cy : Nat → ClassId} {D : va_G} {adK adV : Nat → Nat} {σ : St} {av : List Value} : FrameBlind (va_Pc av (Wd ad cy D adK adV σ)) := by
  intro a U g mk h
  obtain ⟨h0, h1, h2, h3, h4⟩ := h
  exact ⟨h0, h1, va_K.moved (u := U) (U := U.calling g mk a) (Vm.Alike.refl U.vm) h2, h3, Ext.same (u := U) (U := U.calling g mk a) rfl h4⟩
/-- room for so many calls one in another -/
def rmD (d : Nat) : Room := { frames := d, cells := 0, slots := 0, locals := 40 * d }
abbrev Cx : Type := (Program × Launch × Env × Room × State × MethodId) × (Array Value × List Frame × Method × Code × Nat × Nat) × (Option Value → St → State → Prop) × (Nat → Nat → Nat) × (Nat → ClassId) × va_G × (Nat → Nat) × (Nat → Nat)
abbrev adr (X : Cx) : Nat → Nat → Nat := X.2.2.2.1
abbrev adS (X : Cx) : Nat → Nat := X.2.2.2.2.2.2.1
/-- from here on: if the pure reading of the code says 'res', the machine comes to it -/
def V {R : Type} (X : Cx) (g : R → Option Value) (pc : Nat) (lv : List (Nat × Value)) (st : List Value) (σ : St) (res : Option (R × St)) : Prop :=
  match X with
  | ((p, l, e, Rm, s, m), (args, below, meth, c, cells, slots), Q, ad, cy, D, _, _) =>
    ∀ (r : R) (σ' : St), res = some (r, σ') → ∀ (H : Heap) (locs : List Loc) (ls : Array Slot), va_P D vwCl (wsO ad cy σ) H → va_S (inA ad) s.heap H locs → lv_has ls c.maxLocals lv →
      W p l e Rm s m args below meth c H locs cells slots (Q (g r) σ') (F0 m pc ls st)
/-- what a walk needs of its frame: d calls may stand one in another -/
def Ok (X : Cx) (own : String) (cc : ByteArray) (nL d : Nat) : Prop :=
  match X with
  | ((p, _, _, Rm, s, m), (args, _, _, c, cells, slots), _, ad, cy, D, adK, adV) =>
    p.tables.exec = Jvm.exec ∧ c.code = cc ∧ c.maxLocals = nL ∧ s.vm.findClass own = some m.cls ∧ (∀ w ∈ gt, w.before args s = true) ∧ va_K D vwCl (tysO cy) s ∧ va_D (inA ad) (wsO ad cy z0) ∧ Ext ad adK adV s s.heap ∧ d ≤ Rm.frames ∧ 40 * d ≤ Rm.locals ∧ cells ≤ Rm.cells ∧ slots ≤ Rm.slots
/-- a method's post: it answers rv, the world is σ' -/
def Po (ad : Nat → Nat → Nat) (cy : Nat → ClassId) (D : va_G) (rv : Option Value) (σ' : St) : Array Value → State → Outcome → State → Prop :=
  fun _ st oc t => (oc = .returned rv ∧ va_P D vwCl (wsO ad cy σ') t.heap) ∧ va_F (inA ad) st t
def OkM (X : Cx) (ret : Option FieldType) : Prop :=
  match X with
  | ((_, _, _, _, s, _), (args, below, meth, _, cells, slots), Q, ad, cy, D, _, _) =>
    cells = 0 ∧ slots = 0 ∧ meth.sig.returnType = ret ∧ meth.locks = false ∧ Q = fun rv σ' => MQ below (Po ad cy D rv σ') args s 0 0 (inA ad)
/-- a method's contract: what the pure reading says, it does -/
def Kon {R : Type} (X : Cx) (d : Nat) (y : MethodName) (bytes : ByteArray) (maxL : Nat) (ret : Option FieldType) (g : R → Option Value) (as : List Value) (σ : St) (fy : Option (R × St)) : Prop :=
  match X with
  | ((_, l, _, _, _, _), _, _, ad, cy, D, adK, adV) =>
    ∀ (r : R) (σ' : St), fy = some (r, σ') → Met l y (.code y bytes maxL ret :: gt) (rmD d) (va_Pc as (Wd ad cy D adK adV σ)) (Po ad cy D (g r) σ') 0 0 (inA ad)
/-- the two contexts speak of one world -/
def Sm (X Y : Cx) : Prop := X.1.2.1 = Y.1.2.1 ∧ X.2.2.2 = Y.2.2.2
theorem konI {R : Type} {X : Cx} {d : Nat} {y : MethodName} {bytes : ByteArray} {maxL : Nat} {ret : Option FieldType} {g : R → Option Value} {as : List Value} {σ : St} {fy : Option (R × St)} {own : String} (hy : plainName y.cls = true) (ho : y.cls = own) (hm : (lg_sl as).length ≤ maxL)
    (h : ∀ Y : Cx, Sm X Y → Ok Y own bytes maxL d → OkM Y ret → V Y g 0 (lv_args 0 as) [] σ fy) : Kon X d y bytes maxL ret g as σ fy := by
  obtain ⟨⟨p0, l, e0, R0, s0, m0⟩, X2, Q0, ad, cy, D, adK, adV⟩ := X
  intro r σ' hr
  refine Met.ofW (cc := bytes) (maxL := maxL) (ret := ret) hy rfl ?_
  intro p e s m args below meth c s₁ B hml hv
  obtain ⟨rfl, hP, hK, hD, hE⟩ := hv
  have hts := atoms_spec (ws := .code y bytes maxL ret :: gt) B.pre
  have hown : s.vm.findClass y.cls = some m.cls := findClass_of_methodNamed B.named
  rw [ho] at hown
  have hl := lv_entry as (n := maxL) hm
  rw [lg_entry_eq]
  exact h ((p, l, e, rmD d, s, m), (as.toArray, below, meth, c, 0, 0), (fun rv σ' => MQ below (Po ad cy D rv σ') as.toArray s 0 0 (inA ad)), ad, cy, D, adK, adV) ⟨rfl, rfl⟩
    ⟨B.exec, B.bytes, hml, hown, fun w hw => hts w (List.mem_cons_of_mem _ hw), hK, hD, hE, Nat.le_refl _, Nat.le_refl _, Nat.le_refl _, Nat.le_refl _⟩
    ⟨rfl, rfl, B.returns, B.notSynchronized, rfl⟩ r σ' hr s.heap [] _ hP va_S.rf (by rw [hml]; exact hl)
section VROWS
variable {R : Type} {X : Cx} {g : R → Option Value} {own : String} {cc : ByteArray} {nL d pc : Nat} {lv lv' : List (Nat × Value)} {st : List Value} {σ : St} {res : Option (R × St)}
theorem v_none : V X g pc lv st σ none := by
  obtain ⟨⟨p, l, e, Rm, s, m⟩, ⟨args, below, meth, c, cells, slots⟩, Q, ad, cy, D, adK, adV⟩ := X
  intro r σ' h
  cases h
theorem v_lv (h : V X g pc lv' st σ res) (ks : List Nat) (hl : lv_pick lv ks = lv') : V X g pc lv st σ res := by
  obtain ⟨⟨p, l, e, Rm, s, m⟩, ⟨args, below, meth, c, cells, slots⟩, Q, ad, cy, D, adK, adV⟩ := X
  intro r σ' hr H locs ls hP hS hlv
  exact h r σ' hr H locs ls hP hS (lv_sub hlv ks hl)
theorem v_iconst {n : Int} {v : Int32} (C : Ok X own cc nL d) (hd : decode cc pc = .ok (.iconst n, 1)) (hv : Int32.ofInt n = v) (h : V X g (pc + 1) lv (.int v :: st) σ res) : V X g pc lv st σ res := by
  obtain ⟨⟨p, l, e, Rm, s, m⟩, ⟨args, below, meth, c, cells, slots⟩, Q, ad, cy, D, adK, adV⟩ := X
  obtain ⟨hx, hb, hml, hown, hts, hK, hD, hE, hfr, hlo, hcl, hsl⟩ := C
  intro r σ' hr H locs ls hP hS hlv
  exact lv_iconst hx hb hd hv (h r σ' hr H locs ls hP hS hlv)
theorem v_bipush {n : Int} {v : Int32} (C : Ok X own cc nL d) (hd : decode cc pc = .ok (.bipush n, 2)) (hv : (Int8.ofInt n).toInt32 = v) (h : V X g (pc + 2) lv (.int v :: st) σ res) : V X g pc lv st σ res := by
  obtain ⟨⟨p, l, e, Rm, s, m⟩, ⟨args, below, meth, c, cells, slots⟩, Q, ad, cy, D, adK, adV⟩ := X
  obtain ⟨hx, hb, hml, hown, hts, hK, hD, hE, hfr, hlo, hcl, hsl⟩ := C
  intro r σ' hr H locs ls hP hS hlv
  exact lv_bipush hx hb hd hv (h r σ' hr H locs ls hP hS hlv)
theorem v_sipush {n : Int} {v : Int32} (C : Ok X own cc nL d) (hd : decode cc pc = .ok (.sipush n, 3)) (hv : (Int16.ofInt n).toInt32 = v) (h : V X g (pc + 3) lv (.int v :: st) σ res) : V X g pc lv st σ res := by
  obtain ⟨⟨p, l, e, Rm, s, m⟩, ⟨args, below, meth, c, cells, slots⟩, Q, ad, cy, D, adK, adV⟩ := X
  obtain ⟨hx, hb, hml, hown, hts, hK, hD, hE, hfr, hlo, hcl, hsl⟩ := C
  intro r σ' hr H locs ls hP hS hlv
  exact lv_sipush hx hb hd hv (h r σ' hr H locs ls hP hS hlv)
theorem v_lconst {n : Fin 2} {v : Int64} (C : Ok X own cc nL d) (hd : decode cc pc = .ok (.lconst n, 1)) (hv : Int64.ofNat (n : Nat) = v) (h : V X g (pc + 1) lv (.long v :: st) σ res) : V X g pc lv st σ res := by
  obtain ⟨⟨p, l, e, Rm, s, m⟩, ⟨args, below, meth, c, cells, slots⟩, Q, ad, cy, D, adK, adV⟩ := X
  obtain ⟨hx, hb, hml, hown, hts, hK, hD, hE, hfr, hlo, hcl, hsl⟩ := C
  intro r σ' hr H locs ls hP hS hlv
  exact lv_lconst hx hb hd hv (h r σ' hr H locs ls hP hS hlv)
theorem v_ldc_w {index : Nat} {v : Int32} (C : Ok X own cc nL d) (hd : decode cc pc = .ok (.ldc_w index, 3)) (hw : Cond.constant own index v ∈ gt) (h : V X g (pc + 3) lv (.int v :: st) σ res) : V X g pc lv st σ res := by
  obtain ⟨⟨p, l, e, Rm, s, m⟩, ⟨args, below, meth, c, cells, slots⟩, Q, ad, cy, D, adK, adV⟩ := X
  obtain ⟨hx, hb, hml, hown, hts, hK, hD, hE, hfr, hlo, hcl, hsl⟩ := C
  intro r σ' hr H locs ls hP hS hlv
  exact lv_ldcw hx hb hown (hts _ hw) hd (h r σ' hr H locs ls hP hS hlv)
theorem v_ldc2 {index : Nat} {v : Int64} (C : Ok X own cc nL d) (hd : decode cc pc = .ok (.ldc2_w index, 3)) (hw : Cond.constantLong own index v ∈ gt) (h : V X g (pc + 3) lv (.long v :: st) σ res) : V X g pc lv st σ res := by
  obtain ⟨⟨p, l, e, Rm, s, m⟩, ⟨args, below, meth, c, cells, slots⟩, Q, ad, cy, D, adK, adV⟩ := X
  obtain ⟨hx, hb, hml, hown, hts, hK, hD, hE, hfr, hlo, hcl, hsl⟩ := C
  intro r σ' hr H locs ls hP hS hlv
  exact lv_ldc2 hx hb hown (hts _ hw) hd (h r σ' hr H locs ls hP hS hlv)
theorem v_ldcS {index i : Nat} {tx : String} (C : Ok X own cc nL d) (hd : decode cc pc = .ok (.ldc index, 2)) (hw : (own, index, tx, i) ∈ strL) (h : V X g (pc + 2) lv (.ref (adS X i) :: st) σ res) : V X g pc lv st σ res := by
  obtain ⟨⟨p, l, e, Rm, s, m⟩, ⟨args, below, meth, c, cells, slots⟩, Q, ad, cy, D, adK, adV⟩ := X
  obtain ⟨hx, hb, hml, hown, hts, hK, hD, hE, hfr, hlo, hcl, hsl⟩ := C
  intro r σ' hr H locs ls hP hS hlv
  exact va_ldcS hx hb hown (hE.2.1 _ hw) hd (h r σ' hr H locs ls hP hS hlv)
theorem v_iload_n {k : Fin 4} {x : Int32} (i : Nat) (C : Ok X own cc nL d) (hd : decode cc pc = .ok (.iload_n k, 1)) (hl : lv[i]? = some ((k : Nat), .int x)) (h : V X g (pc + 1) lv (.int x :: st) σ res) : V X g pc lv st σ res := by
  obtain ⟨⟨p, l, e, Rm, s, m⟩, ⟨args, below, meth, c, cells, slots⟩, Q, ad, cy, D, adK, adV⟩ := X
  obtain ⟨hx, hb, hml, hown, hts, hK, hD, hE, hfr, hlo, hcl, hsl⟩ := C
  intro r σ' hr H locs ls hP hS hlv
  exact lv_iload_n hx hb hd rfl (lv_at hlv i hl) (h r σ' hr H locs ls hP hS hlv)
theorem v_iload {k : Nat} {x : Int32} (i : Nat) (C : Ok X own cc nL d) (hd : decode cc pc = .ok (.iload k, 2)) (hl : lv[i]? = some (k, .int x)) (h : V X g (pc + 2) lv (.int x :: st) σ res) : V X g pc lv st σ res := by
  obtain ⟨⟨p, l, e, Rm, s, m⟩, ⟨args, below, meth, c, cells, slots⟩, Q, ad, cy, D, adK, adV⟩ := X
  obtain ⟨hx, hb, hml, hown, hts, hK, hD, hE, hfr, hlo, hcl, hsl⟩ := C
  intro r σ' hr H locs ls hP hS hlv
  exact lv_iload hx hb hd (lv_at hlv i hl) (h r σ' hr H locs ls hP hS hlv)
theorem v_lload_n {k : Fin 4} {x : Int64} (i : Nat) (C : Ok X own cc nL d) (hd : decode cc pc = .ok (.lload_n k, 1)) (hl : lv[i]? = some ((k : Nat), .long x)) (h : V X g (pc + 1) lv (.long x :: st) σ res) : V X g pc lv st σ res := by
  obtain ⟨⟨p, l, e, Rm, s, m⟩, ⟨args, below, meth, c, cells, slots⟩, Q, ad, cy, D, adK, adV⟩ := X
  obtain ⟨hx, hb, hml, hown, hts, hK, hD, hE, hfr, hlo, hcl, hsl⟩ := C
  intro r σ' hr H locs ls hP hS hlv
  exact lv_lload_n hx hb hd rfl (lv_at hlv i hl) (h r σ' hr H locs ls hP hS hlv)
theorem v_lload {k : Nat} {x : Int64} (i : Nat) (C : Ok X own cc nL d) (hd : decode cc pc = .ok (.lload k, 2)) (hl : lv[i]? = some (k, .long x)) (h : V X g (pc + 2) lv (.long x :: st) σ res) : V X g pc lv st σ res := by
  obtain ⟨⟨p, l, e, Rm, s, m⟩, ⟨args, below, meth, c, cells, slots⟩, Q, ad, cy, D, adK, adV⟩ := X
  obtain ⟨hx, hb, hml, hown, hts, hK, hD, hE, hfr, hlo, hcl, hsl⟩ := C
  intro r σ' hr H locs ls hP hS hlv
  exact lv_lload hx hb hd (lv_at hlv i hl) (h r σ' hr H locs ls hP hS hlv)
theorem v_aload_n {k : Fin 4} {x : Nat} (i : Nat) (C : Ok X own cc nL d) (hd : decode cc pc = .ok (.aload_n k, 1)) (hl : lv[i]? = some ((k : Nat), .ref x)) (h : V X g (pc + 1) lv (.ref x :: st) σ res) : V X g pc lv st σ res := by
  obtain ⟨⟨p, l, e, Rm, s, m⟩, ⟨args, below, meth, c, cells, slots⟩, Q, ad, cy, D, adK, adV⟩ := X
  obtain ⟨hx, hb, hml, hown, hts, hK, hD, hE, hfr, hlo, hcl, hsl⟩ := C
  intro r σ' hr H locs ls hP hS hlv
  exact lv_aload_n hx hb hd rfl (lv_at hlv i hl) (h r σ' hr H locs ls hP hS hlv)
theorem v_aload {k : Nat} {x : Nat} (i : Nat) (C : Ok X own cc nL d) (hd : decode cc pc = .ok (.aload k, 2)) (hl : lv[i]? = some (k, .ref x)) (h : V X g (pc + 2) lv (.ref x :: st) σ res) : V X g pc lv st σ res := by
  obtain ⟨⟨p, l, e, Rm, s, m⟩, ⟨args, below, meth, c, cells, slots⟩, Q, ad, cy, D, adK, adV⟩ := X
  obtain ⟨hx, hb, hml, hown, hts, hK, hD, hE, hfr, hlo, hcl, hsl⟩ := C
  intro r σ' hr H locs ls hP hS hlv
  exact lv_aload hx hb hd (lv_at hlv i hl) (h r σ' hr H locs ls hP hS hlv)
theorem v_istore_n {k : Fin 4} {i : Nat} {x : Int32} (C : Ok X own cc nL d) (hd : decode cc pc = .ok (.istore_n k, 1)) (hi : (k : Nat) = i) (hn : i < nL) (hl : (i, Value.int x) :: lv.filter (fun q => !(q.1 == i) && !(q.1 + 1 == i && q.2.category == 2)) = lv') (h : V X g (pc + 1) lv' st σ res) : V X g pc lv (.int x :: st) σ res := by
  obtain ⟨⟨p, l, e, Rm, s, m⟩, ⟨args, below, meth, c, cells, slots⟩, Q, ad, cy, D, adK, adV⟩ := X
  obtain ⟨hx, hb, hml, hown, hts, hK, hD, hE, hfr, hlo, hcl, hsl⟩ := C
  intro r σ' hr H locs ls hP hS hlv
  exact lv_istore_n hx hb hd hi hlv (by rw [hml]; exact hn) hl (fun ls hlv => h r σ' hr H locs ls hP hS hlv)
theorem v_istore {i : Nat} {x : Int32} (C : Ok X own cc nL d) (hd : decode cc pc = .ok (.istore i, 2)) (hn : i < nL) (hl : (i, Value.int x) :: lv.filter (fun q => !(q.1 == i) && !(q.1 + 1 == i && q.2.category == 2)) = lv') (h : V X g (pc + 2) lv' st σ res) : V X g pc lv (.int x :: st) σ res := by
  obtain ⟨⟨p, l, e, Rm, s, m⟩, ⟨args, below, meth, c, cells, slots⟩, Q, ad, cy, D, adK, adV⟩ := X
  obtain ⟨hx, hb, hml, hown, hts, hK, hD, hE, hfr, hlo, hcl, hsl⟩ := C
  intro r σ' hr H locs ls hP hS hlv
  exact lv_istore hx hb hd hlv (by rw [hml]; exact hn) hl (fun ls hlv => h r σ' hr H locs ls hP hS hlv)
theorem v_astore_n {k : Fin 4} {i : Nat} {x : Nat} (C : Ok X own cc nL d) (hd : decode cc pc = .ok (.astore_n k, 1)) (hi : (k : Nat) = i) (hn : i < nL) (hl : (i, Value.ref x) :: lv.filter (fun q => !(q.1 == i) && !(q.1 + 1 == i && q.2.category == 2)) = lv') (h : V X g (pc + 1) lv' st σ res) : V X g pc lv (.ref x :: st) σ res := by
  obtain ⟨⟨p, l, e, Rm, s, m⟩, ⟨args, below, meth, c, cells, slots⟩, Q, ad, cy, D, adK, adV⟩ := X
  obtain ⟨hx, hb, hml, hown, hts, hK, hD, hE, hfr, hlo, hcl, hsl⟩ := C
  intro r σ' hr H locs ls hP hS hlv
  exact lv_astore_n hx hb hd hi hlv (by rw [hml]; exact hn) hl (fun ls hlv => h r σ' hr H locs ls hP hS hlv)
theorem v_astore {i : Nat} {x : Nat} (C : Ok X own cc nL d) (hd : decode cc pc = .ok (.astore i, 2)) (hn : i < nL) (hl : (i, Value.ref x) :: lv.filter (fun q => !(q.1 == i) && !(q.1 + 1 == i && q.2.category == 2)) = lv') (h : V X g (pc + 2) lv' st σ res) : V X g pc lv (.ref x :: st) σ res := by
  obtain ⟨⟨p, l, e, Rm, s, m⟩, ⟨args, below, meth, c, cells, slots⟩, Q, ad, cy, D, adK, adV⟩ := X
  obtain ⟨hx, hb, hml, hown, hts, hK, hD, hE, hfr, hlo, hcl, hsl⟩ := C
  intro r σ' hr H locs ls hP hS hlv
  exact lv_astore hx hb hd hlv (by rw [hml]; exact hn) hl (fun ls hlv => h r σ' hr H locs ls hP hS hlv)
theorem v_lstore_n {k : Fin 4} {i : Nat} {x : Int64} (C : Ok X own cc nL d) (hd : decode cc pc = .ok (.lstore_n k, 1)) (hi : (k : Nat) = i) (hn : i + 1 < nL) (hl : (i, Value.long x) :: lv.filter (fun q => !(q.1 == i) && (!(q.1 == i + 1) && !(q.1 + 1 == i && q.2.category == 2))) = lv') (h : V X g (pc + 1) lv' st σ res) : V X g pc lv (.long x :: st) σ res := by
  obtain ⟨⟨p, l, e, Rm, s, m⟩, ⟨args, below, meth, c, cells, slots⟩, Q, ad, cy, D, adK, adV⟩ := X
  obtain ⟨hx, hb, hml, hown, hts, hK, hD, hE, hfr, hlo, hcl, hsl⟩ := C
  intro r σ' hr H locs ls hP hS hlv
  exact lv_lstore_n hx hb hd hi hlv (by rw [hml]; exact hn) hl (fun ls hlv => h r σ' hr H locs ls hP hS hlv)
theorem v_lstore {i : Nat} {x : Int64} (C : Ok X own cc nL d) (hd : decode cc pc = .ok (.lstore i, 2)) (hn : i + 1 < nL) (hl : (i, Value.long x) :: lv.filter (fun q => !(q.1 == i) && (!(q.1 == i + 1) && !(q.1 + 1 == i && q.2.category == 2))) = lv') (h : V X g (pc + 2) lv' st σ res) : V X g pc lv (.long x :: st) σ res := by
  obtain ⟨⟨p, l, e, Rm, s, m⟩, ⟨args, below, meth, c, cells, slots⟩, Q, ad, cy, D, adK, adV⟩ := X
  obtain ⟨hx, hb, hml, hown, hts, hK, hD, hE, hfr, hlo, hcl, hsl⟩ := C
  intro r σ' hr H locs ls hP hS hlv
  exact lv_lstore hx hb hd hlv (by rw [hml]; exact hn) hl (fun ls hlv => h r σ' hr H locs ls hP hS hlv)
theorem v_iinc {i : Nat} {n : Int} {x v : Int32} (k : Nat) (C : Ok X own cc nL d) (hd : decode cc pc = .ok (.iinc i n, 3)) (hk : lv[k]? = some (i, .int x)) (hv : x + Int32.ofInt n = v) (hn : i < nL) (hl : (i, Value.int v) :: lv.filter (fun q => !(q.1 == i) && !(q.1 + 1 == i && q.2.category == 2)) = lv') (h : V X g (pc + 3) lv' st σ res) : V X g pc lv st σ res := by
  obtain ⟨⟨p, l, e, Rm, s, m⟩, ⟨args, below, meth, c, cells, slots⟩, Q, ad, cy, D, adK, adV⟩ := X
  obtain ⟨hx, hb, hml, hown, hts, hK, hD, hE, hfr, hlo, hcl, hsl⟩ := C
  intro r σ' hr H locs ls hP hS hlv
  exact lv_iinc hx hb hd hlv hk hv (by rw [hml]; exact hn) hl (fun ls hlv => h r σ' hr H locs ls hP hS hlv)
theorem v_iadd {x y : Int32} (C : Ok X own cc nL d) (hd : decode cc pc = .ok (.iadd, 1)) (h : V X g (pc + 1) lv (.int (x + y) :: st) σ res) : V X g pc lv (.int y :: .int x :: st) σ res := by
  obtain ⟨⟨p, l, e, Rm, s, m⟩, ⟨args, below, meth, c, cells, slots⟩, Q, ad, cy, D, adK, adV⟩ := X
  obtain ⟨hx, hb, hml, hown, hts, hK, hD, hE, hfr, hlo, hcl, hsl⟩ := C
  intro r σ' hr H locs ls hP hS hlv
  exact lv_iadd hx hb hd (h r σ' hr H locs ls hP hS hlv)
theorem v_isub {x y : Int32} (C : Ok X own cc nL d) (hd : decode cc pc = .ok (.isub, 1)) (h : V X g (pc + 1) lv (.int (x - y) :: st) σ res) : V X g pc lv (.int y :: .int x :: st) σ res := by
  obtain ⟨⟨p, l, e, Rm, s, m⟩, ⟨args, below, meth, c, cells, slots⟩, Q, ad, cy, D, adK, adV⟩ := X
  obtain ⟨hx, hb, hml, hown, hts, hK, hD, hE, hfr, hlo, hcl, hsl⟩ := C
  intro r σ' hr H locs ls hP hS hlv
  exact lv_isub hx hb hd (h r σ' hr H locs ls hP hS hlv)
theorem v_imul {x y : Int32} (C : Ok X own cc nL d) (hd : decode cc pc = .ok (.imul, 1)) (h : V X g (pc + 1) lv (.int (x * y) :: st) σ res) : V X g pc lv (.int y :: .int x :: st) σ res := by
  obtain ⟨⟨p, l, e, Rm, s, m⟩, ⟨args, below, meth, c, cells, slots⟩, Q, ad, cy, D, adK, adV⟩ := X
  obtain ⟨hx, hb, hml, hown, hts, hK, hD, hE, hfr, hlo, hcl, hsl⟩ := C
  intro r σ' hr H locs ls hP hS hlv
  exact lv_imul hx hb hd (h r σ' hr H locs ls hP hS hlv)
theorem v_iand {x y : Int32} (C : Ok X own cc nL d) (hd : decode cc pc = .ok (.iand, 1)) (h : V X g (pc + 1) lv (.int (x &&& y) :: st) σ res) : V X g pc lv (.int y :: .int x :: st) σ res := by
  obtain ⟨⟨p, l, e, Rm, s, m⟩, ⟨args, below, meth, c, cells, slots⟩, Q, ad, cy, D, adK, adV⟩ := X
  obtain ⟨hx, hb, hml, hown, hts, hK, hD, hE, hfr, hlo, hcl, hsl⟩ := C
  intro r σ' hr H locs ls hP hS hlv
  exact lv_iand hx hb hd (h r σ' hr H locs ls hP hS hlv)
theorem v_ior {x y : Int32} (C : Ok X own cc nL d) (hd : decode cc pc = .ok (.ior, 1)) (h : V X g (pc + 1) lv (.int (x ||| y) :: st) σ res) : V X g pc lv (.int y :: .int x :: st) σ res := by
  obtain ⟨⟨p, l, e, Rm, s, m⟩, ⟨args, below, meth, c, cells, slots⟩, Q, ad, cy, D, adK, adV⟩ := X
  obtain ⟨hx, hb, hml, hown, hts, hK, hD, hE, hfr, hlo, hcl, hsl⟩ := C
  intro r σ' hr H locs ls hP hS hlv
  exact lv_ior hx hb hd (h r σ' hr H locs ls hP hS hlv)
theorem v_ixor {x y : Int32} (C : Ok X own cc nL d) (hd : decode cc pc = .ok (.ixor, 1)) (h : V X g (pc + 1) lv (.int (x ^^^ y) :: st) σ res) : V X g pc lv (.int y :: .int x :: st) σ res := by
  obtain ⟨⟨p, l, e, Rm, s, m⟩, ⟨args, below, meth, c, cells, slots⟩, Q, ad, cy, D, adK, adV⟩ := X
  obtain ⟨hx, hb, hml, hown, hts, hK, hD, hE, hfr, hlo, hcl, hsl⟩ := C
  intro r σ' hr H locs ls hP hS hlv
  exact lv_ixor hx hb hd (h r σ' hr H locs ls hP hS hlv)
theorem v_ishl {x y : Int32} (C : Ok X own cc nL d) (hd : decode cc pc = .ok (.ishl, 1)) (h : V X g (pc + 1) lv (.int (x <<< (y &&& 31)) :: st) σ res) : V X g pc lv (.int y :: .int x :: st) σ res := by
  obtain ⟨⟨p, l, e, Rm, s, m⟩, ⟨args, below, meth, c, cells, slots⟩, Q, ad, cy, D, adK, adV⟩ := X
  obtain ⟨hx, hb, hml, hown, hts, hK, hD, hE, hfr, hlo, hcl, hsl⟩ := C
  intro r σ' hr H locs ls hP hS hlv
  exact lv_ishl hx hb hd (h r σ' hr H locs ls hP hS hlv)
theorem v_ishr {x y : Int32} (C : Ok X own cc nL d) (hd : decode cc pc = .ok (.ishr, 1)) (h : V X g (pc + 1) lv (.int (x >>> (y &&& 31)) :: st) σ res) : V X g pc lv (.int y :: .int x :: st) σ res := by
  obtain ⟨⟨p, l, e, Rm, s, m⟩, ⟨args, below, meth, c, cells, slots⟩, Q, ad, cy, D, adK, adV⟩ := X
  obtain ⟨hx, hb, hml, hown, hts, hK, hD, hE, hfr, hlo, hcl, hsl⟩ := C
  intro r σ' hr H locs ls hP hS hlv
  exact lv_ishr hx hb hd (h r σ' hr H locs ls hP hS hlv)
theorem v_ladd {x y : Int64} (C : Ok X own cc nL d) (hd : decode cc pc = .ok (.ladd, 1)) (h : V X g (pc + 1) lv (.long (x + y) :: st) σ res) : V X g pc lv (.long y :: .long x :: st) σ res := by
  obtain ⟨⟨p, l, e, Rm, s, m⟩, ⟨args, below, meth, c, cells, slots⟩, Q, ad, cy, D, adK, adV⟩ := X
  obtain ⟨hx, hb, hml, hown, hts, hK, hD, hE, hfr, hlo, hcl, hsl⟩ := C
  intro r σ' hr H locs ls hP hS hlv
  exact lv_ladd hx hb hd (h r σ' hr H locs ls hP hS hlv)
theorem v_lsub {x y : Int64} (C : Ok X own cc nL d) (hd : decode cc pc = .ok (.lsub, 1)) (h : V X g (pc + 1) lv (.long (x - y) :: st) σ res) : V X g pc lv (.long y :: .long x :: st) σ res := by
  obtain ⟨⟨p, l, e, Rm, s, m⟩, ⟨args, below, meth, c, cells, slots⟩, Q, ad, cy, D, adK, adV⟩ := X
  obtain ⟨hx, hb, hml, hown, hts, hK, hD, hE, hfr, hlo, hcl, hsl⟩ := C
  intro r σ' hr H locs ls hP hS hlv
  exact lv_lsub hx hb hd (h r σ' hr H locs ls hP hS hlv)
theorem v_lmul {x y : Int64} (C : Ok X own cc nL d) (hd : decode cc pc = .ok (.lmul, 1)) (h : V X g (pc + 1) lv (.long (x * y) :: st) σ res) : V X g pc lv (.long y :: .long x :: st) σ res := by
  obtain ⟨⟨p, l, e, Rm, s, m⟩, ⟨args, below, meth, c, cells, slots⟩, Q, ad, cy, D, adK, adV⟩ := X
  obtain ⟨hx, hb, hml, hown, hts, hK, hD, hE, hfr, hlo, hcl, hsl⟩ := C
  intro r σ' hr H locs ls hP hS hlv
  exact lv_lmul hx hb hd (h r σ' hr H locs ls hP hS hlv)
theorem v_iushr {x y : Int32} (C : Ok X own cc nL d) (hd : decode cc pc = .ok (.iushr, 1)) (h : V X g (pc + 1) lv (.int (x.toUInt32 >>> (y.toUInt32 &&& Int32.toUInt32 31)).toInt32 :: st) σ res) : V X g pc lv (.int y :: .int x :: st) σ res := by
  obtain ⟨⟨p, l, e, Rm, s, m⟩, ⟨args, below, meth, c, cells, slots⟩, Q, ad, cy, D, adK, adV⟩ := X
  obtain ⟨hx, hb, hml, hown, hts, hK, hD, hE, hfr, hlo, hcl, hsl⟩ := C
  intro r σ' hr H locs ls hP hS hlv
  exact lv_iushr hx hb hd rfl (h r σ' hr H locs ls hP hS hlv)
theorem v_irem {x y : Int32} (C : Ok X own cc nL d) (hd : decode cc pc = .ok (.irem, 1)) (hne : ¬ y = 0) (h : V X g (pc + 1) lv (.int (x - x / y * y) :: st) σ res) : V X g pc lv (.int y :: .int x :: st) σ res := by
  obtain ⟨⟨p, l, e, Rm, s, m⟩, ⟨args, below, meth, c, cells, slots⟩, Q, ad, cy, D, adK, adV⟩ := X
  obtain ⟨hx, hb, hml, hown, hts, hK, hD, hE, hfr, hlo, hcl, hsl⟩ := C
  intro r σ' hr H locs ls hP hS hlv
  exact lv_irem hx hb hd hne (h r σ' hr H locs ls hP hS hlv)
theorem v_ineg {x : Int32} (C : Ok X own cc nL d) (hd : decode cc pc = .ok (.ineg, 1)) (h : V X g (pc + 1) lv (.int (-x) :: st) σ res) : V X g pc lv (.int x :: st) σ res := by
  obtain ⟨⟨p, l, e, Rm, s, m⟩, ⟨args, below, meth, c, cells, slots⟩, Q, ad, cy, D, adK, adV⟩ := X
  obtain ⟨hx, hb, hml, hown, hts, hK, hD, hE, hfr, hlo, hcl, hsl⟩ := C
  intro r σ' hr H locs ls hP hS hlv
  exact lv_ineg hx hb hd (h r σ' hr H locs ls hP hS hlv)
theorem v_i2l {x : Int32} (C : Ok X own cc nL d) (hd : decode cc pc = .ok (.i2l, 1)) (h : V X g (pc + 1) lv (.long x.toInt64 :: st) σ res) : V X g pc lv (.int x :: st) σ res := by
  obtain ⟨⟨p, l, e, Rm, s, m⟩, ⟨args, below, meth, c, cells, slots⟩, Q, ad, cy, D, adK, adV⟩ := X
  obtain ⟨hx, hb, hml, hown, hts, hK, hD, hE, hfr, hlo, hcl, hsl⟩ := C
  intro r σ' hr H locs ls hP hS hlv
  exact lv_i2l hx hb hd rfl (h r σ' hr H locs ls hP hS hlv)
theorem v_i2b {x : Int32} (C : Ok X own cc nL d) (hd : decode cc pc = .ok (.i2b, 1)) (h : V X g (pc + 1) lv (.int x.toInt8.toInt32 :: st) σ res) : V X g pc lv (.int x :: st) σ res := by
  obtain ⟨⟨p, l, e, Rm, s, m⟩, ⟨args, below, meth, c, cells, slots⟩, Q, ad, cy, D, adK, adV⟩ := X
  obtain ⟨hx, hb, hml, hown, hts, hK, hD, hE, hfr, hlo, hcl, hsl⟩ := C
  intro r σ' hr H locs ls hP hS hlv
  exact lv_i2b hx hb hd rfl (h r σ' hr H locs ls hP hS hlv)
theorem v_lcmp {x y : Int64} (C : Ok X own cc nL d) (hd : decode cc pc = .ok (.lcmp, 1)) (h : V X g (pc + 1) lv (.int (lg_cmp x y) :: st) σ res) : V X g pc lv (.long y :: .long x :: st) σ res := by
  obtain ⟨⟨p, l, e, Rm, s, m⟩, ⟨args, below, meth, c, cells, slots⟩, Q, ad, cy, D, adK, adV⟩ := X
  obtain ⟨hx, hb, hml, hown, hts, hK, hD, hE, hfr, hlo, hcl, hsl⟩ := C
  intro r σ' hr H locs ls hP hS hlv
  exact W.lcmp hx hb hd (h r σ' hr H locs ls hP hS hlv)
theorem v_dup {va : Value} (C : Ok X own cc nL d) (hd : decode cc pc = .ok (.dup, 1)) (hva : va.category = 1) (h : V X g (pc + 1) lv (va :: va :: st) σ res) : V X g pc lv (va :: st) σ res := by
  obtain ⟨⟨p, l, e, Rm, s, m⟩, ⟨args, below, meth, c, cells, slots⟩, Q, ad, cy, D, adK, adV⟩ := X
  obtain ⟨hx, hb, hml, hown, hts, hK, hD, hE, hfr, hlo, hcl, hsl⟩ := C
  intro r σ' hr H locs ls hP hS hlv
  exact lv_dup hx hb hd hva (h r σ' hr H locs ls hP hS hlv)
theorem v_pop {va : Value} (C : Ok X own cc nL d) (hd : decode cc pc = .ok (.pop, 1)) (hva : va.category = 1) (h : V X g (pc + 1) lv st σ res) : V X g pc lv (va :: st) σ res := by
  obtain ⟨⟨p, l, e, Rm, s, m⟩, ⟨args, below, meth, c, cells, slots⟩, Q, ad, cy, D, adK, adV⟩ := X
  obtain ⟨hx, hb, hml, hown, hts, hK, hD, hE, hfr, hlo, hcl, hsl⟩ := C
  intro r σ' hr H locs ls hP hS hlv
  exact lv_pop hx hb hd hva (h r σ' hr H locs ls hP hS hlv)
theorem v_dup2 {va vb : Value} (C : Ok X own cc nL d) (hd : decode cc pc = .ok (.dup2, 1)) (hva : va.category = 1) (hvb : vb.category = 1) (h : V X g (pc + 1) lv (va :: vb :: va :: vb :: st) σ res) : V X g pc lv (va :: vb :: st) σ res := by
  obtain ⟨⟨p, l, e, Rm, s, m⟩, ⟨args, below, meth, c, cells, slots⟩, Q, ad, cy, D, adK, adV⟩ := X
  obtain ⟨hx, hb, hml, hown, hts, hK, hD, hE, hfr, hlo, hcl, hsl⟩ := C
  intro r σ' hr H locs ls hP hS hlv
  exact lv_dup2_11 hx hb hd hva hvb (h r σ' hr H locs ls hP hS hlv)
theorem v_goto {off : Int} {tgt : Nat} (C : Ok X own cc nL d) (hd : decode cc pc = .ok (.goto off, 3)) (ht : (pc : Int) + off = (tgt : Int)) (h : V X g tgt lv st σ res) : V X g pc lv st σ res := by
  obtain ⟨⟨p, l, e, Rm, s, m⟩, ⟨args, below, meth, c, cells, slots⟩, Q, ad, cy, D, adK, adV⟩ := X
  obtain ⟨hx, hb, hml, hown, hts, hK, hD, hE, hfr, hlo, hcl, hsl⟩ := C
  intro r σ' hr H locs ls hP hS hlv
  exact lv_goto hx hb hd ht (h r σ' hr H locs ls hP hS hlv)
theorem v_if_eq {x : Int32} {off : Int} {tgt : Nat} {r1 r2 : Option (R × St)} (C : Ok X own cc nL d) (hd : decode cc pc = .ok (.ifCond .eq off, 3)) (ht : (pc : Int) + off = (tgt : Int)) (h1 : V X g tgt lv st σ r1) (h2 : V X g (pc + 3) lv st σ r2) : V X g pc lv (.int x :: st) σ (if x = 0 then r1 else r2) := by
  obtain ⟨⟨p, l, e, Rm, s, m⟩, ⟨args, below, meth, c, cells, slots⟩, Q, ad, cy, D, adK, adV⟩ := X
  obtain ⟨hx, hb, hml, hown, hts, hK, hD, hE, hfr, hlo, hcl, hsl⟩ := C
  intro r σ' hr H locs ls hP hS hlv
  exact lv_if_eq hx hb hd ht (fun q => h1 r σ' (by rw [if_pos q] at hr; exact hr) H locs ls hP hS hlv) (fun q => h2 r σ' (by rw [if_neg q] at hr; exact hr) H locs ls hP hS hlv)
theorem v_if_eq_b {x : Int32} {off : Int} {tgt : Nat} (C : Ok X own cc nL d) (hd : decode cc pc = .ok (.ifCond .eq off, 3)) (ht : (pc : Int) + off = (tgt : Int)) (h1 : x = 0 → V X g tgt lv st σ res) (h2 : ¬ x = 0 → V X g (pc + 3) lv st σ res) : V X g pc lv (.int x :: st) σ res := by
  obtain ⟨⟨p, l, e, Rm, s, m⟩, ⟨args, below, meth, c, cells, slots⟩, Q, ad, cy, D, adK, adV⟩ := X
  obtain ⟨hx, hb, hml, hown, hts, hK, hD, hE, hfr, hlo, hcl, hsl⟩ := C
  intro r σ' hr H locs ls hP hS hlv
  exact lv_if_eq hx hb hd ht (fun q => h1 q r σ' hr H locs ls hP hS hlv) (fun q => h2 q r σ' hr H locs ls hP hS hlv)
theorem v_icmp_eq {x y : Int32} {off : Int} {tgt : Nat} {r1 r2 : Option (R × St)} (C : Ok X own cc nL d) (hd : decode cc pc = .ok (.if_icmp .eq off, 3)) (ht : (pc : Int) + off = (tgt : Int)) (h1 : V X g tgt lv st σ r1) (h2 : V X g (pc + 3) lv st σ r2) : V X g pc lv (.int y :: .int x :: st) σ (if x = y then r1 else r2) := by
  obtain ⟨⟨p, l, e, Rm, s, m⟩, ⟨args, below, meth, c, cells, slots⟩, Q, ad, cy, D, adK, adV⟩ := X
  obtain ⟨hx, hb, hml, hown, hts, hK, hD, hE, hfr, hlo, hcl, hsl⟩ := C
  intro r σ' hr H locs ls hP hS hlv
  exact lv_icmp_eq hx hb hd ht (fun q => h1 r σ' (by rw [if_pos q] at hr; exact hr) H locs ls hP hS hlv) (fun q => h2 r σ' (by rw [if_neg q] at hr; exact hr) H locs ls hP hS hlv)
theorem v_icmp_eq_b {x y : Int32} {off : Int} {tgt : Nat} (C : Ok X own cc nL d) (hd : decode cc pc = .ok (.if_icmp .eq off, 3)) (ht : (pc : Int) + off = (tgt : Int)) (h1 : x = y → V X g tgt lv st σ res) (h2 : ¬ x = y → V X g (pc + 3) lv st σ res) : V X g pc lv (.int y :: .int x :: st) σ res := by
  obtain ⟨⟨p, l, e, Rm, s, m⟩, ⟨args, below, meth, c, cells, slots⟩, Q, ad, cy, D, adK, adV⟩ := X
  obtain ⟨hx, hb, hml, hown, hts, hK, hD, hE, hfr, hlo, hcl, hsl⟩ := C
  intro r σ' hr H locs ls hP hS hlv
  exact lv_icmp_eq hx hb hd ht (fun q => h1 q r σ' hr H locs ls hP hS hlv) (fun q => h2 q r σ' hr H locs ls hP hS hlv)
theorem v_if_ne {x : Int32} {off : Int} {tgt : Nat} {r1 r2 : Option (R × St)} (C : Ok X own cc nL d) (hd : decode cc pc = .ok (.ifCond .ne off, 3)) (ht : (pc : Int) + off = (tgt : Int)) (h1 : V X g tgt lv st σ r1) (h2 : V X g (pc + 3) lv st σ r2) : V X g pc lv (.int x :: st) σ (if x = 0 then r2 else r1) := by
  obtain ⟨⟨p, l, e, Rm, s, m⟩, ⟨args, below, meth, c, cells, slots⟩, Q, ad, cy, D, adK, adV⟩ := X
  obtain ⟨hx, hb, hml, hown, hts, hK, hD, hE, hfr, hlo, hcl, hsl⟩ := C
  intro r σ' hr H locs ls hP hS hlv
  exact lv_if_ne hx hb hd ht (fun q => h1 r σ' (by rw [if_neg q] at hr; exact hr) H locs ls hP hS hlv) (fun q => h2 r σ' (by rw [if_pos q] at hr; exact hr) H locs ls hP hS hlv)
theorem v_if_ne_b {x : Int32} {off : Int} {tgt : Nat} (C : Ok X own cc nL d) (hd : decode cc pc = .ok (.ifCond .ne off, 3)) (ht : (pc : Int) + off = (tgt : Int)) (h1 : ¬ x = 0 → V X g tgt lv st σ res) (h2 : x = 0 → V X g (pc + 3) lv st σ res) : V X g pc lv (.int x :: st) σ res := by
  obtain ⟨⟨p, l, e, Rm, s, m⟩, ⟨args, below, meth, c, cells, slots⟩, Q, ad, cy, D, adK, adV⟩ := X
  obtain ⟨hx, hb, hml, hown, hts, hK, hD, hE, hfr, hlo, hcl, hsl⟩ := C
  intro r σ' hr H locs ls hP hS hlv
  exact lv_if_ne hx hb hd ht (fun q => h1 q r σ' hr H locs ls hP hS hlv) (fun q => h2 q r σ' hr H locs ls hP hS hlv)
theorem v_icmp_ne {x y : Int32} {off : Int} {tgt : Nat} {r1 r2 : Option (R × St)} (C : Ok X own cc nL d) (hd : decode cc pc = .ok (.if_icmp .ne off, 3)) (ht : (pc : Int) + off = (tgt : Int)) (h1 : V X g tgt lv st σ r1) (h2 : V X g (pc + 3) lv st σ r2) : V X g pc lv (.int y :: .int x :: st) σ (if x = y then r2 else r1) := by
  obtain ⟨⟨p, l, e, Rm, s, m⟩, ⟨args, below, meth, c, cells, slots⟩, Q, ad, cy, D, adK, adV⟩ := X
  obtain ⟨hx, hb, hml, hown, hts, hK, hD, hE, hfr, hlo, hcl, hsl⟩ := C
  intro r σ' hr H locs ls hP hS hlv
  exact lv_icmp_ne hx hb hd ht (fun q => h1 r σ' (by rw [if_neg q] at hr; exact hr) H locs ls hP hS hlv) (fun q => h2 r σ' (by rw [if_pos q] at hr; exact hr) H locs ls hP hS hlv)
theorem v_icmp_ne_b {x y : Int32} {off : Int} {tgt : Nat} (C : Ok X own cc nL d) (hd : decode cc pc = .ok (.if_icmp .ne off, 3)) (ht : (pc : Int) + off = (tgt : Int)) (h1 : ¬ x = y → V X g tgt lv st σ res) (h2 : x = y → V X g (pc + 3) lv st σ res) : V X g pc lv (.int y :: .int x :: st) σ res := by
  obtain ⟨⟨p, l, e, Rm, s, m⟩, ⟨args, below, meth, c, cells, slots⟩, Q, ad, cy, D, adK, adV⟩ := X
  obtain ⟨hx, hb, hml, hown, hts, hK, hD, hE, hfr, hlo, hcl, hsl⟩ := C
  intro r σ' hr H locs ls hP hS hlv
  exact lv_icmp_ne hx hb hd ht (fun q => h1 q r σ' hr H locs ls hP hS hlv) (fun q => h2 q r σ' hr H locs ls hP hS hlv)
theorem v_if_lt {x : Int32} {off : Int} {tgt : Nat} {r1 r2 : Option (R × St)} (C : Ok X own cc nL d) (hd : decode cc pc = .ok (.ifCond .lt off, 3)) (ht : (pc : Int) + off = (tgt : Int)) (h1 : V X g tgt lv st σ r1) (h2 : V X g (pc + 3) lv st σ r2) : V X g pc lv (.int x :: st) σ (if x < 0 then r1 else r2) := by
  obtain ⟨⟨p, l, e, Rm, s, m⟩, ⟨args, below, meth, c, cells, slots⟩, Q, ad, cy, D, adK, adV⟩ := X
  obtain ⟨hx, hb, hml, hown, hts, hK, hD, hE, hfr, hlo, hcl, hsl⟩ := C
  intro r σ' hr H locs ls hP hS hlv
  exact lv_if_lt hx hb hd ht (fun q => h1 r σ' (by rw [if_pos q] at hr; exact hr) H locs ls hP hS hlv) (fun q => h2 r σ' (by rw [if_neg q] at hr; exact hr) H locs ls hP hS hlv)
theorem v_if_lt_b {x : Int32} {off : Int} {tgt : Nat} (C : Ok X own cc nL d) (hd : decode cc pc = .ok (.ifCond .lt off, 3)) (ht : (pc : Int) + off = (tgt : Int)) (h1 : x < 0 → V X g tgt lv st σ res) (h2 : ¬ x < 0 → V X g (pc + 3) lv st σ res) : V X g pc lv (.int x :: st) σ res := by
  obtain ⟨⟨p, l, e, Rm, s, m⟩, ⟨args, below, meth, c, cells, slots⟩, Q, ad, cy, D, adK, adV⟩ := X
  obtain ⟨hx, hb, hml, hown, hts, hK, hD, hE, hfr, hlo, hcl, hsl⟩ := C
  intro r σ' hr H locs ls hP hS hlv
  exact lv_if_lt hx hb hd ht (fun q => h1 q r σ' hr H locs ls hP hS hlv) (fun q => h2 q r σ' hr H locs ls hP hS hlv)
theorem v_icmp_lt {x y : Int32} {off : Int} {tgt : Nat} {r1 r2 : Option (R × St)} (C : Ok X own cc nL d) (hd : decode cc pc = .ok (.if_icmp .lt off, 3)) (ht : (pc : Int) + off = (tgt : Int)) (h1 : V X g tgt lv st σ r1) (h2 : V X g (pc + 3) lv st σ r2) : V X g pc lv (.int y :: .int x :: st) σ (if x < y then r1 else r2) := by
  obtain ⟨⟨p, l, e, Rm, s, m⟩, ⟨args, below, meth, c, cells, slots⟩, Q, ad, cy, D, adK, adV⟩ := X
  obtain ⟨hx, hb, hml, hown, hts, hK, hD, hE, hfr, hlo, hcl, hsl⟩ := C
  intro r σ' hr H locs ls hP hS hlv
  exact lv_icmp_lt hx hb hd ht (fun q => h1 r σ' (by rw [if_pos q] at hr; exact hr) H locs ls hP hS hlv) (fun q => h2 r σ' (by rw [if_neg q] at hr; exact hr) H locs ls hP hS hlv)
theorem v_icmp_lt_b {x y : Int32} {off : Int} {tgt : Nat} (C : Ok X own cc nL d) (hd : decode cc pc = .ok (.if_icmp .lt off, 3)) (ht : (pc : Int) + off = (tgt : Int)) (h1 : x < y → V X g tgt lv st σ res) (h2 : ¬ x < y → V X g (pc + 3) lv st σ res) : V X g pc lv (.int y :: .int x :: st) σ res := by
  obtain ⟨⟨p, l, e, Rm, s, m⟩, ⟨args, below, meth, c, cells, slots⟩, Q, ad, cy, D, adK, adV⟩ := X
  obtain ⟨hx, hb, hml, hown, hts, hK, hD, hE, hfr, hlo, hcl, hsl⟩ := C
  intro r σ' hr H locs ls hP hS hlv
  exact lv_icmp_lt hx hb hd ht (fun q => h1 q r σ' hr H locs ls hP hS hlv) (fun q => h2 q r σ' hr H locs ls hP hS hlv)
theorem v_if_ge {x : Int32} {off : Int} {tgt : Nat} {r1 r2 : Option (R × St)} (C : Ok X own cc nL d) (hd : decode cc pc = .ok (.ifCond .ge off, 3)) (ht : (pc : Int) + off = (tgt : Int)) (h1 : V X g tgt lv st σ r1) (h2 : V X g (pc + 3) lv st σ r2) : V X g pc lv (.int x :: st) σ (if 0 ≤ x then r1 else r2) := by
  obtain ⟨⟨p, l, e, Rm, s, m⟩, ⟨args, below, meth, c, cells, slots⟩, Q, ad, cy, D, adK, adV⟩ := X
  obtain ⟨hx, hb, hml, hown, hts, hK, hD, hE, hfr, hlo, hcl, hsl⟩ := C
  intro r σ' hr H locs ls hP hS hlv
  exact lv_if_ge hx hb hd ht (fun q => h1 r σ' (by rw [if_pos q] at hr; exact hr) H locs ls hP hS hlv) (fun q => h2 r σ' (by rw [if_neg q] at hr; exact hr) H locs ls hP hS hlv)
theorem v_if_ge_b {x : Int32} {off : Int} {tgt : Nat} (C : Ok X own cc nL d) (hd : decode cc pc = .ok (.ifCond .ge off, 3)) (ht : (pc : Int) + off = (tgt : Int)) (h1 : 0 ≤ x → V X g tgt lv st σ res) (h2 : ¬ 0 ≤ x → V X g (pc + 3) lv st σ res) : V X g pc lv (.int x :: st) σ res := by
  obtain ⟨⟨p, l, e, Rm, s, m⟩, ⟨args, below, meth, c, cells, slots⟩, Q, ad, cy, D, adK, adV⟩ := X
  obtain ⟨hx, hb, hml, hown, hts, hK, hD, hE, hfr, hlo, hcl, hsl⟩ := C
  intro r σ' hr H locs ls hP hS hlv
  exact lv_if_ge hx hb hd ht (fun q => h1 q r σ' hr H locs ls hP hS hlv) (fun q => h2 q r σ' hr H locs ls hP hS hlv)
theorem v_icmp_ge {x y : Int32} {off : Int} {tgt : Nat} {r1 r2 : Option (R × St)} (C : Ok X own cc nL d) (hd : decode cc pc = .ok (.if_icmp .ge off, 3)) (ht : (pc : Int) + off = (tgt : Int)) (h1 : V X g tgt lv st σ r1) (h2 : V X g (pc + 3) lv st σ r2) : V X g pc lv (.int y :: .int x :: st) σ (if y ≤ x then r1 else r2) := by
  obtain ⟨⟨p, l, e, Rm, s, m⟩, ⟨args, below, meth, c, cells, slots⟩, Q, ad, cy, D, adK, adV⟩ := X
  obtain ⟨hx, hb, hml, hown, hts, hK, hD, hE, hfr, hlo, hcl, hsl⟩ := C
  intro r σ' hr H locs ls hP hS hlv
  exact lv_icmp_ge hx hb hd ht (fun q => h1 r σ' (by rw [if_pos q] at hr; exact hr) H locs ls hP hS hlv) (fun q => h2 r σ' (by rw [if_neg q] at hr; exact hr) H locs ls hP hS hlv)
theorem v_icmp_ge_b {x y : Int32} {off : Int} {tgt : Nat} (C : Ok X own cc nL d) (hd : decode cc pc = .ok (.if_icmp .ge off, 3)) (ht : (pc : Int) + off = (tgt : Int)) (h1 : y ≤ x → V X g tgt lv st σ res) (h2 : ¬ y ≤ x → V X g (pc + 3) lv st σ res) : V X g pc lv (.int y :: .int x :: st) σ res := by
  obtain ⟨⟨p, l, e, Rm, s, m⟩, ⟨args, below, meth, c, cells, slots⟩, Q, ad, cy, D, adK, adV⟩ := X
  obtain ⟨hx, hb, hml, hown, hts, hK, hD, hE, hfr, hlo, hcl, hsl⟩ := C
  intro r σ' hr H locs ls hP hS hlv
  exact lv_icmp_ge hx hb hd ht (fun q => h1 q r σ' hr H locs ls hP hS hlv) (fun q => h2 q r σ' hr H locs ls hP hS hlv)
theorem v_if_gt {x : Int32} {off : Int} {tgt : Nat} {r1 r2 : Option (R × St)} (C : Ok X own cc nL d) (hd : decode cc pc = .ok (.ifCond .gt off, 3)) (ht : (pc : Int) + off = (tgt : Int)) (h1 : V X g tgt lv st σ r1) (h2 : V X g (pc + 3) lv st σ r2) : V X g pc lv (.int x :: st) σ (if 0 < x then r1 else r2) := by
  obtain ⟨⟨p, l, e, Rm, s, m⟩, ⟨args, below, meth, c, cells, slots⟩, Q, ad, cy, D, adK, adV⟩ := X
  obtain ⟨hx, hb, hml, hown, hts, hK, hD, hE, hfr, hlo, hcl, hsl⟩ := C
  intro r σ' hr H locs ls hP hS hlv
  exact lv_if_gt hx hb hd ht (fun q => h1 r σ' (by rw [if_pos q] at hr; exact hr) H locs ls hP hS hlv) (fun q => h2 r σ' (by rw [if_neg q] at hr; exact hr) H locs ls hP hS hlv)
theorem v_if_gt_b {x : Int32} {off : Int} {tgt : Nat} (C : Ok X own cc nL d) (hd : decode cc pc = .ok (.ifCond .gt off, 3)) (ht : (pc : Int) + off = (tgt : Int)) (h1 : 0 < x → V X g tgt lv st σ res) (h2 : ¬ 0 < x → V X g (pc + 3) lv st σ res) : V X g pc lv (.int x :: st) σ res := by
  obtain ⟨⟨p, l, e, Rm, s, m⟩, ⟨args, below, meth, c, cells, slots⟩, Q, ad, cy, D, adK, adV⟩ := X
  obtain ⟨hx, hb, hml, hown, hts, hK, hD, hE, hfr, hlo, hcl, hsl⟩ := C
  intro r σ' hr H locs ls hP hS hlv
  exact lv_if_gt hx hb hd ht (fun q => h1 q r σ' hr H locs ls hP hS hlv) (fun q => h2 q r σ' hr H locs ls hP hS hlv)
theorem v_icmp_gt {x y : Int32} {off : Int} {tgt : Nat} {r1 r2 : Option (R × St)} (C : Ok X own cc nL d) (hd : decode cc pc = .ok (.if_icmp .gt off, 3)) (ht : (pc : Int) + off = (tgt : Int)) (h1 : V X g tgt lv st σ r1) (h2 : V X g (pc + 3) lv st σ r2) : V X g pc lv (.int y :: .int x :: st) σ (if y < x then r1 else r2) := by
  obtain ⟨⟨p, l, e, Rm, s, m⟩, ⟨args, below, meth, c, cells, slots⟩, Q, ad, cy, D, adK, adV⟩ := X
  obtain ⟨hx, hb, hml, hown, hts, hK, hD, hE, hfr, hlo, hcl, hsl⟩ := C
  intro r σ' hr H locs ls hP hS hlv
  exact lv_icmp_gt hx hb hd ht (fun q => h1 r σ' (by rw [if_pos q] at hr; exact hr) H locs ls hP hS hlv) (fun q => h2 r σ' (by rw [if_neg q] at hr; exact hr) H locs ls hP hS hlv)
theorem v_icmp_gt_b {x y : Int32} {off : Int} {tgt : Nat} (C : Ok X own cc nL d) (hd : decode cc pc = .ok (.if_icmp .gt off, 3)) (ht : (pc : Int) + off = (tgt : Int)) (h1 : y < x → V X g tgt lv st σ res) (h2 : ¬ y < x → V X g (pc + 3) lv st σ res) : V X g pc lv (.int y :: .int x :: st) σ res := by
  obtain ⟨⟨p, l, e, Rm, s, m⟩, ⟨args, below, meth, c, cells, slots⟩, Q, ad, cy, D, adK, adV⟩ := X
  obtain ⟨hx, hb, hml, hown, hts, hK, hD, hE, hfr, hlo, hcl, hsl⟩ := C
  intro r σ' hr H locs ls hP hS hlv
  exact lv_icmp_gt hx hb hd ht (fun q => h1 q r σ' hr H locs ls hP hS hlv) (fun q => h2 q r σ' hr H locs ls hP hS hlv)
theorem v_if_le {x : Int32} {off : Int} {tgt : Nat} {r1 r2 : Option (R × St)} (C : Ok X own cc nL d) (hd : decode cc pc = .ok (.ifCond .le off, 3)) (ht : (pc : Int) + off = (tgt : Int)) (h1 : V X g tgt lv st σ r1) (h2 : V X g (pc + 3) lv st σ r2) : V X g pc lv (.int x :: st) σ (if x ≤ 0 then r1 else r2) := by
  obtain ⟨⟨p, l, e, Rm, s, m⟩, ⟨args, below, meth, c, cells, slots⟩, Q, ad, cy, D, adK, adV⟩ := X
  obtain ⟨hx, hb, hml, hown, hts, hK, hD, hE, hfr, hlo, hcl, hsl⟩ := C
  intro r σ' hr H locs ls hP hS hlv
  exact lv_if_le hx hb hd ht (fun q => h1 r σ' (by rw [if_pos q] at hr; exact hr) H locs ls hP hS hlv) (fun q => h2 r σ' (by rw [if_neg q] at hr; exact hr) H locs ls hP hS hlv)
theorem v_if_le_b {x : Int32} {off : Int} {tgt : Nat} (C : Ok X own cc nL d) (hd : decode cc pc = .ok (.ifCond .le off, 3)) (ht : (pc : Int) + off = (tgt : Int)) (h1 : x ≤ 0 → V X g tgt lv st σ res) (h2 : ¬ x ≤ 0 → V X g (pc + 3) lv st σ res) : V X g pc lv (.int x :: st) σ res := by
  obtain ⟨⟨p, l, e, Rm, s, m⟩, ⟨args, below, meth, c, cells, slots⟩, Q, ad, cy, D, adK, adV⟩ := X
  obtain ⟨hx, hb, hml, hown, hts, hK, hD, hE, hfr, hlo, hcl, hsl⟩ := C
  intro r σ' hr H locs ls hP hS hlv
  exact lv_if_le hx hb hd ht (fun q => h1 q r σ' hr H locs ls hP hS hlv) (fun q => h2 q r σ' hr H locs ls hP hS hlv)
theorem v_icmp_le {x y : Int32} {off : Int} {tgt : Nat} {r1 r2 : Option (R × St)} (C : Ok X own cc nL d) (hd : decode cc pc = .ok (.if_icmp .le off, 3)) (ht : (pc : Int) + off = (tgt : Int)) (h1 : V X g tgt lv st σ r1) (h2 : V X g (pc + 3) lv st σ r2) : V X g pc lv (.int y :: .int x :: st) σ (if x ≤ y then r1 else r2) := by
  obtain ⟨⟨p, l, e, Rm, s, m⟩, ⟨args, below, meth, c, cells, slots⟩, Q, ad, cy, D, adK, adV⟩ := X
  obtain ⟨hx, hb, hml, hown, hts, hK, hD, hE, hfr, hlo, hcl, hsl⟩ := C
  intro r σ' hr H locs ls hP hS hlv
  exact lv_icmp_le hx hb hd ht (fun q => h1 r σ' (by rw [if_pos q] at hr; exact hr) H locs ls hP hS hlv) (fun q => h2 r σ' (by rw [if_neg q] at hr; exact hr) H locs ls hP hS hlv)
theorem v_icmp_le_b {x y : Int32} {off : Int} {tgt : Nat} (C : Ok X own cc nL d) (hd : decode cc pc = .ok (.if_icmp .le off, 3)) (ht : (pc : Int) + off = (tgt : Int)) (h1 : x ≤ y → V X g tgt lv st σ res) (h2 : ¬ x ≤ y → V X g (pc + 3) lv st σ res) : V X g pc lv (.int y :: .int x :: st) σ res := by
  obtain ⟨⟨p, l, e, Rm, s, m⟩, ⟨args, below, meth, c, cells, slots⟩, Q, ad, cy, D, adK, adV⟩ := X
  obtain ⟨hx, hb, hml, hown, hts, hK, hD, hE, hfr, hlo, hcl, hsl⟩ := C
  intro r σ' hr H locs ls hP hS hlv
  exact lv_icmp_le hx hb hd ht (fun q => h1 q r σ' hr H locs ls hP hS hlv) (fun q => h2 q r σ' hr H locs ls hP hS hlv)
theorem v_swOut {dflt lo hi : Int} {offs : Array Int} {len : Nat} {x : Int32} {tgt : Nat} (C : Ok X own cc nL d) (hd : decode cc pc = .ok (.tableswitch dflt lo hi offs, len)) (h0 : x.toInt < lo ∨ hi < x.toInt) (ht : (pc : Int) + dflt = (tgt : Int)) (h : V X g tgt lv st σ res) : V X g pc lv (.int x :: st) σ res := by
  obtain ⟨⟨p, l, e, Rm, s, m⟩, ⟨args, below, meth, c, cells, slots⟩, Q, ad, cy, D, adK, adV⟩ := X
  obtain ⟨hx, hb, hml, hown, hts, hK, hD, hE, hfr, hlo, hcl, hsl⟩ := C
  intro r σ' hr H locs ls hP hS hlv
  exact lv_tableOut hx hb hd h0 ht (h r σ' hr H locs ls hP hS hlv)
theorem v_swIn {dflt lo hi off : Int} {offs : Array Int} {len : Nat} {x : Int32} {tgt : Nat} (C : Ok X own cc nL d) (hd : decode cc pc = .ok (.tableswitch dflt lo hi offs, len)) (h1 : ¬ x.toInt < lo) (h2 : ¬ hi < x.toInt) (ho : offs[(x.toInt - lo).toNat]? = some off) (ht : (pc : Int) + off = (tgt : Int)) (h : V X g tgt lv st σ res) : V X g pc lv (.int x :: st) σ res := by
  obtain ⟨⟨p, l, e, Rm, s, m⟩, ⟨args, below, meth, c, cells, slots⟩, Q, ad, cy, D, adK, adV⟩ := X
  obtain ⟨hx, hb, hml, hown, hts, hK, hD, hE, hfr, hlo, hcl, hsl⟩ := C
  intro r σ' hr H locs ls hP hS hlv
  exact lv_tableIn hx hb hd h1 h2 ho ht (h r σ' hr H locs ls hP hS hlv)
/-- a place within a row -/
def ib (i : Int32) (n : Nat) : Bool := !(decide (i < 0) || decide (n ≤ i.toNatClampNeg))
def gi {α : Type} (i : Int32) (n : Nat) (x : Option α) : Option α := if ib i n = true then x else none
theorem gi_s {α : Type} {i : Int32} {n : Nat} {x : Option α} {y : α} (h : gi i n x = some y) : vp_in i n ∧ x = some y := by
  unfold gi at h
  split at h
  · rename_i q
    refine ⟨fun z => ?_, h⟩
    unfold ib at q
    rcases z with z | z <;> simp [z] at q
  · cases h
/-- a guard -/
def gd {α : Type} (c : Prop) [Decidable c] (x : Option α) : Option α := if c then x else none
theorem gd_s {α : Type} {c : Prop} [Decidable c] {x : Option α} {y : α} (h : gd c x = some y) : c ∧ x = some y := by
  unfold gd at h
  split at h
  · exact ⟨by assumption, h⟩
  · cases h
/-- a call's answer and world -/
def bd {α β : Type} (x : Option (α × St)) (k : α → St → Option β) : Option β := match x with
  | none => none
  | some q => k q.1 q.2
theorem bd_s {α β : Type} {x : Option (α × St)} {k : α → St → Option β} {y : β} (h : bd x k = some y) : ∃ r σ, x = some (r, σ) ∧ k r σ = some y := by
  cases x with
  | none => cases h
  | some q => exact ⟨q.1, q.2, rfl, h⟩
/-- which field of which class a link of a class's pool means -/
def lkF (own : String) (index ci j : Nat) : Prop := ∃ (C : String) (T : u_T) (N : Nat), vwCl[ci]? = some (C, T, N) ∧ nfl ci = N ∧ j < N ∧ ci < 9 ∧ (∀ w ∈ u_ws C T N, w ∈ gt) ∧ Cond.fieldLink own index C (T j).2.1 (T j).2.2.1 ∈ gt ∧ (T j).1 = C
/-- a link of a field that may be written: its type -/
def lkP (own : String) (index ci j : Nat) (ty : FieldType) : Prop := ∃ (C : String) (T : u_T) (N : Nat) (ty0 : Nat → FieldType), vwCl[ci]? = some (C, T, N) ∧ nfl ci = N ∧ j < N ∧ ci < 9 ∧ (∀ w ∈ u_ws C T N, w ∈ gt) ∧ Cond.fieldLink own index C (T j).2.1 (T j).2.2.1 ∈ gt ∧ (T j).1 = C ∧ (∀ k, k < N → parseFieldDescriptor (T k).2.2.1 = some (ty0 k)) ∧ (∀ a, a < N → ∀ b, b < N → a ≠ b → (T a).2.1 ≠ (T b).2.1) ∧ (T j).2.2.2 = false ∧ parseFieldDescriptor (T j).2.2.1 = some ty
theorem v_getv {index ci k j : Nat} {v : Value} (C : Ok X own cc nL d) (hd : decode cc pc = .ok (.getfield index, 3)) (hf : lkF own index ci j) (hk : k < cnt ci) (hv : fv (adr X) σ ci k j = v) (h : V X g (pc + 3) lv (v :: st) σ res) : V X g pc lv (.ref (adr X ci k) :: st) σ res := by
  obtain ⟨⟨p, l, e, Rm, s, m⟩, ⟨args, below, meth, c, cells, slots⟩, Q, ad, cy, D, adK, adV⟩ := X
  obtain ⟨hx, hb, hml, hown, hts, hK, hD, hE, hfr, hlo, hcl, hsl⟩ := C
  intro r σ' hr H locs ls hP hS hlv
  obtain ⟨Cn, T, N, hc, hN, hj, h9, hin, hlk, hT1⟩ := hf
  obtain ⟨i, hi⟩ := vl_at hk
  have hw := ws_at (ad := ad) (cy := cy) (σ := σ) hi
  rw [cE_o h9] at hw
  exact va_get (D := D) hx hb hts hin hown hK hP i hw hc j hj (hts _ hlk) (fun _ z => hT1 ▸ z) (by rw [fv_at (by rw [hN]; exact hj)]; exact congrArg some hv) hd (h r σ' hr H locs ls hP hS hlv)
theorem v_geti {index ci k j : Nat} (C : Ok X own cc nL d) (hd : decode cc pc = .ok (.getfield index, 3)) (hf : lkF own index ci j) (hk : k < cnt ci) (h0 : (fk ci j).1 = 0 ∨ (fk ci j).1 = 4) (h : V X g (pc + 3) lv (.int (σ.1 ci k j) :: st) σ res) : V X g pc lv (.ref (adr X ci k) :: st) σ res := v_getv C hd hf hk (fv_i h0) h
theorem v_getc {index ci k j cj : Nat} (C : Ok X own cc nL d) (hd : decode cc pc = .ok (.getfield index, 3)) (hf : lkF own index ci j) (hk : k < cnt ci) (h0 : fk ci j = (1, cj, 0)) (h : V X g (pc + 3) lv (.ref (adr X cj k) :: st) σ res) : V X g pc lv (.ref (adr X ci k) :: st) σ res := v_getv C hd hf hk (by unfold fv; rw [h0]; rfl) h
theorem v_getk {index ci k j cj id : Nat} (C : Ok X own cc nL d) (hd : decode cc pc = .ok (.getfield index, 3)) (hf : lkF own index ci j) (hk : k < cnt ci) (h0 : fk ci j = (2, cj, id)) (h : V X g (pc + 3) lv (.ref (adr X cj id) :: st) σ res) : V X g pc lv (.ref (adr X ci k) :: st) σ res := v_getv C hd hf hk (by unfold fv; rw [h0]; rfl) h
/-- a reference that changes: its number is looked at -/
theorem v_getr {index ci k j cj n : Nat} (C : Ok X own cc nL d) (hd : decode cc pc = .ok (.getfield index, 3)) (hf : lkF own index ci j) (hk : k < cnt ci) (h0 : fk ci j = (3, cj, 0)) (hn : cnt cj = n) (h : σ.2.2 ci k j < n → V X g (pc + 3) lv (.ref (adr X cj (σ.2.2 ci k j)) :: st) σ res) : V X g pc lv (.ref (adr X ci k) :: st) σ (gd (σ.2.2 ci k j < n) res) := by
  have h2 : σ.2.2 ci k j < n → V X g pc lv (.ref (adr X ci k) :: st) σ res := fun q => v_getv C hd hf hk (by unfold fv; rw [h0]; rfl) (h q)
  by_cases q : σ.2.2 ci k j < n
  · unfold gd
    rw [if_pos q]
    exact h2 q
  · unfold gd
    rw [if_neg q]
    exact v_none
theorem v_puti {index ci k j : Nat} {x : Int32} (C : Ok X own cc nL d) (hd : decode cc pc = .ok (.putfield index, 3)) (hf : lkP own index ci j .int) (hk : k < cnt ci) (h0 : (fk ci j).1 = 0 ∨ (fk ci j).1 = 4) (h : V X g (pc + 3) lv st (wI σ ci k j x) res) : V X g pc lv (.int x :: .ref (adr X ci k) :: st) σ res := by
  obtain ⟨⟨p, l, e, Rm, s, m⟩, ⟨args, below, meth, c, cells, slots⟩, Q, ad, cy, D, adK, adV⟩ := X
  obtain ⟨hx, hb, hml, hown, hts, hK, hD, hE, hfr, hlo, hcl, hsl⟩ := C
  intro r σ' hr H locs ls hP hS hlv
  obtain ⟨Cn, T, N, ty0, hc, hN, hj, h9, hin, hlk, hT1, hty, hnm, hfin, hdes⟩ := hf
  obtain ⟨i, hi⟩ := vl_at hk
  have hw := ws_at (ad := ad) (cy := cy) (σ := σ) hi
  rw [cE_o h9] at hw
  refine va_put (D := D) hx hb hts hin ty0 hty hnm hown hK hP (wsD_any hD) hS i hw hc j hj (hts _ hlk) (fun _ z => hT1 ▸ z) hfin hdes rfl rfl (by simp; omega) hd (fun H1 locs1 hP1 _ hS1 => ?_)
  rw [ws_set (σ' := wI σ ci k j x) hi (by rw [cE_o h9, fvs_i h0]) (fun a b hab => cE_wA a b hab)] at hP1
  exact h r σ' hr H1 locs1 ls hP1 hS1 hlv
theorem zb_n {x : Int32} (h : x = 0 ∨ x = 1) : narrow .boolean (.int x) = .int x ∧ fits .boolean (.int x) = true := by rcases h with rfl | rfl <;> exact ⟨rfl, rfl⟩
theorem v_putz {index ci k j : Nat} {x : Int32} (C : Ok X own cc nL d) (hd : decode cc pc = .ok (.putfield index, 3)) (hf : lkP own index ci j .boolean) (hk : k < cnt ci) (h0 : (fk ci j).1 = 0 ∨ (fk ci j).1 = 4) (hz : x = 0 ∨ x = 1) (h : V X g (pc + 3) lv st (wI σ ci k j x) res) : V X g pc lv (.int x :: .ref (adr X ci k) :: st) σ res := by
  obtain ⟨⟨p, l, e, Rm, s, m⟩, ⟨args, below, meth, c, cells, slots⟩, Q, ad, cy, D, adK, adV⟩ := X
  obtain ⟨hx, hb, hml, hown, hts, hK, hD, hE, hfr, hlo, hcl, hsl⟩ := C
  intro r σ' hr H locs ls hP hS hlv
  obtain ⟨Cn, T, N, ty0, hc, hN, hj, h9, hin, hlk, hT1, hty, hnm, hfin, hdes⟩ := hf
  obtain ⟨i, hi⟩ := vl_at hk
  have hw := ws_at (ad := ad) (cy := cy) (σ := σ) hi
  rw [cE_o h9] at hw
  refine va_put (D := D) hx hb hts hin ty0 hty hnm hown hK hP (wsD_any hD) hS i hw hc j hj (hts _ hlk) (fun _ z => hT1 ▸ z) hfin hdes (zb_n hz).1 (zb_n hz).2 (by simp; omega) hd (fun H1 locs1 hP1 _ hS1 => ?_)
  rw [ws_set (σ' := wI σ ci k j x) hi (by rw [cE_o h9, fvs_i h0]) (fun a b hab => cE_wA a b hab)] at hP1
  exact h r σ' hr H1 locs1 ls hP1 hS1 hlv
theorem v_putr {index ci k j cj n : Nat} {ty : FieldType} (C : Ok X own cc nL d) (hd : decode cc pc = .ok (.putfield index, 3)) (hf : lkP own index ci j ty) (hty1 : ty.isReference = true) (hk : k < cnt ci) (h0 : fk ci j = (3, cj, 0)) (h : V X g (pc + 3) lv st (wR σ ci k j n) res) : V X g pc lv (.ref (adr X cj n) :: .ref (adr X ci k) :: st) σ res := by
  obtain ⟨⟨p, l, e, Rm, s, m⟩, ⟨args, below, meth, c, cells, slots⟩, Q, ad, cy, D, adK, adV⟩ := X
  obtain ⟨hx, hb, hml, hown, hts, hK, hD, hE, hfr, hlo, hcl, hsl⟩ := C
  intro r σ' hr H locs ls hP hS hlv
  obtain ⟨Cn, T, N, ty0, hc, hN, hj, h9, hin, hlk, hT1, hty, hnm, hfin, hdes⟩ := hf
  obtain ⟨i, hi⟩ := vl_at hk
  have hw := ws_at (ad := ad) (cy := cy) (σ := σ) hi
  rw [cE_o h9] at hw
  refine va_put (D := D) hx hb hts hin ty0 hty hnm hown hK hP (wsD_any hD) hS i hw hc j hj (hts _ hlk) (fun _ z => hT1 ▸ z) hfin hdes (by cases ty <;> first | rfl | cases hty1) (by cases ty <;> first | rfl | cases hty1) (by simp; omega) hd (fun H1 locs1 hP1 _ hS1 => ?_)
  rw [ws_set (σ' := wR σ ci k j n) hi (by rw [cE_o h9, fvs_r (by rw [h0]), h0]) (fun a b hab => cE_wR a b hab)] at hP1
  exact h r σ' hr H1 locs1 ls hP1 hS1 hlv
theorem v_iaload {ci k n : Nat} {i : Int32} (C : Ok X own cc nL d) (hd : decode cc pc = .ok (.iaload, 1)) (hk : k < cnt ci) (ha : akd ci = 1) (hn : aln ci = n) (h : V X g (pc + 1) lv (.int (σ.1 ci k i.toNatClampNeg) :: st) σ res) : V X g pc lv (.int i :: .ref (adr X ci k) :: st) σ (gi i n res) := by
  obtain ⟨⟨p, l, e, Rm, s, m⟩, ⟨args, below, meth, c, cells, slots⟩, Q, ad, cy, D, adK, adV⟩ := X
  obtain ⟨hx, hb, hml, hown, hts, hK, hD, hE, hfr, hlo, hcl, hsl⟩ := C
  intro r σ' hr H locs ls hP hS hlv
  replace hr := gi_s hr
  obtain ⟨hin, hr⟩ := hr
  obtain ⟨q, hq⟩ := vl_at hk
  have hw := ws_at (ad := ad) (cy := cy) (σ := σ) hq
  rw [cE_i (akd9 ha) ha] at hw
  subst hn
  exact va_iald (D := D) hx hb hK hP q 0 hw rfl hin hd (h r σ' hr H locs ls hP hS hlv)
theorem v_baload {ci k n : Nat} {i : Int32} (C : Ok X own cc nL d) (hd : decode cc pc = .ok (.baload, 1)) (hk : k < cnt ci) (ha : akd ci = 2) (hn : aln ci = n) (h : V X g (pc + 1) lv (.int (σ.1 ci k i.toNatClampNeg) :: st) σ res) : V X g pc lv (.int i :: .ref (adr X ci k) :: st) σ (gi i n res) := by
  obtain ⟨⟨p, l, e, Rm, s, m⟩, ⟨args, below, meth, c, cells, slots⟩, Q, ad, cy, D, adK, adV⟩ := X
  obtain ⟨hx, hb, hml, hown, hts, hK, hD, hE, hfr, hlo, hcl, hsl⟩ := C
  intro r σ' hr H locs ls hP hS hlv
  replace hr := gi_s hr
  obtain ⟨hin, hr⟩ := hr
  obtain ⟨q, hq⟩ := vl_at hk
  have hw := ws_at (ad := ad) (cy := cy) (σ := σ) hq
  rw [cE_b (akd9 ha) ha] at hw
  subst hn
  exact va_bald (D := D) hx hb hK hP q 1 hw rfl hin hd (h r σ' hr H locs ls hP hS hlv)
theorem v_laload {ci k n : Nat} {i : Int32} (C : Ok X own cc nL d) (hd : decode cc pc = .ok (.laload, 1)) (hk : k < cnt ci) (ha : akd ci = 3) (hn : aln ci = n) (h : V X g (pc + 1) lv (.long (σ.2.1 ci k i.toNatClampNeg) :: st) σ res) : V X g pc lv (.int i :: .ref (adr X ci k) :: st) σ (gi i n res) := by
  obtain ⟨⟨p, l, e, Rm, s, m⟩, ⟨args, below, meth, c, cells, slots⟩, Q, ad, cy, D, adK, adV⟩ := X
  obtain ⟨hx, hb, hml, hown, hts, hK, hD, hE, hfr, hlo, hcl, hsl⟩ := C
  intro r σ' hr H locs ls hP hS hlv
  replace hr := gi_s hr
  obtain ⟨hin, hr⟩ := hr
  obtain ⟨q, hq⟩ := vl_at hk
  have hw := ws_at (ad := ad) (cy := cy) (σ := σ) hq
  rw [cE_l (akd9 ha) ha] at hw
  subst hn
  exact va_lald (D := D) hx hb hK hP q 2 hw rfl hin hd (h r σ' hr H locs ls hP hS hlv)
theorem v_aaload {ci k n : Nat} {i : Int32} (C : Ok X own cc nL d) (hd : decode cc pc = .ok (.aaload, 1)) (hk : k < cnt ci) (ha : akd ci = 4) (hn : aln ci = n) (h : i.toNatClampNeg < n → V X g (pc + 1) lv (.ref (adr X (ci + 1) (n * k + i.toNatClampNeg)) :: st) σ res) : V X g pc lv (.int i :: .ref (adr X ci k) :: st) σ (gi i n res) := by
  obtain ⟨⟨p, l, e, Rm, s, m⟩, ⟨args, below, meth, c, cells, slots⟩, Q, ad, cy, D, adK, adV⟩ := X
  obtain ⟨hx, hb, hml, hown, hts, hK, hD, hE, hfr, hlo, hcl, hsl⟩ := C
  intro r σ' hr H locs ls hP hS hlv
  replace hr := gi_s hr
  obtain ⟨hin, hr⟩ := hr
  obtain ⟨q, hq⟩ := vl_at hk
  have hw := ws_at (ad := ad) (cy := cy) (σ := σ) hq
  rw [cE_g (akd9 ha) ha] at hw
  subst hn
  have hlt : i.toNatClampNeg < aln ci := Nat.not_le.mp fun q => hin (Or.inr q)
  exact W.aald (v := .ref (ad (ci + 1) (aln ci * k + i.toNatClampNeg))) (ty := .array .int) hx hb (hP q _ hw) ((hK.2 3 _ rfl).1 _ (fun j => va_rf (some (ad (ci + 1) (aln ci * k + j))))) rfl (fun q => by cases q) (by show ¬ (i < 0 ∨ (arrV _ _ _).slots.size ≤ _); rw [arrV_size]; exact hin) (by show (arrV _ _ _).slots[_]? = _; rw [arrV_read _ _ hlt]; rfl) rfl rfl hd (h hlt r σ' hr H locs ls hP hS hlv)
theorem v_iastore {ci k n : Nat} {i x : Int32} (C : Ok X own cc nL d) (hd : decode cc pc = .ok (.iastore, 1)) (hk : k < cnt ci) (ha : akd ci = 1) (hn : aln ci = n) (h : V X g (pc + 1) lv st (wI σ ci k i.toNatClampNeg x) res) : V X g pc lv (.int x :: .int i :: .ref (adr X ci k) :: st) σ (gi i n res) := by
  obtain ⟨⟨p, l, e, Rm, s, m⟩, ⟨args, below, meth, c, cells, slots⟩, Q, ad, cy, D, adK, adV⟩ := X
  obtain ⟨hx, hb, hml, hown, hts, hK, hD, hE, hfr, hlo, hcl, hsl⟩ := C
  intro r σ' hr H locs ls hP hS hlv
  replace hr := gi_s hr
  obtain ⟨hin, hr⟩ := hr
  obtain ⟨q, hq⟩ := vl_at hk
  have hw := ws_at (ad := ad) (cy := cy) (σ := σ) hq
  rw [cE_i (akd9 ha) ha] at hw
  subst hn
  refine va_iast (D := D) hx hb hK hP (wsD_any hD) hS q 0 hw rfl hin hd (fun H1 locs1 hP1 _ hS1 => ?_)
  rw [ws_set (σ' := wI σ ci k i.toNatClampNeg x) hq (by rw [cE_i (akd9 ha) ha]; unfold wI; rw [wA_eq]) (fun a b hab => cE_wA a b hab)] at hP1
  exact h r σ' hr H1 locs1 ls hP1 hS1 hlv
theorem v_bastore {ci k n : Nat} {i x : Int32} (C : Ok X own cc nL d) (hd : decode cc pc = .ok (.bastore, 1)) (hk : k < cnt ci) (ha : akd ci = 2) (hn : aln ci = n) (h : V X g (pc + 1) lv st (wI σ ci k i.toNatClampNeg x.toInt8.toInt32) res) : V X g pc lv (.int x :: .int i :: .ref (adr X ci k) :: st) σ (gi i n res) := by
  obtain ⟨⟨p, l, e, Rm, s, m⟩, ⟨args, below, meth, c, cells, slots⟩, Q, ad, cy, D, adK, adV⟩ := X
  obtain ⟨hx, hb, hml, hown, hts, hK, hD, hE, hfr, hlo, hcl, hsl⟩ := C
  intro r σ' hr H locs ls hP hS hlv
  replace hr := gi_s hr
  obtain ⟨hin, hr⟩ := hr
  obtain ⟨q, hq⟩ := vl_at hk
  have hw := ws_at (ad := ad) (cy := cy) (σ := σ) hq
  rw [cE_b (akd9 ha) ha] at hw
  subst hn
  refine va_bast (D := D) hx hb hK hP (wsD_any hD) hS q 1 hw rfl hin hd (fun H1 locs1 hP1 _ hS1 => ?_)
  rw [vp_nar_byte, ws_set (σ' := wI σ ci k i.toNatClampNeg x.toInt8.toInt32) hq (by rw [cE_b (akd9 ha) ha]; unfold wI; rw [wA_eq]) (fun a b hab => cE_wA a b hab)] at hP1
  exact h r σ' hr H1 locs1 ls hP1 hS1 hlv
theorem v_lastore {ci k n : Nat} {i : Int32} {x : Int64} (C : Ok X own cc nL d) (hd : decode cc pc = .ok (.lastore, 1)) (hk : k < cnt ci) (ha : akd ci = 3) (hn : aln ci = n) (h : V X g (pc + 1) lv st (wL σ ci k i.toNatClampNeg x) res) : V X g pc lv (.long x :: .int i :: .ref (adr X ci k) :: st) σ (gi i n res) := by
  obtain ⟨⟨p, l, e, Rm, s, m⟩, ⟨args, below, meth, c, cells, slots⟩, Q, ad, cy, D, adK, adV⟩ := X
  obtain ⟨hx, hb, hml, hown, hts, hK, hD, hE, hfr, hlo, hcl, hsl⟩ := C
  intro r σ' hr H locs ls hP hS hlv
  replace hr := gi_s hr
  obtain ⟨hin, hr⟩ := hr
  obtain ⟨q, hq⟩ := vl_at hk
  have hw := ws_at (ad := ad) (cy := cy) (σ := σ) hq
  rw [cE_l (akd9 ha) ha] at hw
  subst hn
  refine va_last (D := D) hx hb hK hP (wsD_any hD) hS q 2 hw rfl hin hd (fun H1 locs1 hP1 _ hS1 => ?_)
  rw [ws_set (σ' := wL σ ci k i.toNatClampNeg x) hq (by rw [cE_l (akd9 ha) ha]; unfold wL; simp) (fun a b hab => cE_wL a b hab)] at hP1
  exact h r σ' hr H1 locs1 ls hP1 hS1 hlv
theorem v_alen {ci k n : Nat} (C : Ok X own cc nL d) (hd : decode cc pc = .ok (.arraylength, 1)) (hk : k < cnt ci) (ha : akd ci = 1) (hn : aln ci = n) (h : V X g (pc + 1) lv (.int (nI n) :: st) σ res) : V X g pc lv (.ref (adr X ci k) :: st) σ res := by
  obtain ⟨⟨p, l, e, Rm, s, m⟩, ⟨args, below, meth, c, cells, slots⟩, Q, ad, cy, D, adK, adV⟩ := X
  obtain ⟨hx, hb, hml, hown, hts, hK, hD, hE, hfr, hlo, hcl, hsl⟩ := C
  intro r σ' hr H locs ls hP hS hlv
  obtain ⟨q, hq⟩ := vl_at hk
  have hw := ws_at (ad := ad) (cy := cy) (σ := σ) hq
  rw [cE_i (akd9 ha) ha] at hw
  subst hn
  exact va_alen (D := D) hx hb hK hP q 0 hw rfl rfl hd (h r σ' hr H locs ls hP hS hlv)
theorem v_acopy {index c0 k0 c1 k1 n0 n1 : Nat} {sp dp n : Int32} (C : Ok X own cc nL d) (hd : decode cc pc = .ok (.invokestatic index, 3)) (hw1 : Cond.methodLink own index arraycopyName ∈ gt) (hw2 : Cond.native arraycopyName ∈ gt) (hw3 : Cond.static arraycopyName ∈ gt) (hw4 : Cond.initialized "java/lang/System" ∈ gt) (hd1 : 1 ≤ d) (hst : (st.map fun v => v.category).sum ≤ 8) (hk0 : k0 < cnt c0) (ha0 : akd c0 = 1) (hn0 : aln c0 = n0) (hk1 : k1 < cnt c1) (ha1 : akd c1 = 1) (hn1 : aln c1 = n1) (h : V X g (pc + 3) lv st (wA σ c1 k1 (va_cpy (σ.1 c0 k0) (σ.1 c1 k1) sp.toNatClampNeg dp.toNatClampNeg n.toNatClampNeg)) res) : V X g pc lv (.int n :: .int dp :: .ref (adr X c1 k1) :: .int sp :: .ref (adr X c0 k0) :: st) σ (gd (¬ sp < 0 ∧ ¬ dp < 0 ∧ ¬ n < 0 ∧ sp.toNatClampNeg + n.toNatClampNeg ≤ n0 ∧ dp.toNatClampNeg + n.toNatClampNeg ≤ n1) res) := by
  obtain ⟨⟨p, l, e, Rm, s, m⟩, ⟨args, below, meth, c, cells, slots⟩, Q, ad, cy, D, adK, adV⟩ := X
  obtain ⟨hx, hb, hml, hown, hts, hK, hD, hE, hfr, hlo, hcl, hsl⟩ := C
  intro r σ' hr H locs ls hP hS hlv
  replace hr := gd_s hr
  obtain ⟨⟨h1, h2, h3, h4, h5⟩, hr⟩ := hr
  obtain ⟨q0, hq0⟩ := vl_at hk0
  obtain ⟨q1, hq1⟩ := vl_at hk1
  have w0 := ws_at (ad := ad) (cy := cy) (σ := σ) hq0
  have w1 := ws_at (ad := ad) (cy := cy) (σ := σ) hq1
  rw [cE_i (akd9 ha0) ha0] at w0
  rw [cE_i (akd9 ha1) ha1] at w1
  subst hn0
  subst hn1
  have hnw : nativeFrameWords "java/lang/System" "arraycopy" 5 ≤ 21 := by decide +kernel
  refine va_copyi (D := D) hx hb (by rw [hlv.1]) hown (hts _ hw1) (hts _ hw2) (hts _ hw3) (hts _ hw4) hK hP (wsD_any hD) hS q0 q1 0 0 w0 w1 rfl rfl rfl h1 h2 h3 h4 h5 (fun _ _ => rfl) (by omega) (by omega) hd (fun H1 locs1 hP1 _ hS1 => ?_)
  rw [ws_set (σ' := wA σ c1 k1 (va_cpy (σ.1 c0 k0) (σ.1 c1 k1) sp.toNatClampNeg dp.toNatClampNeg n.toNatClampNeg)) hq1 (by rw [cE_i (akd9 ha1) ha1, wA_eq]) (fun a b hab => cE_wA a b hab)] at hP1
  exact h r σ' hr H1 locs1 ls hP1 hS1 hlv
theorem v_mmax {x y : Int32} {index : Nat} (C : Ok X own cc nL d) (hd : decode cc pc = .ok (.invokestatic index, 3)) (hw1 : Cond.methodLink own index Lib.Math.max.name ∈ gt) (hw2 : Cond.static Lib.Math.max.name ∈ gt) (hw3 : Cond.initialized "java/lang/Math" ∈ gt) (hw4 : Cond.code Lib.Math.max.name Lib.Math.max.code 2 (some .int) ∈ gt) (hd1 : 1 ≤ d) (hst : (st.map fun v => v.category).sum ≤ 8) (h : V X g (pc + 3) lv (.int (if x < y then y else x) :: st) σ res) : V X g pc lv (.int y :: .int x :: st) σ res := by
  obtain ⟨⟨p, l, e, Rm, s, m⟩, ⟨args, below, meth, c, cells, slots⟩, Q, ad, cy, D, adK, adV⟩ := X
  obtain ⟨hx, hb, hml, hown, hts, hK, hD, hE, hfr, hlo, hcl, hsl⟩ := C
  intro r σ' hr H locs ls hP hS hlv
  exact va_mmax hx hb (by rw [hlv.1]) hown (hts _ hw1) (hts _ hw2) (hts _ hw3) (hts _ hw4) (by omega) (by omega) hcl hsl hd (h r σ' hr H locs ls hP hS hlv)
theorem v_mmin {x y : Int32} {index : Nat} (C : Ok X own cc nL d) (hd : decode cc pc = .ok (.invokestatic index, 3)) (hw1 : Cond.methodLink own index Lib.Math.min.name ∈ gt) (hw2 : Cond.static Lib.Math.min.name ∈ gt) (hw3 : Cond.initialized "java/lang/Math" ∈ gt) (hw4 : Cond.code Lib.Math.min.name Lib.Math.min.code 2 (some .int) ∈ gt) (hd1 : 1 ≤ d) (hst : (st.map fun v => v.category).sum ≤ 8) (h : V X g (pc + 3) lv (.int (if y < x then y else x) :: st) σ res) : V X g pc lv (.int y :: .int x :: st) σ res := by
  obtain ⟨⟨p, l, e, Rm, s, m⟩, ⟨args, below, meth, c, cells, slots⟩, Q, ad, cy, D, adK, adV⟩ := X
  obtain ⟨hx, hb, hml, hown, hts, hK, hD, hE, hfr, hlo, hcl, hsl⟩ := C
  intro r σ' hr H locs ls hP hS hlv
  exact va_mmin hx hb (by rw [hlv.1]) hown (hts _ hw1) (hts _ hw2) (hts _ hw3) (hts _ hw4) (by omega) (by omega) hcl hsl hd (h r σ' hr H locs ls hP hS hlv)
theorem v_mabs {x : Int32} {index : Nat} (C : Ok X own cc nL d) (hd : decode cc pc = .ok (.invokestatic index, 3)) (hw1 : Cond.methodLink own index Lib.Math.abs.name ∈ gt) (hw2 : Cond.static Lib.Math.abs.name ∈ gt) (hw3 : Cond.initialized "java/lang/Math" ∈ gt) (hw4 : Cond.code Lib.Math.abs.name Lib.Math.abs.code 1 (some .int) ∈ gt) (hd1 : 1 ≤ d) (hst : (st.map fun v => v.category).sum ≤ 8) (h : V X g (pc + 3) lv (.int (if 0 ≤ x then x else 0 - x) :: st) σ res) : V X g pc lv (.int x :: st) σ res := by
  obtain ⟨⟨p, l, e, Rm, s, m⟩, ⟨args, below, meth, c, cells, slots⟩, Q, ad, cy, D, adK, adV⟩ := X
  obtain ⟨hx, hb, hml, hown, hts, hK, hD, hE, hfr, hlo, hcl, hsl⟩ := C
  intro r σ' hr H locs ls hP hS hlv
  exact va_mabs hx hb (by rw [hlv.1]) hown (hts _ hw1) (hts _ hw2) (hts _ hw3) (hts _ hw4) (by omega) (by omega) hcl hsl hd (h r σ' hr H locs ls hP hS hlv)
abbrev gI : Int32 → Option Value := fun r => some (.int r)
abbrev gJ : Int64 → Option Value := fun r => some (.long r)
abbrev gV : Unit → Option Value := fun _ => none
abbrev gR (X : Cx) (ci : Nat) : Nat → Option Value := fun k => some (.ref (adr X ci k))
theorem v_iret {x : Int32} (C : Ok X own cc nL d) (M : OkM X (some .int)) (hd : decode cc pc = .ok (.ireturn, 1)) : V X gI pc lv [.int x] σ (some (x, σ)) := by
  obtain ⟨⟨p, l, e, Rm, s, m⟩, ⟨args, below, meth, c, cells, slots⟩, Q, ad, cy, D, adK, adV⟩ := X
  obtain ⟨hx, hb, hml, hown, hts, hK, hD, hE, hfr, hlo, hcl, hsl⟩ := C
  obtain ⟨rfl, rfl, hret, hlocks, rfl⟩ := M
  intro r σ' hr H locs ls hP hS hlv
  cases hr
  exact W.iret hx hb hret (fun t ht hW => ⟨⟨rfl, by rw [ht]; exact hP⟩, hS.F ht⟩) hS.2.2 hd hlocks
theorem v_zret {x : Int32} (C : Ok X own cc nL d) (M : OkM X (some .boolean)) (hz : x = 0 ∨ x = 1) (hd : decode cc pc = .ok (.ireturn, 1)) : V X gI pc lv [.int x] σ (some (x, σ)) := by
  obtain ⟨⟨p, l, e, Rm, s, m⟩, ⟨args, below, meth, c, cells, slots⟩, Q, ad, cy, D, adK, adV⟩ := X
  obtain ⟨hx, hb, hml, hown, hts, hK, hD, hE, hfr, hlo, hcl, hsl⟩ := C
  obtain ⟨rfl, rfl, hret, hlocks, rfl⟩ := M
  intro r σ' hr H locs ls hP hS hlv
  cases hr
  exact W.zret hx hb hret (zb_n hz).1 (fun t ht hW => ⟨⟨rfl, by rw [ht]; exact hP⟩, hS.F ht⟩) hS.2.2 hd hlocks
def rz (x : Int32) (σ : St) : Option (Int32 × St) := if x = 0 ∨ x = 1 then some (x, σ) else none
theorem v_zretg {x : Int32} (C : Ok X own cc nL d) (M : OkM X (some .boolean)) (hd : decode cc pc = .ok (.ireturn, 1)) : V X gI pc lv [.int x] σ (rz x σ) := by
  unfold rz
  by_cases hz : x = 0 ∨ x = 1
  · rw [if_pos hz]
    exact v_zret C M hz hd
  · rw [if_neg hz]
    exact v_none
theorem v_vret (C : Ok X own cc nL d) (M : OkM X none) (hd : decode cc pc = .ok (.return_, 1)) : V X gV pc lv [] σ (some ((), σ)) := by
  obtain ⟨⟨p, l, e, Rm, s, m⟩, ⟨args, below, meth, c, cells, slots⟩, Q, ad, cy, D, adK, adV⟩ := X
  obtain ⟨hx, hb, hml, hown, hts, hK, hD, hE, hfr, hlo, hcl, hsl⟩ := C
  obtain ⟨rfl, rfl, hret, hlocks, rfl⟩ := M
  intro r σ' hr H locs ls hP hS hlv
  cases hr
  exact W.vret hx hb hret (fun t ht hW => ⟨⟨rfl, by rw [ht]; exact hP⟩, hS.F ht⟩) hS.2.2 hd hlocks
theorem v_lret {x : Int64} (C : Ok X own cc nL d) (M : OkM X (some .long)) (hd : decode cc pc = .ok (.lreturn, 1)) : V X gJ pc lv [.long x] σ (some (x, σ)) := by
  obtain ⟨⟨p, l, e, Rm, s, m⟩, ⟨args, below, meth, c, cells, slots⟩, Q, ad, cy, D, adK, adV⟩ := X
  obtain ⟨hx, hb, hml, hown, hts, hK, hD, hE, hfr, hlo, hcl, hsl⟩ := C
  obtain ⟨rfl, rfl, hret, hlocks, rfl⟩ := M
  intro r σ' hr H locs ls hP hS hlv
  cases hr
  exact W.lret hx hb hret (fun t ht hW => ⟨⟨rfl, by rw [ht]; exact hP⟩, hS.F ht⟩) hS.2.2 hd hlocks
theorem v_aret {ci k : Nat} {rt : FieldType} (C : Ok X own cc nL d) (M : OkM X (some rt)) (hrt : (∃ n, rt = .object n) ∨ ∃ t, rt = .array t) (hd : decode cc pc = .ok (.areturn, 1)) : V X (gR X ci) pc lv [.ref (adr X ci k)] σ (some (k, σ)) := by
  obtain ⟨⟨p, l, e, Rm, s, m⟩, ⟨args, below, meth, c, cells, slots⟩, Q, ad, cy, D, adK, adV⟩ := X
  obtain ⟨hx, hb, hml, hown, hts, hK, hD, hE, hfr, hlo, hcl, hsl⟩ := C
  obtain ⟨rfl, rfl, hret, hlocks, rfl⟩ := M
  intro r σ' hr H locs ls hP hS hlv
  cases hr
  exact W.aret hx hb hret hrt (Or.inr ⟨_, rfl⟩) (fun t ht hW => ⟨⟨rfl, by rw [ht]; exact hP⟩, hS.F ht⟩) hS.2.2 hd hlocks
end VROWS
section VCALL
variable {R R1 : Type} {X : Cx} {g : R → Option Value} {g1 : R1 → Option Value} {own : String} {cc : ByteArray} {nL d d1 pc : Nat} {lv : List (Nat × Value)} {st : List Value} {σ : St} {fy : Option (R1 × St)} {y : MethodName} {bytes : ByteArray} {maxL n index : Nat} {ret : Option FieldType} {as : List Value}
/-- behind a call -/
theorem v_back {p : Program} {l : Launch} {e : Env} {Rm : Room} {s : State} {m : MethodId} {args a : Array Value} {below : List Frame} {meth : Method} {c : Code} {H H0 : Heap} {locs : List Loc} {cells slots : Nat} {Q : State → Prop} {ls : Array Slot} {st0 rest : List Value} {ad : Nat → Nat → Nat} {cy : Nat → ClassId} {D : va_G} {rv : Option Value} {σ1 : St}
    (hr : va_Run p l e Rm s m args below meth c H locs cells slots 0 0 (F0 m pc ls st0) rest (Po ad cy D rv σ1 a) (inA ad)) (hS : va_S (inA ad) H0 H locs)
    (kk : ∀ (H1 : Heap) (locs1 : List Loc), va_P D vwCl (wsO ad cy σ1) H1 → va_S (inA ad) H0 H1 locs1 → W p l e Rm s m args below meth c H1 locs1 cells slots Q (F0 m (pc + 3) ls (rv.toList ++ rest))) : W p l e Rm s m args below meth c H locs cells slots Q (F0 m pc ls st0) := by
  intro T hT X
  obtain ⟨v, st₀, t, T', L, h0, X', hL, e1, e2, ⟨⟨hv, hw⟩, hz, hk⟩, st⟩ := hr T hT X
  cases hv
  rw [h0] at hz hk
  obtain ⟨t2, a1, b1⟩ := kk T'.heap (locs ++ L) (by rw [e1]; exact hw)
    ⟨Nat.le_trans hS.1 (by rw [e1]; exact hz), fun q h1 h2 => by rw [e1, hk q (Nat.lt_of_lt_of_le h1 hS.1) h2]; exact hS.2.1 q h1 h2, fun q hq => by
      rcases List.mem_append.mp hq with h | h
      · exact hS.2.2 q h
      · exact hL q h⟩ T' rfl X'
  exact ⟨t2, st t2 a1, b1⟩
/-- the words of a call: static, virtual (of a class C), static of a nest mate -/
def lkS (own : String) (index : Nat) (y : MethodName) (bytes : ByteArray) (maxL : Nat) (ret : Option FieldType) (n : Nat) : Prop := (Cond.methodLink own index y ∈ gt ∧ Cond.static y ∈ gt ∧ Cond.initialized y.cls ∈ gt ∧ Cond.code y bytes maxL ret ∈ gt) ∧ (y.cls ≠ "java/lang/invoke/MethodHandle" ∧ y.cls ≠ "java/lang/invoke/VarHandle" ∧ (parseMethodDescriptor y.desc).map (fun d => d.parameters.length) = some n) ∧ maxL ≤ 20
def lkV (own : String) (index ci : Nat) (y : MethodName) (bytes : ByteArray) (maxL : Nat) (ret : Option FieldType) (n : Nat) : Prop := (Cond.methodLink own index y ∈ gt ∧ Cond.instanceMethod y ∈ gt ∧ Cond.selects y.cls y y ∈ gt ∧ Cond.initialized y.cls ∈ gt ∧ Cond.code y bytes maxL ret ∈ gt) ∧ (y.cls ≠ "java/lang/invoke/MethodHandle" ∧ y.cls ≠ "java/lang/invoke/VarHandle" ∧ (parseMethodDescriptor y.desc).map (fun d => d.parameters.length) = some n) ∧ maxL ≤ 20 ∧ ci < 9 ∧ ∃ T N, vwCl[ci]? = some (y.cls, T, N)
def lkN (own : String) (index : Nat) (y : MethodName) (bytes : ByteArray) (maxL : Nat) (ret : Option FieldType) (n : Nat) : Prop := (Cond.methodLinkNest own index y RX7 ∈ nestL ∧ Cond.static y ∈ gt ∧ Cond.initialized y.cls ∈ gt ∧ Cond.code y bytes maxL ret ∈ gt) ∧ (y.cls ≠ "java/lang/invoke/MethodHandle" ∧ y.cls ≠ "java/lang/invoke/VarHandle" ∧ (parseMethodDescriptor y.desc).map (fun d => d.parameters.length) = some n) ∧ maxL ≤ 20
theorem gt_call {w : Cond} (h : w ∈ gt) : GoodIn gt (w :: gt) := gt_in fun x hx => by
  rcases List.mem_cons.mp hx with rfl | q
  · exact h
  · exact q
theorem v_cS (C : Ok X own cc nL d) (hd : decode cc pc = .ok (.invokestatic index, 3)) (hl : lkS own index y bytes maxL ret n) (hM : Kon X d1 y bytes maxL ret g1 as σ fy) (hdd : d1 + 1 ≤ d) (hn : as.length = n) (hst : (st.map fun v => v.category).sum ≤ 8) {kk : R1 → St → Option (R × St)}
    (h : ∀ r1 σ1, V X g (pc + 3) lv ((g1 r1).toList ++ st) σ1 (kk r1 σ1)) : V X g pc lv (as.reverse ++ st) σ (bd fy kk) := by
  obtain ⟨⟨p, l, e, Rm, s, m⟩, ⟨args, below, meth, c, cells, slots⟩, Q, ad, cy, D, adK, adV⟩ := X
  obtain ⟨hx, hb, hml, hown, hts, hK, hD, hE, hfr, hlo, hcl, hsl⟩ := C
  intro r σ' hr H locs ls hP hS hlv
  obtain ⟨r1, σ1, hfy, hk⟩ := bd_s hr
  obtain ⟨⟨l1, l2, l3, l4⟩, l5, l6⟩ := hl
  refine v_back (va_runS (As := as) (rest := st) ⟨hx, hb, hml, hown, hts⟩ (hM r1 σ1 hfy) ⟨callB_of n hts (gt_call l4) rfl rfl rfl (hts _ l3) (hts _ l1) l5 ⟨by show d1 + 1 ≤ _; omega, by show 8 + (maxL + 11) + 40 * d1 ≤ _; omega⟩, hts _ l2⟩ ⟨Wd.blind, fun U hU hW => ⟨rfl, by rw [hU]; exact hP, va_K.moved hW.alike hK, hD, by rw [hU]; exact Ext.warm hW (hE.kept hS.2.1)⟩⟩ rfl hn (by rw [← hml]; exact hlv.1) rfl (lv_room hst) hd ⟨hcl, hsl⟩) hS (fun H1 locs1 hP1 hS1 => ?_)
  exact h r1 σ1 r σ' hk H1 locs1 ls hP1 hS1 hlv
theorem v_cN (C : Ok X own cc nL d) (hd : decode cc pc = .ok (.invokestatic index, 3)) (hl : lkN own index y bytes maxL ret n) (hM : Kon X d1 y bytes maxL ret g1 as σ fy) (hdd : d1 + 1 ≤ d) (hn : as.length = n) (hst : (st.map fun v => v.category).sum ≤ 8) {kk : R1 → St → Option (R × St)}
    (h : ∀ r1 σ1, V X g (pc + 3) lv ((g1 r1).toList ++ st) σ1 (kk r1 σ1)) : V X g pc lv (as.reverse ++ st) σ (bd fy kk) := by
  obtain ⟨⟨p, l, e, Rm, s, m⟩, ⟨args, below, meth, c, cells, slots⟩, Q, ad, cy, D, adK, adV⟩ := X
  obtain ⟨hx, hb, hml, hown, hts, hK, hD, hE, hfr, hlo, hcl, hsl⟩ := C
  intro r σ' hr H locs ls hP hS hlv
  obtain ⟨r1, σ1, hfy, hk⟩ := bd_s hr
  obtain ⟨⟨l1, l2, l3, l4⟩, l5, l6⟩ := hl
  refine v_back (va_runSN (As := as) (rest := st) ⟨hx, hb, hml, hown, hts⟩ (hM r1 σ1 hfy) ⟨va_cnB n hts (gt_call l4) rfl rfl rfl (hE.1 _ l1) (hts _ l3) l5 ⟨by show d1 + 1 ≤ _; omega, by show 8 + (maxL + 11) + 40 * d1 ≤ _; omega⟩, hts _ l2, trivial⟩ ⟨Wd.blind, fun U hU hW => ⟨rfl, by rw [hU]; exact hP, va_K.moved hW.alike hK, hD, by rw [hU]; exact Ext.warm hW (hE.kept hS.2.1)⟩⟩ rfl hn (by rw [← hml]; exact hlv.1) rfl (lv_room hst) hd ⟨hcl, hsl⟩) hS (fun H1 locs1 hP1 hS1 => ?_)
  exact h r1 σ1 r σ' hk H1 locs1 ls hP1 hS1 hlv
theorem v_cV {ci k : Nat} (C : Ok X own cc nL d) (hd : decode cc pc = .ok (.invokevirtual index, 3)) (hl : lkV own index ci y bytes maxL ret n) (hk : k < cnt ci) (hM : Kon X d1 y bytes maxL ret g1 (.ref (adr X ci k) :: as) σ fy) (hdd : d1 + 1 ≤ d) (hn : as.length = n) (hst : (st.map fun v => v.category).sum ≤ 8) {kk : R1 → St → Option (R × St)}
    (h : ∀ r1 σ1, V X g (pc + 3) lv ((g1 r1).toList ++ st) σ1 (kk r1 σ1)) : V X g pc lv (as.reverse ++ .ref (adr X ci k) :: st) σ (bd fy kk) := by
  obtain ⟨⟨p, l, e, Rm, s, m⟩, ⟨args, below, meth, c, cells, slots⟩, Q, ad, cy, D, adK, adV⟩ := X
  obtain ⟨hx, hb, hml, hown, hts, hK, hD, hE, hfr, hlo, hcl, hsl⟩ := C
  intro r σ' hr H locs ls hP hS hlv
  obtain ⟨r1, σ1, hfy, hk1⟩ := bd_s hr
  obtain ⟨⟨l1, l2, l3, l4, l5⟩, l6, l7, l8, T, N, l9⟩ := hl
  obtain ⟨i, hi⟩ := vl_at hk
  have hw := ws_at (ad := ad) (cy := cy) (σ := σ) hi
  rw [cE_o l8] at hw
  refine v_back (va_runV (As := as) (rest := st) (C := y.cls) ⟨hx, hb, hml, hown, hts⟩ (hM r1 σ1 hfy) ⟨callB_of n hts (gt_call l5) rfl rfl rfl (hts _ l4) (hts _ l1) l6 ⟨by show d1 + 1 ≤ _; omega, by show 8 + (maxL + 11) + 40 * d1 ≤ _; omega⟩, hts _ l2, hts _ l3⟩ ⟨Wd.blind, va_recv hK hP l9 hw, fun U hU hW => ⟨rfl, by rw [hU]; exact hP, va_K.moved hW.alike hK, hD, by rw [hU]; exact Ext.warm hW (hE.kept hS.2.1)⟩⟩ rfl hn (by rw [← hml]; exact hlv.1) rfl (lv_room hst) hd ⟨hcl, hsl⟩) hS (fun H1 locs1 hP1 hS1 => ?_)
  exact h r1 σ1 r σ' hk1 H1 locs1 ls hP1 hS1 hlv
end VCALL
