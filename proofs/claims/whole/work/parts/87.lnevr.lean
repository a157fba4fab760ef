/-! ===== the law's own never: it catches ===== -/
def rmL : Room := { frames := 8, cells := 1, slots := 6, locals := 320 }
theorem lnv_k : Cond.classLink RL 13 NSE ∈ gt := gt_of 1188 (by decide +kernel) rfl
theorem kL_never {l : Launch} (hl : l.stackTraces = false) {ad : Nat → Nat → Nat} {cy : Nat → ClassId} {D : va_G} {adK adV : Nat → Nat} {σ : St} {p1 : Int32} {o : Option Nat} (hN : NvC σ p1 o) :
    vx_Met l yL_never (.codeWith yL_never cL_never 4 (some .int) [(0, 9, 12, 13)] :: gt) rmL (va_Pc [.ref (ad 7 0), .int p1, .ref (ad 56 0)] (WdT ad cy D adK adV σ)) (va_Qi (fun r (τ : St) => (∃ b, o = some b ∧ r = 0 ∧ τ = wL σ 56 0 0 (nI b).toInt64) ∨ (o = none ∧ r = nI 1 ∧ τ = σ)) (fun τ t => va_P D vwCl (wsO ad cy τ) t.heap) (inA ad)) (vx_X (fun _ : Unit => False) (fun _ _ _ => False) (inA ad)) 1 6 (inA ad) := by
  refine vx_ofWH (cc := cL_never) (maxL := 4) (ret := some .int) (by decide +kernel) rfl ?_
  intro p e s m args below meth c s₁ B hml hv
  obtain ⟨rfl, ⟨hP, hK, hD, hE⟩, hT⟩ := hv
  have hts0 := atoms_spec (ws := .codeWith yL_never cL_never 4 (some .int) [(0, 9, 12, 13)] :: gt) B.pre
  have hts : ∀ w ∈ gt, w.before ([Value.ref (ad 7 0), .int p1, .ref (ad 56 0)] : List Value).toArray s = true := fun w hw => hts0 w (List.mem_cons_of_mem _ hw)
  have hown : s.vm.findClass yL_never.cls = some m.cls := findClass_of_methodNamed B.named
  have htab := vx_table (x := yL_never) B (hts0 _ List.mem_cons_self)
  have hle := lv_entry [Value.ref (ad 7 0), .int p1, .ref (ad 56 0)] (n := 4) (Nat.le_of_ble_eq_true rfl)
  rw [lg_entry_eq]
  obtain ⟨Qf, hQf⟩ : ∃ Qf : State → Prop, Qf = vx_MQ below (va_Qi (fun r (τ : St) => (∃ b, o = some b ∧ r = 0 ∧ τ = wL σ 56 0 0 (nI b).toInt64) ∨ (o = none ∧ r = nI 1 ∧ τ = σ)) (fun τ t => va_P D vwCl (wsO ad cy τ) t.heap) (inA ad)) (vx_X (fun _ : Unit => False) (fun _ _ _ => False) (inA ad)) ([Value.ref (ad 7 0), .int p1, .ref (ad 56 0)] : List Value).toArray s 1 6 (inA ad) := ⟨_, rfl⟩
  obtain ⟨YY, hYY⟩ : ∃ YY : Nat → Nat → Cx, YY = fun cells slots => ((p, l, e, rmL, s, m), (([Value.ref (ad 7 0), .int p1, .ref (ad 56 0)] : List Value).toArray, below, meth, c, cells, slots), (fun _ _ => Qf), ad, cy, D, adK, adV) := ⟨_, rfl⟩
  have C : ∀ cells slots, cells ≤ 1 → slots ≤ 6 → Ok (YY cells slots) RL cL_never 4 8 := fun cells slots h1 h2 => by
    rw [hYY]
    exact ⟨B.exec, B.bytes, hml, hown, hts, hK, hD, hE, by decide, by decide, h1, h2⟩
  have ea : ∀ cells slots, adr (YY cells slots) = ad := fun cells slots => by rw [hYY]
  -- the end: an answer, the world
  have fin : ∀ (pc : Nat) (lv : List (Nat × Value)) (x : Int32) (τ : St), decode cL_never pc = .ok (.ireturn, 1) → ((∃ b, o = some b ∧ x = 0 ∧ τ = wL σ 56 0 0 (nI b).toInt64) ∨ (o = none ∧ x = nI 1 ∧ τ = σ)) → V (YY 1 6) (fun _ : Unit => (none : Option Value)) pc lv [.int x] τ (some ((), τ)) := fun pc lv x τ hd hx => by
    rw [hYY]
    intro r σ' hr H locs ls hP' hS' hlv
    show W _ _ _ _ _ _ _ _ _ _ _ _ _ _ Qf _
    rw [hQf]
    refine vx_ret ?_
    exact W.iret B.exec B.bytes B.returns (fun t ht hW => ⟨⟨x, τ, rfl, hx, by show va_P D vwCl (wsO ad cy τ) t.heap; rw [ht]; exact hP'⟩, hS'.F ht⟩) hS'.2.2 hd B.notSynchronized
  have main : V (YY 0 0) (fun _ : Unit => (none : Option Value)) 0 [(0, .ref (ad 7 0)), (1, .int p1), (2, .ref (ad 56 0))] [] σ (some ((), σ)) := by
    have C0 := C 0 0 (by decide) (by decide)
    have C1 := C 1 6 (by decide) (by decide)
    refine v_aload_n 2 C0 dL_never_0 rfl ?_
    refine v_iconst C0 dL_never_1 kc_iconst_0 ?_
    refine v_aload_n 0 C0 dL_never_2 rfl ?_
    refine v_iload_n 1 C0 dL_never_3 rfl ?_
    rw [hYY]
    intro r σ' hr H locs ls hP' hS' hlv
    obtain ⟨⟨l1, l2, l3, l4, l5⟩, l6, l7, l8, T, N, l9⟩ := lv_L_7
    obtain ⟨i, hi⟩ := vl_at ck_7
    have hw := ws_at (ad := ad) (cy := cy) (σ := σ) hi
    rw [cE_o l8] at hw
    refine vx_calli (vx_runV (As := [.int p1]) (rest := [.int 0, .ref (ad 56 0)]) (C := yX7_never.cls) ⟨B.exec, B.bytes, hml, hown, hts⟩ (kX7_never hl hN) ⟨callB_of 1 hts (gt_call l5) rfl rfl rfl (hts _ l4) (hts _ l1) l6 ⟨by decide, by decide⟩, hts _ l2, hts _ l3⟩
      ⟨WdT.blind, va_recv hK hP' l9 hw, fun U hU hW => ⟨rfl, ⟨by rw [hU]; exact hP', va_K.moved hW.alike hK, hD, by rw [hU]; exact Ext.warm hW (hE.kept hS'.2.1)⟩, by rw [hU]; exact Et.warm hW (hT.kept hS'.2.1)⟩⟩ rfl rfl (by rw [← hml]; exact hlv.1) rfl (lv_room (show ([Value.int 0, Value.ref (ad 56 0)].map fun v => v.category).sum ≤ 8 from Nat.le_of_ble_eq_true rfl)) dL_never_4 ⟨by decide, by decide⟩) hS' (fun q _ h => h) (fun q h => h) (fun q _ h => h) ?_ ?_
    · intro E ce q9 u t H1 locs1 ht hal hon hB hz hk hS1 hce hcv hcl
      obtain ⟨rfl, hP1⟩ := hB
      rw [ht] at hP1
      refine vx_catch (own := RL) (name := NSE) (E := NSE) hown [] { startPc := 0, endPc := 9, handlerPc := 12, catchType := 13 } [] (by rw [htab]; rfl) (fun z hz => nomatch hz) (by decide) (by decide) (hts _ lnv_k) (va_Nw.use rfl (hT.2.2 _ (by simp [nsB]))) hce hcv hcl ?_
      have hV : V (YY 1 6) (fun _ : Unit => (none : Option Value)) 12 [] [.ref q9] σ (some ((), σ)) := by
        refine v_astore_n C1 dL_never_12 rfl (by decide) rfl ?_
        refine v_iconst C1 dL_never_13 kc_iconst_1 ?_
        exact fin 14 _ _ σ dL_never_14 (Or.inr ⟨hon, rfl, rfl⟩)
      rw [hYY] at hV
      exact hV () σ rfl H1 locs1 ls hP1 hS1 ⟨hlv.1, hlv.2.1, fun z hz => (nomatch hz)⟩
    · intro x u t H1 locs1 ht hal hpost hB hz hk hS1
      obtain ⟨b, hb, rfl⟩ := hpost
      have hP1 : va_P D vwCl (wsO ad cy σ) t.heap := hB
      rw [ht] at hP1
      have hV : V (YY 1 6) (fun _ : Unit => (none : Option Value)) 7 [] [.int (nI b), .int 0, .ref (ad 56 0)] σ (gi 0 1 (some ((), wL σ 56 0 (0 : Int32).toNatClampNeg (nI b).toInt64))) := by
        refine v_i2l C1 dL_never_7 ?_
        have e1 : V (YY 1 6) (fun _ : Unit => (none : Option Value)) 9 [] [] (wL σ 56 0 (0 : Int32).toNatClampNeg (nI b).toInt64) (some ((), wL σ 56 0 (0 : Int32).toNatClampNeg (nI b).toInt64)) := by
          refine v_goto (tgt := 15) C1 dL_never_9 (by decide) ?_
          refine v_iconst C1 dL_never_15 kc_iconst_0 ?_
          exact fin 16 _ _ _ dL_never_16 (Or.inl ⟨b, hb, rfl, by rw [sb_cl0]⟩)
        have e2 := v_lastore (X := YY 1 6) (ci := 56) (k := 0) (n := 1) (i := 0) (x := (nI b).toInt64) C1 dL_never_8 (by decide) rfl rfl e1
        rw [ea] at e2
        exact e2
      rw [hYY] at hV
      exact hV () _ (gi_0 (by decide)) H1 locs1 ls hP1 hS1 ⟨hlv.1, hlv.2.1, fun z hz => (nomatch hz)⟩
  rw [hYY, hQf] at main
  exact main () σ rfl s.heap [] _ hP va_S.rf (by rw [hml]; exact hle)
