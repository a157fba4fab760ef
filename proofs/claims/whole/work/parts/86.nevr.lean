/-! ===== OpenLines.never: it returns or throws ===== -/
def NSE : String := "java/util/NoSuchElementException"
def rxN : ByteArray := ⟨#[0x2a, 0x2b, 0xb7, 0, 13, 0xb1]⟩
def nmN : List String := ["java/lang/RuntimeException", "java/lang/Exception"]
def nseL : List Cond := (Bundle.ownAtomsX RX7 296 NSE 13 rxN nmN).filter vx_no
def nsB : List Cond := [.declares (Bundle.initS "java/lang/RuntimeException"), .declares (Bundle.initS "java/lang/Exception"), .declares (Bundle.initS Bundle.tN), .castable NSE NSE]
theorem nse_b : nseL.filter (fun w => !goodWord w) = nsB := by decide +kernel
theorem nse_g : nseL.filter goodWord = [112, 1219, 1228, 1230, 1233, 1235, 1220, 1221, 122, 123, 1222, 1227, 1231, 1251, 1209, 1252, 1211, 1253, 1213, 1223, 1225, 1215, 1247, 1248, 1250, 1215, 1238, 1239, 1240, 1241, 1241, 1242, 1243, 1244, 1244, 1245, 1246, 1247, 1237, 1198, 1206, 1207, 1208, 1210, 1212, 1214, 1218, 1217, 1216].filterMap (fun i => lw_tbl[i]?) := by decide +kernel
theorem nse_ot : ∀ w ∈ Cond.classLink RX7 292 NSE :: Cond.initialized NSE :: nseL, vx_ot w = true := List.all_eq_true.mp (by decide +kernel)
theorem nse_k : Cond.classLink RX7 292 NSE ∈ gt := gt_of 1197 (by decide +kernel) rfl
theorem nse_i : Cond.initialized NSE ∈ gt := gt_of 115 (by decide +kernel) rfl
theorem nse_in : ∀ w ∈ nseL.filter goodWord, w ∈ gt := fun w hw => by
  have hg := (List.mem_filter.mp hw).2
  rw [nse_g] at hw
  obtain ⟨i, -, hi⟩ := List.mem_filterMap.mp hw
  exact gt_of i hi hg
theorem nse_hat {args : Array Value} {s : State} (h : ∀ w ∈ gt, w.before args s = true) (hb : ∀ w ∈ nsB, va_Nw w s) : ∀ w ∈ nseL, w.before args s = true :=
  vx_hat (B := nsB) (fun w hw => h w (nse_in w hw)) (fun w hw => by rw [← nse_b]; exact hw) (fun w hw => by
    have h1 := hb w hw
    simp only [nsB, List.mem_cons, List.not_mem_nil, or_false] at hw
    rcases hw with rfl | rfl | rfl | rfl <;> exact va_Nw.use rfl h1)
/-- what a throw reads besides: two statics, four words -/
def Et (ad : Nat → Nat → Nat) (U : State) (H : Heap) : Prop := vx_Zq Bundle.tN "UNASSIGNED_STACK" Bundle.steD (inA ad) U H ∧ vx_Zq Bundle.tN "SUPPRESSED_SENTINEL" Bundle.listD (inA ad) U H ∧ ∀ w ∈ nsB, va_Nw w U
theorem Et.same {ad : Nat → Nat → Nat} {u U : State} {H : Heap} (hv : u.vm = U.vm) (h : Et ad u H) : Et ad U H := by
  have ha : u.vm.Alike U.vm := hv ▸ Vm.Alike.refl u.vm
  refine ⟨vx_Zq.moved ha h.1, vx_Zq.moved ha h.2.1, fun w hw => ?_⟩
  have h1 := h.2.2 w hw
  simp only [nsB, List.mem_cons, List.not_mem_nil, or_false] at hw
  rcases hw with rfl | rfl | rfl | rfl <;> exact va_Nw.same rfl hv h1
theorem Et.warm {ad : Nat → Nat → Nat} {s U : State} {H : Heap} (hW : s.WarmedH U.vm) (h : Et ad s H) : Et ad U H := by
  refine ⟨vx_Zq.moved hW.alike h.1, vx_Zq.moved hW.alike h.2.1, fun w hw => ?_⟩
  have h1 := h.2.2 w hw
  simp only [nsB, List.mem_cons, List.not_mem_nil, or_false] at hw
  rcases hw with rfl | rfl | rfl | rfl
  · exact va_tabs rfl (rfl : (s.setVm U.vm).vm = U.vm) (by rw [Cond.declares_setVm hW.alike]; exact h1)
  · exact va_tabs rfl (rfl : (s.setVm U.vm).vm = U.vm) (by rw [Cond.declares_setVm hW.alike]; exact h1)
  · exact va_tabs rfl (rfl : (s.setVm U.vm).vm = U.vm) (by rw [Cond.declares_setVm hW.alike]; exact h1)
  · exact va_Nw.warmC hW h1
theorem Et.kept {ad : Nat → Nat → Nat} {U : State} {H H1 : Heap} (hq : ∀ a : Nat, a < H.size → ¬ inA ad a → H1[a]? = H[a]?) (h : Et ad U H) : Et ad U H1 := ⟨h.1.kept hq, h.2.1.kept hq, h.2.2⟩
def WdT (ad : Nat → Nat → Nat) (cy : Nat → ClassId) (D : va_G) (adK adV : Nat → Nat) (σ : St) (U : State) : Prop := Wd ad cy D adK adV σ U ∧ Et ad U U.heap
theorem WdT.blind {ad : Nat → Nat → Nat} {cy : Nat → ClassId} {D : va_G} {adK adV : Nat → Nat} {σ : St} {av : List Value} : FrameBlind (va_Pc av (WdT ad cy D adK adV σ)) := by
  intro a U g mk h
  obtain ⟨h0, h1, h2⟩ := h
  have hb := Wd.blind (ad := ad) (cy := cy) (D := D) (adK := adK) (adV := adV) (σ := σ) (av := av) a U g mk ⟨h0, h1⟩
  exact ⟨hb.1, hb.2, Et.same (u := U) (U := U.calling g mk a) rfl h2⟩
def rmN : Room := { frames := 6, cells := 1, slots := 6, locals := 240 }
/-- what never finds: a board, or none -/
def NvC (σ : St) (p : Int32) (o : Option Nat) : Prop := (∀ b, o = some b → b < 6) ∧ ((σ.1 7 0 8 = 0 ∧ o = none) ∨ (σ.1 7 0 8 = nI 1 ∧ p < 0 ∧ o = none) ∨ (σ.1 7 0 8 = nI 1 ∧ ¬ p < 0 ∧ fX4_neverMaster 0 p σ = some (ov o, σ)))
theorem kX7_never {l : Launch} (hl : l.stackTraces = false) {ad : Nat → Nat → Nat} {cy : Nat → ClassId} {D : va_G} {adK adV : Nat → Nat} {σ : St} {p1 : Int32} {o : Option Nat} (hN : NvC σ p1 o) :
    vx_Met l yX7_never (.code yX7_never cX7_never 3 (some .int) :: gt) rmN (va_Pc [.ref (ad 7 0), .int p1] (WdT ad cy D adK adV σ)) (va_Qi (fun r (_ : Unit) => ∃ b, o = some b ∧ r = nI b) (fun _ t => va_P D vwCl (wsO ad cy σ) t.heap) (inA ad)) (vx_X (fun _ : Unit => o = none) (fun E _ t => E = NSE ∧ va_P D vwCl (wsO ad cy σ) t.heap) (inA ad)) 1 6 (inA ad) := by
  refine vx_ofW (cc := cX7_never) (maxL := 3) (ret := some .int) (by decide +kernel) rfl ?_
  intro p e s m args below meth c s₁ B hml htab hv
  obtain ⟨rfl, ⟨hP, hK, hD, hE⟩, hT⟩ := hv
  have hts := atoms_spec (ws := .code yX7_never cX7_never 3 (some .int) :: gt) B.pre
  have hown : s.vm.findClass yX7_never.cls = some m.cls := findClass_of_methodNamed B.named
  have hle := lv_entry [Value.ref (ad 7 0), .int p1] (n := 3) (Nat.le_of_ble_eq_true rfl)
  rw [lg_entry_eq]
  obtain ⟨Y, hY⟩ : ∃ Y : Cx, Y = ((p, l, e, rmN, s, m), (([Value.ref (ad 7 0), .int p1] : List Value).toArray, below, meth, c, 0, 0), (fun _ _ => vx_MQ below (va_Qi (fun r (_ : Unit) => ∃ b, o = some b ∧ r = nI b) (fun _ t => va_P D vwCl (wsO ad cy σ) t.heap) (inA ad)) (vx_X (fun _ : Unit => o = none) (fun E _ t => E = NSE ∧ va_P D vwCl (wsO ad cy σ) t.heap) (inA ad)) ([Value.ref (ad 7 0), .int p1] : List Value).toArray s 1 6 (inA ad)), ad, cy, D, adK, adV) := ⟨_, rfl⟩
  have C : Ok Y RX7 cX7_never 3 6 := by
    rw [hY]
    exact ⟨B.exec, B.bytes, hml, hown, fun w hw => hts w (List.mem_cons_of_mem _ hw), hK, hD, hE, by decide, by decide, by decide, by decide⟩
  have main : V Y (fun _ : Unit => (none : Option Value)) 0 [(0, .ref (adr Y 7 0)), (1, .int p1)] [] σ (some ((), σ)) := by
    have tail : ∀ x : Int32, x = ov o → V Y (fun _ : Unit => (none : Option Value)) 23 [(0, .ref (adr Y 7 0)), (1, .int p1)] [.int x] σ (some ((), σ)) := fun x hx => by
      refine v_istore_n C dX7_never_23 rfl (by decide) rfl ?_
      refine v_iload_n 0 C dX7_never_24 rfl ?_
      refine v_iconst C dX7_never_25 (v := -1) (by decide) ?_
      refine v_icmp_ne_b (tgt := 40) C dX7_never_26 (by decide) (fun h => ?_) (fun h => ?_)
      · refine v_iload_n 0 C dX7_never_40 rfl ?_
        rw [hY]
        intro r σ' hr H locs ls hP' hS' hlv
        refine fun T hT X => vx_ret ?_ T hT (stand_widen X (show 0 ≤ 1 by decide) (show 0 ≤ 6 by decide))
        refine W.iret B.exec B.bytes B.returns (fun t ht hW => ⟨⟨x, (), rfl, ?_, by show va_P D vwCl (wsO ad cy σ) t.heap; rw [ht]; exact hP'⟩, hS'.F ht⟩) hS'.2.2 dX7_never_41 B.notSynchronized
        cases ho : o with
        | none => rw [ho] at hx; exact absurd hx h
        | some b => rw [ho] at hx; exact ⟨b, rfl, hx⟩
      · rw [hY]
        intro r σ' hr H locs ls hP' hS' hlv
        have hon : o = none := by
          cases ho : o with
          | none => rfl
          | some b =>
            rw [hx, ho] at h
            have hb := hN.1 b ho
            have key : ∀ b, b < 6 → ¬ nI b = -1 := by decide
            exact absurd h (key b hb)
        exact nse_row (names := nmN) (ix := 13) (rx := rxN) (text := "no such board") (sa := adK 9) (A := inA ad) B.exec B.bytes hl (by decide +kernel) (by decide +kernel) (by decide +kernel) (by decide +kernel) hown (by decide +kernel) (by decide +kernel)
          (hts _ (List.mem_cons_of_mem _ nse_k)) (hts _ (List.mem_cons_of_mem _ nse_i)) (hE.2.1 (RX7, 294, "no such board", 9) (by decide +kernel)) (nse_hat (fun w hw => hts w (List.mem_cons_of_mem _ hw)) hT.2.2) nse_ot hT.1 hT.2.1 hS' hlv.1
          dX7_never_29 dX7_never_32 dX7_never_33 dX7_never_36 dX7_never_39 (fun z hz => (htab z hz).elim) (by decide) (by decide) (by decide) (by decide) B.notSynchronized
          (fun t ha hz hk => ⟨(), hon, ⟨rfl, hP'.kept (fun k x hx => hk x.1 ((hP' k x hx).lt))⟩, ⟨Nat.le_trans hS'.1 hz, fun q h1 h2 => (hk q (Nat.lt_of_lt_of_le h1 hS'.1)).trans (hS'.2.1 q h1 h2)⟩⟩) hS'.2.2 (by decide) (by decide)
    refine v_aload_n 0 C dX7_never_0 rfl ?_
    refine v_geti C dX7_never_1 lf_X7_89 ck_7 (by decide) ?_
    refine v_if_eq_b (tgt := 22) C dX7_never_4 (by decide) (fun h => ?_) (fun h => ?_)
    · refine v_iconst C dX7_never_22 (v := -1) (by decide) ?_
      refine tail _ ?_
      rcases hN.2 with z | z | z
      · rw [z.2]; rfl
      · rw [z.2.2]; rfl
      · rw [z.1] at h; exact absurd h (by decide)
    · refine v_iload_n 1 C dX7_never_7 rfl ?_
      refine v_if_lt_b (tgt := 22) C dX7_never_8 (by decide) (fun h' => ?_) (fun h' => ?_)
      · refine v_iconst C dX7_never_22 (v := -1) (by decide) ?_
        refine tail _ ?_
        rcases hN.2 with z | z | z
        · rw [z.2]; rfl
        · rw [z.2.2]; rfl
        · exact absurd h' z.2.1
      · have hc : fX4_neverMaster 0 p1 σ = some (ov o, σ) := by
          rcases hN.2 with z | z | z
          · exact absurd z.1 h
          · exact absurd z.2.1 h'
          · exact z.2.2
        refine v_aload_n 0 C dX7_never_11 rfl ?_
        refine v_getk C dX7_never_12 lf_X7_35 ck_7 rfl ?_
        refine v_iload_n 1 C dX7_never_15 rfl ?_
        have e : (some ((), σ) : Option (Unit × St)) = bd (fX4_neverMaster 0 p1 σ) (fun _ σ1 => some ((), σ1)) := by rw [hc]; rfl
        rw [e]
        refine v_eV (as := [.int p1]) C dX7_never_16 lv_X7_289 ck_4 (kX4_neverMaster 0 p1 ck_4 σ) (by decide) rfl (by decide) (fun r1 σ1 h1 => ?_)
        rw [hc] at h1
        cases h1
        refine v_goto (tgt := 23) C dX7_never_19 (by decide) ?_
        exact tail _ rfl
  rw [hY] at main
  exact main () σ rfl s.heap [] _ hP va_S.rf (by rw [hml]; exact hle)
