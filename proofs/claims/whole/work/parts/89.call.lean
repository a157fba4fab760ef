/-! ===== the law calls its never ===== -/
theorem lnv_ws : ∀ w ∈ va_wsS RL 181 yL_never (.codeWith yL_never cL_never 4 (some .int) [(0, 9, 12, 13)] :: gt), w ∈ gt := by
  intro w hw
  unfold va_wsS at hw
  rcases List.mem_append.mp hw with h | h
  · simp only [List.mem_cons, List.not_mem_nil, or_false] at h
    rcases h with rfl | rfl | rfl
    · exact gt_of 1185 (by decide +kernel) rfl
    · exact gt_of 1186 (by decide +kernel) rfl
    · exact gt_of 94 (by decide +kernel) rfl
  · rcases List.mem_cons.mp h with rfl | h
    · exact gt_of 1187 (by decide +kernel) rfl
    · exact h
def Etx (X : Cx) : Prop :=
  match X with
  | ((_, _, _, _, s, _), _, _, ad, _, _, _, _) => Et ad s s.heap
def Rmx (X : Cx) (k n : Nat) : Prop :=
  match X with
  | ((_, _, _, Rm, _, _), _, _, _, _, _, _, _) => k ≤ Rm.cells ∧ n ≤ Rm.slots
theorem v_lnever {R : Type} {X : Cx} {g : R → Option Value} {cc : ByteArray} {nL d pc k n : Nat} {lv : List (Nat × Value)} {st : List Value} {σ : St} {res : Option (R × St)} {p1 : Int32} {o : Option Nat}
    (C : Ok (Xw X k n) RL cc nL d) (hl : X.1.2.1.stackTraces = false) (hT : Etx X) (hd : decode cc pc = .ok (.invokestatic 181, 3)) (hN : NvC σ p1 o) (hd9 : 9 ≤ d) (hst : (st.map fun v => v.category).sum ≤ 8) (hrm : Rmx X (k + 1) (n + 6))
    (h0 : ∀ b, o = some b → V (Xw X (k + 1) (n + 6)) g (pc + 3) lv (.int 0 :: st) (wL σ 56 0 0 (nI b).toInt64) res) (h1 : o = none → V (Xw X (k + 1) (n + 6)) g (pc + 3) lv (.int (nI 1) :: st) σ res) :
    V (Xw X k n) g pc lv (.ref (adr X 56 0) :: .int p1 :: .ref (adr X 7 0) :: st) σ res := by
  obtain ⟨⟨p, l, e, Rm, s, m⟩, ⟨args, below, meth, c, cells, slots⟩, Q, ad, cy, D, adK, adV⟩ := X
  obtain ⟨hx, hb, hml, hown, hts, hK, hD, hE, hfr, hlo, hcl, hsl⟩ := C
  intro r σ' hr H locs ls hP' hS' hlv
  have hlo' : 40 * d ≤ Rm.locals := hlo
  have hfr' : d ≤ Rm.frames := hfr
  have hc8 : vx_CSW Rm s args RL 181 yL_never cL_never 4 (some .int) [(0, 9, 12, 13)] (.codeWith yL_never cL_never 4 (some .int) [(0, 9, 12, 13)] :: gt) rmL 1 6 3 :=
    vx_cwSW 3 hts (gt_in lnv_ws) rfl rfl rfl (by decide +kernel) ⟨by show 8 + 1 ≤ Rm.frames; omega, by show 8 + (4 + 11) + 320 ≤ Rm.locals; omega⟩
  refine vx_calli (vx_runSX (As := [.ref (ad 7 0), .int p1, .ref (ad 56 0)]) (rest := st) ⟨hx, hb, hml, hown, hts⟩ (kL_never hl hN) hc8
    ⟨WdT.blind, fun U hU hW => ⟨rfl, ⟨by rw [hU]; exact hP', va_K.moved hW.alike hK, hD, by rw [hU]; exact Ext.warm hW (hE.kept hS'.2.1)⟩, by rw [hU]; exact Et.warm hW (Et.kept hS'.2.1 hT)⟩⟩ rfl rfl (by rw [← hml]; exact hlv.1) rfl (lv_room hst) hd hrm) hS' (fun q _ h => h) (fun q h => h) (fun q _ h => h) ?_ ?_
  · intro E ce q9 u t H1 locs1 ht hal hon
    exact hon.elim
  · intro x τ t H1 locs1 ht hal hpost hB hz hk hS1
    have hP1 : va_P D vwCl (wsO ad cy τ) t.heap := hB
    rw [ht] at hP1
    rcases hpost with ⟨b, hb', rfl, rfl⟩ | ⟨hb', rfl, rfl⟩
    · exact h0 b hb' r σ' hr H1 locs1 ls hP1 hS1 hlv
    · exact h1 hb' r σ' hr H1 locs1 ls hP1 hS1 hlv
