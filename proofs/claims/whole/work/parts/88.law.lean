/-! ===== the law's frame: its script, its room ===== -/
/-- the script lies where the law began, outside the system's cells -/
def Sc (X : Cx) (b L : Nat) (xs : Nat → Int32) : Prop :=
  match X with
  | ((_, _, _, _, s, _), _, _, ad, _, _, _, _) => va_X b L xs s s.heap ∧ b < s.heap.size ∧ ¬ inA ad b
section LAWR
variable {R : Type} {X : Cx} {g : R → Option Value} {own : String} {cc : ByteArray} {nL d pc : Nat} {lv : List (Nat × Value)} {st : List Value} {σ : St} {res : Option (R × St)}
theorem v_sld {b L : Nat} {xs : Nat → Int32} {i : Int32} (C : Ok X own cc nL d) (hs : Sc X b L xs) (hin : vp_in i L) (hd : decode cc pc = .ok (.iaload, 1)) (h : V X g (pc + 1) lv (.int (xs i.toNatClampNeg) :: st) σ res) : V X g pc lv (.int i :: .ref b :: st) σ res := by
  obtain ⟨⟨p, l, e, Rm, s, m⟩, ⟨args, below, meth, c, cells, slots⟩, Q, ad, cy, D, adK, adV⟩ := X
  obtain ⟨hx, hb, hml, hown, hts, hK, hD, hE, hfr, hlo, hcl, hsl⟩ := C
  intro r σ' hr H locs ls hP hS hlv
  exact va_sld hx hb hs.1 hs.2.1 hs.2.2 hS hin hd (h r σ' hr H locs ls hP hS hlv)
theorem v_slen {b L : Nat} {xs : Nat → Int32} (C : Ok X own cc nL d) (hs : Sc X b L xs) (hd : decode cc pc = .ok (.arraylength, 1)) (h : V X g (pc + 1) lv (.int (Int32.ofNat L) :: st) σ res) : V X g pc lv (.ref b :: st) σ res := by
  obtain ⟨⟨p, l, e, Rm, s, m⟩, ⟨args, below, meth, c, cells, slots⟩, Q, ad, cy, D, adK, adV⟩ := X
  obtain ⟨hx, hb, hml, hown, hts, hK, hD, hE, hfr, hlo, hcl, hsl⟩ := C
  intro r σ' hr H locs ls hP hS hlv
  exact va_slen hx hb hs.1 hs.2.1 hs.2.2 hS hd (h r σ' hr H locs ls hP hS hlv)
/-- the same frame with its count of cells and slots set -/
def Xw (X : Cx) (k n : Nat) : Cx :=
  match X with
  | (a, (args, below, meth, c, _, _), r) => (a, (args, below, meth, c, k, n), r)
theorem v_widen {k n k' n' : Nat} (h1 : k ≤ k') (h2 : n ≤ n') (h : V (Xw X k' n') g pc lv st σ res) : V (Xw X k n) g pc lv st σ res := by
  obtain ⟨⟨p, l, e, Rm, s, m⟩, ⟨args, below, meth, c, cells, slots⟩, Q, ad, cy, D, adK, adV⟩ := X
  intro r σ' hr H locs ls hP hS hlv
  exact fun T hT Z => h r σ' hr H locs ls hP hS hlv T hT (stand_widen Z h1 h2)
end LAWR
