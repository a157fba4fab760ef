/-! ===== the law asks ===== -/
abbrev lvL (X : Cx) (b : Nat) (i : Int32) : List (Nat × Value) := [(4, .int i), (3, .ref (adr X 56 0)), (2, .ref (adr X 8 0)), (1, .ref (adr X 7 0)), (0, .ref b)]
/-- six ints of the script from i on -/
def Inx (i : Int32) (L : Nat) : Prop := vp_in i L ∧ vp_in (i + 1) L ∧ vp_in (i + 2) L ∧ vp_in (i + 3) L ∧ vp_in (i + 4) L ∧ vp_in (i + 5) L
section VASK
variable {R : Type} {X : Cx} {g : R → Option Value} {own : String} {cc : ByteArray} {nL d pc : Nat} {lv : List (Nat × Value)} {st : List Value} {σ : St} {res : Option (R × St)}
theorem v_ask {ci k d1 n index maxL : Nat} {y : MethodName} {bytes : ByteArray} {ret : Option FieldType} {as : List Value} {fy : Option (Int32 × St)} {r1 : Int32} {σ1 : St} (C : Ok X own cc nL d) (hd : decode cc pc = .ok (.invokevirtual index, 3)) (hl : lkV own index ci y bytes maxL ret n) (hk : k < cnt ci) (hM : Kon X d1 y bytes maxL ret gI (.ref (adr X ci k) :: as) σ fy) (hdd : d1 + 1 ≤ d) (hn : as.length = n) (hst : (st.map fun v => v.category).sum ≤ 8) (he : fy = some (r1, σ1))
    (h : V X g (pc + 3) lv (.int r1 :: st) σ1 res) : V X g pc lv (as.reverse ++ .ref (adr X ci k) :: st) σ res := by
  have e : bd fy (fun _ _ => res) = res := by rw [he]; rfl
  have h2 : V X g pc lv (as.reverse ++ .ref (adr X ci k) :: st) σ (bd fy (fun _ _ => res)) := v_eV C hd hl hk hM hdd hn hst (fun r σ' h' => by
    rw [he] at h'
    cases h'
    exact h)
  rw [e] at h2
  exact h2
end VASK
/-- never, whatever the law has noted -/
theorem act_neverL (p : Int32) {σ : St} {N : Nat} (h : Rel σ N) : ∃ o : Option Nat, NvC σ p o ∧ fX8_never p σ = nvR σ o ∧ ∀ v : Int64, fX8_never p (wL σ 56 0 0 v) = nvR (wL σ 56 0 0 v) o := by
  obtain ⟨o, o1, o2, o3⟩ := act_never p h
  refine ⟨o, ⟨o1, o2⟩, o3, fun v => ?_⟩
  obtain ⟨o', p1, p2, p3⟩ := act_never p (rel_L (j := 0) v h)
  have e7 : (wL σ 56 0 0 v).1 = σ.1 := rfl
  rw [e7] at p2
  rcases h.2.2.2.2 with hN | ⟨b1, b2, u, t, s, a, t1, t2, hT, -⟩
  · have z : ∀ w : Int32, σ.1 7 0 8 = nI 1 → False := fun _ y => by rw [hN.1] at y; exact absurd y (by decide)
    have y1 : o = none := by
      rcases o2 with y | y | y
      · exact y.2
      · exact (z 0 y.1).elim
      · exact (z 0 y.1).elim
    have y2 : o' = none := by
      rcases p2 with y | y | y
      · exact y.2
      · exact (z 0 y.1).elim
      · exact (z 0 y.1).elim
    rw [y2] at p3
    rw [y1]
    exact p3
  · have hT' : Told u (wL σ 56 0 0 v) t s a := hT
    by_cases q : p < 0
    · obtain ⟨-, m2⟩ := m_nevers (p := p) hT' b2
      have y1 : o = none := by
        rcases o2 with y | y | y
        · exact y.2
        · exact y.2.2
        · exact absurd q y.2.1
      rw [y1]
      exact m2 q
    · obtain ⟨i, hi, rfl⟩ := nat_of q
      obtain ⟨m1, -⟩ := m_nevers (p := nI i) hT' b2
      obtain ⟨o4, n4, e4⟩ := m1 i rfl hi
      obtain ⟨m3, -⟩ := m_nevers (p := nI i) hT b2
      obtain ⟨o5, n5, e5⟩ := m3 i rfl hi
      have e : o4 = o5 := nvS_eq hT.1.sd n4 n5
      subst e
      have e6 : nvR σ o = nvR σ o4 := o3.symm.trans e5
      have e8 : o = o4 := by
        cases ho : o with
        | none =>
          cases h4 : o4 with
          | none => rfl
          | some b4 =>
            rw [ho, h4] at e6
            have := congrArg (fun z => z.map (fun y => y.2.1 8 0 0)) e6
            exact absurd this (by show ¬ some ((wI (wI σ 8 0 0 0) 8 0 0 (nI 1)).1 8 0 0) = some ((wI σ 8 0 0 0).1 8 0 0); rw [wIe ⟨rfl, rfl, rfl⟩, wIe ⟨rfl, rfl, rfl⟩]; decide)
        | some b5 =>
          cases h4 : o4 with
          | none =>
            rw [ho, h4] at e6
            have := congrArg (fun z => z.map (fun y => y.2.1 8 0 0)) e6
            exact absurd this (by show ¬ some ((wI σ 8 0 0 0).1 8 0 0) = some ((wI (wI σ 8 0 0 0) 8 0 0 (nI 1)).1 8 0 0); rw [wIe ⟨rfl, rfl, rfl⟩, wIe ⟨rfl, rfl, rfl⟩]; decide)
          | some b4 =>
            rw [ho, h4] at e6
            have e9 : nI b5 = nI b4 := by
              have := congrArg (fun z => z.map (fun y => y.1)) e6
              exact Option.some.inj this
            have l5 := o1 b5 ho
            rcases n4 with ⟨y, -⟩ | ⟨b', y, hb', -⟩
            · rw [y] at h4; cases h4
            · rw [y] at h4
              cases h4
              have := hT.1.n6
              rw [eq_n (by omega) (by omega)] at e9
              rw [e9]
      rw [e8]
      exact e4
