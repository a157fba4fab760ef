/-! ===== a line; line after line ===== -/
theorem rz_s {a : Option (Int32 × St)} {x : Int32} {σ : St} (h : a = some (x, σ)) (hx : x = 0 ∨ x = nI 1) : (bd a fun (r : Int32) (σ' : St) => rz r σ') = some (x, σ) := by
  rw [h, bdS]
  rcases hx with hx | hx
  · rw [hx, rz_0]
  · rw [hx, rz_1]
theorem l_line {P : Nat} {σ0 σm0 σ σm : St} {T : Nat → Nat} {n p : Nat} {u : BU} {hd : Nat} {Ws : Nat → List Nat} (h : LN P σ0 σm0 σ σm T n p u hd Ws) :
    Fl P σ0 σm0 (fX3_readLine σ) (fX8_readLine σm) ∨ ∃ σ' σm' p' u' Ws', fX3_readLine σ = some (nI 1, σ') ∧ fX8_readLine σm = some (nI 1, σm') ∧ LN P σ0 σm0 σ' σm' T n p' u' 1 Ws' ∧ p < p' := by
  obtain ⟨σ1, e1, f1, s1⟩ := sy_step h.1
  have hk := h
  obtain ⟨hSY, hPC, hPM, hUP, hHd, hWO, hT, hP6, hFC, hFM⟩ := hk
  have hT1 : σ1.2.2 3 0 3 = P := by rw [f1.2.1]; exact hT.1
  have hPC1 := hPC.f3 f1
  have c1 := hFC.tr f1.fc
  have n6 := hUP.1
  have n12 := hUP.2.1
  have ck := s1.2.2.2.2.1
  have mk := s1.2.2.2.2.2
  have a0 := c_isWord (s := 0) (by omega) ck
  have a4 := c_isWord (s := 4) (by omega) ck
  have a5 := c_isWord (s := 5) (by omega) ck
  have b0 := m_isWord (s := 0) (by omega) s1.2.1 mk
  have b4 := m_isWord (s := 4) (by omega) s1.2.1 mk
  have b5 := m_isWord (s := 5) (by omega) s1.2.1 mk
  have hd01 : hd = 0 ∨ hd = 1 := by have := hHd.1; omega
  unfold fX3_readLine fX8_readLine
  simp only [jnD]
  rw [e1, bdS, a0, bdS, b0, bdS]
  by_cases w0 : wdB T n (tkQ T n p) 0 = true
  · rw [if_pos w0, if_neg (show ¬ nI 1 = 0 by decide), if_neg (show ¬ nI 1 = 0 by decide), hT1, gd_t hP6, hPC1.1.2.2]
    rcases hd01 with z | z
    · subst z
      rw [if_pos nI_0]
      rcases l_head h w0 σ1 f1 s1 with y | ⟨σ', σm', p', g, f, w, y1, y2, y3, y4⟩
      · left
        obtain ⟨σf, σmf, x1, x2, ⟨k, q, x3⟩⟩ := y.s
        rw [rz_s x1 (Or.inl rfl), rz_s x2 (Or.inl rfl)]
        exact ⟨σf, σmf, k, q, rfl, rfl, x3⟩
      · right
        exact ⟨σ', σm', p', _, Ws, rz_s y1 (Or.inr rfl), rz_s y2 (Or.inr rfl), y3, y4⟩
    · subst z
      left
      unfold fX8_readBus
      rw [if_neg (show ¬ nI 1 = 0 by decide), c_fail, bdS, rz_0, hPM.1.2.2, if_neg (show ¬ nI 1 = 0 by decide), m_fail, bdS, rz_0, bdS, rz_0]
      exact sk_fail s1 c1 hFM (by omega)
  · rw [if_neg w0, if_pos rfl, if_pos rfl, a4, bdS, b4, bdS, a5, bdS, b5, bdS]
    have beg6 : ∀ x : Int32, ¬ x = 0 → hd = 0 → fX8_begins x σm = some (0, wI (wI σm 8 0 15 (nI 6)) 8 0 16 (σm.1 8 0 11)) := fun x hx z => by
      subst z
      unfold fX8_begins
      rw [if_neg hx, hPM.1.2.2, if_pos nI_0, m_fail, bdS, rz_0]
    have beg5 : fX8_begins 0 σm = some (0, wI (wI σm 8 0 15 (nI 5)) 8 0 16 (σm.1 8 0 11)) := by
      unfold fX8_begins
      rw [if_pos rfl, m_fail, bdS, rz_0]
    by_cases w4 : wdB T n (tkQ T n p) 4 = true
    · rw [if_pos w4, if_neg (show ¬ nI 1 = 0 by decide), if_neg (show ¬ nI 1 = 0 by decide), if_neg (show ¬ nI 1 = 0 by decide), hT1, gd_t hP6, hPC1.1.2.2]
      rcases hd01 with z | z
      · left
        have hn0 := (hHd.2.2 z).1
        have mb : fX8_readBoard σm = some (0, wI (wI σm 8 0 15 (nI 6)) 8 0 16 (σm.1 8 0 11)) := by
          unfold fX8_readBoard
          simp only [jnD]
          rw [gi_n (by omega) (by omega), ltD, cl (by omega), hPM.1.1, if_neg (by rw [le_n (by omega) (by omega)]; omega), beg6 _ (by decide) z, bdS, if_pos rfl]
        rw [if_pos (by rw [z]; exact nI_0), c_fail, bdS, rz_0, rz_s mb (Or.inl rfl)]
        exact sk_fail s1 c1 hFM (by omega)
      · subst z
        rw [if_neg (show ¬ nI 1 = 0 by decide), gd_t hP6, hPC1.1.1]
        by_cases g : uN u < 6
        · rw [if_pos (by rw [lt_n (by omega) (by omega)]; exact g)]
          rcases l_board h g w4 σ1 f1 s1 with y | ⟨σ', σm', p', u', Ws', y1, y2, y3, y4⟩
          · left
            obtain ⟨σf, σmf, x1, x2, ⟨k, q, x3⟩⟩ := y.s
            rw [rz_s x1 (Or.inl rfl), rz_s x2 (Or.inl rfl)]
            exact ⟨σf, σmf, k, q, rfl, rfl, x3⟩
          · right
            exact ⟨σ', σm', p', u', Ws', rz_s y1 (Or.inr rfl), rz_s y2 (Or.inr rfl), y3, y4⟩
        · left
          have mb : fX8_readBoard σm = some (0, wI (wI σm 8 0 15 (nI 5)) 8 0 16 (σm.1 8 0 11)) := by
            unfold fX8_readBoard
            simp only [jnD]
            rw [gi_n (by omega) (by omega), ltD, cl (by omega), hPM.1.1, if_pos (by rw [le_n (by omega) (by omega)]; omega), beg5, bdS, if_pos rfl]
          rw [if_neg (by rw [lt_n (by omega) (by omega)]; exact g), c_fail, bdS, rz_0, rz_s mb (Or.inl rfl)]
          exact sk_fail s1 c1 hFM (by omega)
    · rw [if_neg w4, if_pos rfl, if_pos rfl]
      by_cases w5 : wdB T n (tkQ T n p) 5 = true
      · rw [if_pos w5, if_neg (show ¬ nI 1 = 0 by decide), if_neg (show ¬ nI 1 = 0 by decide), hT1, gd_t hP6, hPC1.1.2.2, if_pos rfl]
        rcases hd01 with z | z
        · left
          have hn0 := (hHd.2.2 z).2
          have mb : fX8_readAsk σm = some (0, wI (wI σm 8 0 15 (nI 6)) 8 0 16 (σm.1 8 0 11)) := by
            unfold fX8_readAsk
            simp only [jnD]
            rw [gi_n (by omega) (by omega), ltD, cl (by omega), hPM.1.2.1, if_neg (by rw [le_n (by omega) (by omega)]; omega), beg6 _ (by decide) z, bdS, if_pos rfl]
          rw [if_pos (by rw [z]; exact nI_0), c_fail, bdS, rz_0, rz_s mb (Or.inl rfl)]
          exact sk_fail s1 c1 hFM (by omega)
        · subst z
          rw [if_neg (show ¬ nI 1 = 0 by decide), gd_t hP6, hPC1.1.2.1]
          by_cases g : uA u < 12
          · rw [if_pos (by rw [lt_n (by omega) (by omega)]; exact g)]
            rcases l_ask h g w5 σ1 f1 s1 with y | ⟨σ', σm', p', u', Ws', y1, y2, y3, y4⟩
            · left
              obtain ⟨σf, σmf, x1, x2, ⟨k, q, x3⟩⟩ := y.s
              rw [rz_s x1 (Or.inl rfl), rz_s x2 (Or.inl rfl)]
              exact ⟨σf, σmf, k, q, rfl, rfl, x3⟩
            · right
              exact ⟨σ', σm', p', u', Ws', rz_s y1 (Or.inr rfl), rz_s y2 (Or.inr rfl), y3, y4⟩
          · left
            have mb : fX8_readAsk σm = some (0, wI (wI σm 8 0 15 (nI 5)) 8 0 16 (σm.1 8 0 11)) := by
              unfold fX8_readAsk
              simp only [jnD]
              rw [gi_n (by omega) (by omega), ltD, cl (by omega), hPM.1.2.1, if_pos (by rw [le_n (by omega) (by omega)]; omega), beg5, bdS, if_pos rfl]
            rw [if_neg (by rw [lt_n (by omega) (by omega)]; exact g), c_fail, bdS, rz_0, rz_s mb (Or.inl rfl)]
            exact sk_fail s1 c1 hFM (by omega)
      · left
        rw [if_neg w5, if_pos rfl, if_pos rfl, c_fail, bdS, rz_0, m_fail, bdS, rz_0]
        exact sk_fail s1 c1 hFM (by omega)
/-- all is read -/
def Rdy (P : Nat) (σ0 σm0 σ σm : St) : Prop := ∃ u Ws, PC σ P u 1 Ws ∧ PM σm u 1 Ws ∧ UP u ∧ HdOk u 1 ∧ 1 ≤ uN u ∧ FC P σ0 σ ∧ FM σm0 σm
def kRd (σ12 : St) : Option (Int32 × St) := (if (σ12.1 8 0 13) = 0 then gi (nI 3) 59 <| (jn (fun (σ13 : St) => some (nI 1, σ13)) fun j95 => if 0 < (σ12.1 45 0 (nI 3).toNatClampNeg) then j95 σ12 else bd (fX8_errs (nI 6) σ12) fun (r15 : Int32) (σ14 : St) => (if r15 = 0 then some (0, σ14) else j95 σ14)) else bd (fX8_errs (nI 1) σ12) fun (r17 : Int32) (σ16 : St) => rz r17 σ16)
def Red (P : Nat) (σ0 σm0 : St) (rc rm : Option (Int32 × St)) : Prop := (∃ σf σmf k, 1 ≤ k ∧ k ≤ 6 ∧ rc = some (nI k, σf) ∧ rm = some (0, σmf) ∧ σf.1 3 0 1 = nI k ∧ FlS P σ0 σm0 σf σmf) ∨ ∃ σ' σm', rc = some (0, σ') ∧ rm = some (nI 1, σm') ∧ Rdy P σ0 σm0 σ' σm'
theorem l_all {P : Nat} {σ0 σm0 : St} {T : Nat → Nat} {n : Nat} (hn : n ≤ 700) : ∀ (d fc fm p i : Nat) (σ σm : St) (u : BU) (hd : Nat) (Ws : Nat → List Nat), LN P σ0 σm0 σ σm T n p u hd Ws → n - p < d → d + 1 ≤ fc → d ≤ fm → i ≤ p → Red P σ0 σm0 (LX3_read_40 (fun (σ14 : St) => some (σ14.1 3 0 1, σ14)) fc (nI 1) (nI i) σ) (bd (fX8_readLine σm) fun (r8 : Int32) (σ7 : St) => (if r8 = 0 then some (0, σ7) else LX8_readAll_42 kRd fm σ7)) := by
  intro d
  induction d with
  | zero => intro fc fm p i σ σm u hd Ws _ x; omega
  | succ d ih =>
    intro fc fm p i σ σm u hd Ws h hd1 hfc hfm hip
    have hpn := h.1.2.2.1
    obtain ⟨c', ec⟩ : ∃ c', fc = c' + 1 := ⟨fc - 1, by omega⟩
    obtain ⟨c2, ec2⟩ : ∃ c2, c' = c2 + 1 := ⟨c' - 1, by omega⟩
    obtain ⟨m', em⟩ : ∃ m', fm = m' + 1 := ⟨fm - 1, by omega⟩
    subst ec em
    have stop : ∀ (σf : St) (j : Int32), LX3_read_40 (fun (σ14 : St) => some (σ14.1 3 0 1, σ14)) c' 0 j σf = some (σf.1 3 0 1, σf) := fun σf j => by
      rw [ec2, LX3_read_40, if_pos rfl]
    rw [LX3_read_40, if_neg (show ¬ nI 1 = 0 by decide), if_neg (by rw [lt_n (by omega) (by omega)]; omega)]
    simp only [jnD]
    rcases l_line h with y | ⟨σ', σm', p', u', Ws', y1, y2, y3, y4⟩
    · left
      obtain ⟨σf, σmf, x1, x2, x3⟩ := y.s
      obtain ⟨k, q, x4⟩ := id x3
      rw [x1, bdS, if_pos rfl, x2, bdS, if_pos rfl, stop, x4.2.2.1]
      exact ⟨σf, σmf, k, x4.1.1, x4.1.2, rfl, rfl, x4.2.2.1, x3⟩
    · rw [y1, bdS, if_neg (show ¬ nI 1 = 0 by decide), y2, bdS, if_neg (show ¬ nI 1 = 0 by decide)]
      obtain ⟨σ1, e1, f1, s1⟩ := sy_step y3.1
      obtain ⟨hSY, hPC, hPM, hUP, hHd, hWO, hT, hP6, hFC, hFM⟩ := y3
      have hT1 : σ1.2.2 3 0 3 = P := by rw [f1.2.1]; exact hT.1
      have hPC1 := hPC.f3 f1
      have c1 := hFC.tr f1.fc
      have n6 := hUP.1
      have hk := kM_eq _ (tkK_le T n (tkQ T n p'))
      have hk5 := tkK_le T n (tkQ T n p')
      have h13 := s1.2.2.2.2.2.2.2.1
      have h6 := s1.2.2.2.2.1.2.2.1
      have hend : ∀ k, 1 ≤ k ∧ k ≤ 6 → Red P σ0 σm0 (some (nI k, wI (wI σ1 3 0 1 (nI k)) 3 0 0 (σ1.1 3 0 7))) (some (0, wI (wI σm' 8 0 15 (nI k)) 8 0 16 (σm'.1 8 0 11))) := fun k hk6 => by
        obtain ⟨σf, σmf, x1, x2, x3⟩ := (sk_fail (k := k) s1 c1 hFM hk6).s
        cases x1
        cases x2
        exact Or.inl ⟨_, _, k, hk6.1, hk6.2, rfl, rfl, (wIj (by omega)).trans (wIe (by omega)), x3⟩
      unfold fX3_goesOn
      simp only [jnD]
      rw [e1, bdS, h6, LX8_readAll_42, h13]
      by_cases k0 : tkK T n (tkQ T n p') = 0
      · rw [if_pos (by rw [k0, nI_0]), hT1, gd_t hP6, hPC1.1.1, if_neg (show ¬ kM (tkK T n (tkQ T n p')) = nI 59 from fun z => by have := hk.2.2.1.mp z; omega)]
        unfold kRd
        simp only [jnD]
        rw [h13, if_pos (show kM (tkK T n (tkQ T n p')) = 0 from hk.2.2.2.mpr k0), gi_n (by omega) (by omega), cl (by omega), hPM.1.1]
        by_cases z : uN u' = 0
        · rw [if_pos (by rw [← nI_0, le_n (by omega) (by omega)]; omega), c_fail, bdS, rz_0, bdS, if_pos rfl, stop, if_neg (by rw [← nI_0, lt_n (by omega) (by omega)]; omega), m_fail, bdS, if_pos rfl, wIj (by omega), wIe (by omega)]
          exact hend 6 (by omega)
        · rw [if_neg (by rw [← nI_0, le_n (by omega) (by omega)]; omega), bdS, if_pos rfl, stop, if_pos (by rw [← nI_0, lt_n (by omega) (by omega)]; omega), f1.2.2 1 (by omega), hT.2]
          exact Or.inr ⟨σ1, σm', rfl, rfl, u', Ws', hPC1, hPM, hUP, hHd, by omega, c1, hFM⟩
      · rw [if_neg (by rw [← nI_0, eq_n (by omega) (by omega)]; exact k0)]
        by_cases k3 : tkK T n (tkQ T n p') = 3
        · rw [if_pos (by rw [k3]), bdS, if_neg (show ¬ nI 1 = 0 by decide), if_pos (show kM (tkK T n (tkQ T n p')) = nI 59 from hk.2.2.1.mpr k3), add_n]
          obtain ⟨σm2, z1, z2, z3⟩ := sk_go s1
          have hq := tkQ_ge T n p'
          have hq2 := tk_adv (T := T) (n := n) (q := tkQ T n p') (by omega)
          have hq3 := z3.2.2.1
          rw [z1, bdS]
          exact ih c' m' _ (i + 1) σ1 σm2 u' 1 Ws' ⟨z3, hPC1, hPM.f8 z2, hUP, hHd, hWO, ⟨hT1, (f1.2.2 1 (by omega)).trans hT.2⟩, hP6, c1, hFM.tr z2.fm⟩ (by omega) (by omega) (by omega) (by omega)
        · unfold kRd
          rw [if_neg (by rw [eq_n (by omega) (by omega)]; exact k3), c_fail, bdS, if_pos rfl, bdS, if_pos rfl, stop, if_neg (show ¬ kM (tkK T n (tkQ T n p')) = nI 59 from fun z => k3 (hk.2.2.1.mp z)), h13, if_neg (show ¬ kM (tkK T n (tkQ T n p')) = 0 from fun z => k0 (hk.2.2.2.mp z)), m_fail, bdS, rz_0, wIj (by omega), wIe (by omega)]
          exact hend 1 (by omega)
