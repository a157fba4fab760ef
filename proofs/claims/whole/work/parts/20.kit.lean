/-! ===== pure: numbers, bits, worlds, loops ===== -/
theorem rI (σ : St) (ci k j : Nat) (v : Int32) (a b c : Nat) : (wI σ ci k j v).1 a b c = if a = ci ∧ b = k ∧ c = j then v else σ.1 a b c := by
  show (if a = ci ∧ b = k then upd (σ.1 ci k) j v else σ.1 a b) c = _
  by_cases h : a = ci ∧ b = k
  · obtain ⟨rfl, rfl⟩ := h
    rw [if_pos ⟨rfl, rfl⟩]
    by_cases h2 : c = j
    · subst h2
      rw [if_pos ⟨rfl, rfl, rfl⟩, pk_us]
    · rw [if_neg (fun z => h2 z.2.2), pk_un h2]
  · rw [if_neg h, if_neg (fun z => h ⟨z.1, z.2.1⟩)]
theorem wI2 (σ : St) (ci k j : Nat) (v : Int32) : (wI σ ci k j v).2 = σ.2 := rfl
theorem rA (σ : St) (ci k : Nat) (f : Nat → Int32) (a b : Nat) : (wA σ ci k f).1 a b = if a = ci ∧ b = k then f else σ.1 a b := rfl
theorem wA2 (σ : St) (ci k : Nat) (f : Nat → Int32) : (wA σ ci k f).2 = σ.2 := rfl
theorem wR1 (σ : St) (ci k j v : Nat) : (wR σ ci k j v).1 = σ.1 := rfl
theorem wR21 (σ : St) (ci k j v : Nat) : (wR σ ci k j v).2.1 = σ.2.1 := rfl
theorem rR (σ : St) (ci k j v a b c : Nat) : (wR σ ci k j v).2.2 a b c = if a = ci ∧ b = k ∧ c = j then v else σ.2.2 a b c := rfl
theorem wL1 (σ : St) (ci k j : Nat) (v : Int64) : (wL σ ci k j v).1 = σ.1 := rfl
theorem wL22 (σ : St) (ci k j : Nat) (v : Int64) : (wL σ ci k j v).2.2 = σ.2.2 := rfl
theorem rL (σ : St) (ci k j : Nat) (v : Int64) (a b c : Nat) : (wL σ ci k j v).2.1 a b c = if a = ci ∧ b = k ∧ c = j then v else σ.2.1 a b c := by
  show (if a = ci ∧ b = k then vp_updL (σ.2.1 ci k) j v else σ.2.1 a b) c = _
  by_cases h : a = ci ∧ b = k
  · obtain ⟨rfl, rfl⟩ := h
    rw [if_pos ⟨rfl, rfl⟩]
    by_cases h2 : c = j
    · subst h2
      rw [if_pos ⟨rfl, rfl, rfl⟩, pk_uLs]
    · rw [if_neg (fun z => h2 z.2.2), pk_uLn h2]
  · rw [if_neg h, if_neg (fun z => h ⟨z.1, z.2.1⟩)]
theorem bdS {α β : Type} (r : α) (σ : St) (k : α → St → Option β) : bd (some (r, σ)) k = k r σ := rfl
theorem ltD {α β : Type} (v : α) (k : α → β) : lt v k = k v := rfl
theorem jnD {α β : Type} (v : α) (k : α → β) : jn v k = k v := rfl
theorem gi_n {α : Type} {a n : Nat} {x : Option α} (h : a < n) (hn : n < 2147483648) : gi (nI a) n x = x := by
  unfold gi ib
  rw [nI_clamp (show a < 2 ^ 31 by omega), decide_eq_false (nI_pos (show a < 2 ^ 31 by omega)), decide_eq_false (Nat.not_le.mpr h)]
  rfl
theorem gi_0 {α : Type} {n : Nat} {x : Option α} (h : 0 < n) : gi 0 n x = x := by
  unfold gi ib
  rw [sb_cl0, decide_eq_false (show ¬ (0 : Int32) < 0 by decide), decide_eq_false (Nat.not_le.mpr h)]
  rfl
theorem gd_t {α : Type} {c : Prop} [Decidable c] {x : Option α} (h : c) : gd c x = x := if_pos h
theorem rz_1 (σ : St) : rz (nI 1) σ = some (nI 1, σ) := rfl
theorem rz_0 (σ : St) : rz 0 σ = some (0, σ) := rfl
theorem rz_if (c : Prop) [Decidable c] (σ : St) : rz (if c then nI 1 else 0) σ = some (if c then nI 1 else 0, σ) := by split <;> rfl
theorem rz_ifn (c : Prop) [Decidable c] (σ : St) : rz (if c then 0 else nI 1) σ = some (if c then 0 else nI 1, σ) := by split <;> rfl
theorem cl {a : Nat} (h : a < 2147483648) : (nI a).toNatClampNeg = a := nI_clamp h
theorem le_n {a b : Nat} (ha : a < 2147483648) (hb : b < 2147483648) : (nI a ≤ nI b) = (a ≤ b) := propext (nI_leI ha hb)
theorem lt_n {a b : Nat} (ha : a < 2147483648) (hb : b < 2147483648) : (nI a < nI b) = (a < b) := propext (nI_ltI ha hb)
theorem eq_n {a b : Nat} (ha : a < 2147483648) (hb : b < 2147483648) : (nI a = nI b) = (a = b) := propext (nI_eq ha hb)
theorem eq_0 {a : Nat} (ha : a < 2147483648) : (nI a = 0) = (a = 0) := by rw [← nI_0]; exact eq_n ha (by omega)
theorem ge_0 {a : Nat} (ha : a < 2147483648) : (0 ≤ nI a) = True := by rw [← nI_0, le_n (by omega) ha]; simp
theorem lt_0n {a : Nat} (ha : a < 2147483648) : (nI a < 0) = False := by rw [← nI_0, lt_n ha (by omega)]; simp
theorem gt_0 {a : Nat} (ha : a < 2147483648) : (0 < nI a) = (0 < a) := by rw [← nI_0, lt_n (by omega) ha]
theorem le_0 {a : Nat} (ha : a < 2147483648) : (nI a ≤ 0) = (a = 0) := by rw [← nI_0, le_n ha (by omega)]; simp
theorem nm1 {a : Nat} (ha : a < 2147483648) : (nI a = -1) = False := by
  refine eq_false fun h => ?_
  have h2 := congrArg Int32.toInt h
  rw [nI_toInt ha] at h2
  have : (-1 : Int32).toInt = -1 := by decide
  omega
theorem nm2 {a : Nat} (ha : a < 2147483648) : (nI a = -2) = False := by
  refine eq_false fun h => ?_
  have h2 := congrArg Int32.toInt h
  rw [nI_toInt ha] at h2
  have : (-2 : Int32).toInt = -2 := by decide
  omega
theorem m1n {a : Nat} (ha : a < 2147483648) : ((-1 : Int32) = nI a) = False := (propext eq_comm).trans (nm1 ha)
theorem m2n {a : Nat} (ha : a < 2147483648) : ((-2 : Int32) = nI a) = False := (propext eq_comm).trans (nm2 ha)
theorem add_n (a b : Nat) : nI a + nI b = nI (a + b) := nI_add a b
theorem mul_n (a b : Nat) : nI a * nI b = nI (a * b) := pk_mul a b
theorem sub_n {a b : Nat} (h : b ≤ a) : nI a - nI b = nI (a - b) := pk_sub h
theorem add_0 (x : Int32) : x + 0 = x := Int32.add_zero x
theorem zero_add (x : Int32) : 0 + x = x := Int32.zero_add x
theorem rem_n {a d : Nat} (ha : a < 2147483648) (h0 : 0 < d) (hd : d < 2147483648) : nI a - nI a / nI d * nI d = nI (a % d) := pk_rem ha h0 hd
theorem and_n (a b : Nat) : nI a &&& nI b = nI (a &&& b) := by
  apply Int32.toBitVec_inj.1
  show BitVec.ofNat 32 a &&& BitVec.ofNat 32 b = BitVec.ofNat 32 (a &&& b)
  apply BitVec.eq_of_getLsbD_eq
  intro i hi
  simp [hi]
theorem or_n (a b : Nat) : nI a ||| nI b = nI (a ||| b) := by
  apply Int32.toBitVec_inj.1
  show BitVec.ofNat 32 a ||| BitVec.ofNat 32 b = BitVec.ofNat 32 (a ||| b)
  apply BitVec.eq_of_getLsbD_eq
  intro i hi
  simp [hi]
theorem xor_n (a b : Nat) : nI a ^^^ nI b = nI (a ^^^ b) := by
  apply Int32.toBitVec_inj.1
  show BitVec.ofNat 32 a ^^^ BitVec.ofNat 32 b = BitVec.ofNat 32 (a ^^^ b)
  apply BitVec.eq_of_getLsbD_eq
  intro i hi
  simp [hi]
/-- what is in a and not in b -/
def nan (a b : Nat) : Nat := a ^^^ (a &&& b)
theorem nan_bit (a b i : Nat) : (nan a b).testBit i = (a.testBit i && !b.testBit i) := by
  unfold nan
  rw [Nat.testBit_xor, Nat.testBit_and]
  cases a.testBit i <;> cases b.testBit i <;> rfl
theorem nan_n {a : Nat} (b : Nat) (ha : a < 2147483648) : nI a &&& (nI b ^^^ (-1)) = nI (nan a b) := by
  apply Int32.toBitVec_inj.1
  show BitVec.ofNat 32 a &&& (BitVec.ofNat 32 b ^^^ (-1 : Int32).toBitVec) = BitVec.ofNat 32 (nan a b)
  have e : (-1 : Int32).toBitVec = BitVec.allOnes 32 := by decide
  rw [e]
  apply BitVec.eq_of_getLsbD_eq
  intro i hi
  rw [BitVec.getLsbD_and, BitVec.getLsbD_xor, BitVec.getLsbD_allOnes, BitVec.getLsbD_ofNat, BitVec.getLsbD_ofNat, BitVec.getLsbD_ofNat, nan_bit, decide_eq_true hi]
  cases a.testBit i <;> cases b.testBit i <;> rfl
theorem or_0 (x : Int32) : x ||| 0 = x := Int32.or_zero
theorem zero_or (x : Int32) : 0 ||| x = x := Int32.zero_or
theorem sl_5 : ∀ n, n < 32 → ((nI n &&& 31).toBitVec.smod 32).toNat = n := by decide +kernel
theorem shl_1 {k : Nat} (h : k < 31) : nI 1 <<< (nI k &&& 31) = nI (2 ^ k) := by
  rw [pk_shlN _ k (sl_5 k (by omega)), Nat.one_mul]
  rw [Nat.one_mul]
  exact Nat.pow_lt_pow_right (by omega) (by omega)
theorem shr_n {a k : Nat} (ha : a < 2147483648) (h : k < 32) : nI a >>> (nI k &&& 31) = nI (a >>> k) := by
  rw [pk_shrN (show a < 2 ^ 31 by omega) _ k (sl_5 k h), Nat.shiftRight_eq_div_pow]
theorem shr_le (a k : Nat) : a >>> k ≤ a := by
  rw [Nat.shiftRight_eq_div_pow]
  exact Nat.div_le_self _ _
theorem bit_n {a k : Nat} (ha : a < 2147483648) (h : k < 32) : ((nI a >>> (nI k &&& 31)) &&& nI 1 = 0) = (a.testBit k = false) := by
  rw [shr_n ha h, and_n, Nat.and_one_is_mod]
  have h2 := shr_le a k
  rw [eq_0 (by omega), Nat.testBit_eq_decide_div_mod_eq, Nat.shiftRight_eq_div_pow, decide_eq_false_iff_not]
  generalize a / 2 ^ k = z
  apply propext
  omega
theorem bit_n1 {a k : Nat} (ha : a < 2147483648) (h : k < 32) : ((nI a >>> (nI k &&& 31)) &&& nI 1 = nI 1) = (a.testBit k = true) := by
  rw [shr_n ha h, and_n, Nat.and_one_is_mod]
  have h2 := shr_le a k
  rw [eq_n (by omega) (by omega), Nat.testBit_eq_decide_div_mod_eq, Nat.shiftRight_eq_div_pow, decide_eq_true_iff]
theorem has8 {a k : Nat} (ha : a < 2147483648) (h : k < 32) : fX8_has (nI a) (nI k) = if a.testBit k = true then nI 1 else 0 := by
  unfold fX8_has
  simp only [bit_n1 ha h]
theorem has7 {a k : Nat} (ha : a < 2147483648) (h : k < 32) : fX7_has (nI a) (nI k) = if a.testBit k = true then nI 1 else 0 := by
  unfold fX7_has
  simp only [bit_n ha h]
  cases a.testBit k <;> rfl
theorem at8 (b w : Nat) : fX8_at (nI b) (nI w) = nI (18 + 12 * b + w) := by
  unfold fX8_at
  simp only [add_n, mul_n]
theorem at8_0 (b : Nat) : fX8_at (nI b) 0 = nI (18 + 12 * b) := by
  unfold fX8_at
  simp only [add_n, mul_n, add_0]
theorem cell8 (b t : Nat) : fX8_cell (nI b) (nI t) = nI (401 * b + t) := by
  unfold fX8_cell
  simp only [add_n, mul_n]
/-- a set of the numbers below n -/
def bsN : Nat → (Nat → Bool) → Nat
  | 0, _ => 0
  | n + 1, p => bsN n p ||| (if p n = true then 2 ^ n else 0)
theorem bsN_bit (n : Nat) (p : Nat → Bool) (i : Nat) : (bsN n p).testBit i = (decide (i < n) && p i) := by
  induction n with
  | zero => simp [bsN]
  | succ n ih =>
    rw [bsN, Nat.testBit_or, ih]
    by_cases h : p n = true
    · rw [if_pos h, Nat.testBit_two_pow]
      by_cases e : n = i
      · subst e; simp [h]
      · have : (i < n + 1) = (i < n) := propext (by omega)
        simp [e, this]
    · rw [if_neg h]
      by_cases e : n = i
      · subst e; simp [h]
      · have : (i < n + 1) = (i < n) := propext (by omega)
        simp [this]
theorem bsN_lt (n : Nat) (p : Nat → Bool) : bsN n p < 2 ^ n := by
  apply Nat.lt_pow_two_of_testBit
  intro i hi
  rw [bsN_bit, decide_eq_false (by omega)]
  rfl
theorem bsN_64 {n : Nat} (h : n ≤ 6) (p : Nat → Bool) : bsN n p < 64 := Nat.lt_of_lt_of_le (bsN_lt n p) (Nat.pow_le_pow_right (by omega) h)
theorem bsN_congr {n : Nat} {p q : Nat → Bool} (h : ∀ i, i < n → p i = q i) : bsN n p = bsN n q := by
  induction n with
  | zero => rfl
  | succ n ih => rw [bsN, bsN, ih (fun i hi => h i (by omega)), h n (by omega)]
theorem FU_gt : 90000 < FU := Classical.choose_spec fu_ex
/-- a loop that counts up to B -/
theorem lpU {S α : Type} (F : Nat → Nat → S → α) (ke : S → α) (B : Nat) (I : Nat → S → Prop) (hx : ∀ n s, I B s → F (n + 1) B s = ke s) (hs : ∀ n i s, i < B → I i s → ∃ s', I (i + 1) s' ∧ F (n + 1) i s = F n (i + 1) s') : ∀ (d i : Nat) (s : S) (n : Nat), i + d = B → d < n → I i s → ∃ s', I B s' ∧ F n i s = ke s' := by
  intro d
  induction d with
  | zero =>
    intro i s n hi hn hI
    cases n with
    | zero => omega
    | succ n =>
      rw [Nat.add_zero] at hi
      subst hi
      exact ⟨s, hI, hx n s hI⟩
  | succ d ih =>
    intro i s n hi hn hI
    cases n with
    | zero => omega
    | succ n =>
      obtain ⟨s', h1, h2⟩ := hs n i s (by omega) hI
      obtain ⟨s2, h3, h4⟩ := ih (i + 1) s' n (by omega) (by omega) h1
      exact ⟨s2, h3, h2.trans h4⟩
/-- the same from 0 on, with the fuel that all loops have -/
theorem lp0 {S α : Type} (F : Nat → Nat → S → α) (ke : S → α) (B : Nat) (hB : B ≤ 90000) (I : Nat → S → Prop) (s : S) (h0 : I 0 s) (hx : ∀ n s, I B s → F (n + 1) B s = ke s) (hs : ∀ n i s, i < B → I i s → ∃ s', I (i + 1) s' ∧ F (n + 1) i s = F n (i + 1) s') : ∃ s', I B s' ∧ F FU 0 s = ke s' :=
  lpU F ke B I hx hs B 0 s FU (Nat.zero_add B) (Nat.lt_of_le_of_lt hB FU_gt) h0
