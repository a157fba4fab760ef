/-! ===== the world: every cell of the system by its class and number; what it holds, as functions ===== -/
abbrev St : Type := (Nat → Nat → Nat → Int32) × (Nat → Nat → Nat → Int64) × (Nat → Nat → Nat → Nat)
def wA (σ : St) (ci k : Nat) (f : Nat → Int32) : St := (fun a b => if a = ci ∧ b = k then f else σ.1 a b, σ.2)
def wI (σ : St) (ci k j : Nat) (v : Int32) : St := wA σ ci k (upd (σ.1 ci k) j v)
def wL (σ : St) (ci k j : Nat) (v : Int64) : St := (σ.1, fun a b => if a = ci ∧ b = k then vp_updL (σ.2.1 ci k) j v else σ.2.1 a b, σ.2.2)
def wR (σ : St) (ci k j v : Nat) : St := (σ.1, σ.2.1, fun a b c => if a = ci ∧ b = k ∧ c = j then v else σ.2.2 a b c)
/-- how many cells of a class there are -/
def cnt (ci : Nat) : Nat := ([1, 1, 6, 1, 3, 3, 1, 1, 1, 0, 1, 1, 6, 1, 6, 1, 6, 1, 6, 1, 6, 1, 6, 6, 6, 6, 6, 6, 6, 6, 6, 3, 3, 3, 3, 3, 3, 3, 18, 3, 48, 3, 1, 1, 1, 1, 1, 1, 1, 1, 1, 1, 1, 1, 1, 1, 1] : List Nat).getD ci 0
/-- what kind of row a class is: 1 ints, 2 bytes, 3 longs, 4 rows of ints (the class behind it) -/
def akd (ci : Nat) : Nat := ([0, 0, 0, 0, 0, 0, 0, 0, 0, 0, 1, 4, 1, 4, 1, 4, 1, 4, 1, 4, 1, 4, 1, 1, 1, 1, 1, 1, 1, 1, 1, 1, 1, 1, 1, 1, 1, 4, 1, 4, 1, 1, 2, 1, 1, 1, 3, 1, 1, 1, 1, 1, 1, 1, 1, 1, 3] : List Nat).getD ci 0
def aln (ci : Nat) : Nat := ([0, 0, 0, 0, 0, 0, 0, 0, 0, 0, 6, 6, 6, 6, 401, 6, 401, 6, 401, 6, 401, 6, 401, 6, 6, 6, 6, 6, 12, 12, 12, 6, 6, 6, 6, 6, 6, 6, 6, 16, 6, 64, 700, 700, 59, 59, 6, 251, 251, 251, 6, 2406, 2406, 2406, 2406, 2766, 1] : List Nat).getD ci 0
def nfl (ci : Nat) : Nat := ([5, 17, 14, 9, 15, 8, 2, 13, 33] : List Nat).getD ci 0
def fkt : List (List (Nat × Nat × Nat)) := [[(1, 1, 0), (0, 0, 0), (0, 0, 0), (0, 0, 0), (0, 0, 0)], [(1, 10, 0), (1, 11, 0), (1, 13, 0), (1, 15, 0), (1, 17, 0), (1, 19, 0), (1, 21, 0), (0, 0, 0), (0, 0, 0), (0, 0, 0), (0, 0, 0), (0, 0, 0), (0, 0, 0), (0, 0, 0), (0, 0, 0), (0, 0, 0), (0, 0, 0)], [(0, 0, 0), (0, 0, 0), (0, 0, 0), (0, 0, 0), (0, 0, 0), (4, 0, 0), (1, 23, 0), (1, 24, 0), (1, 25, 0), (1, 26, 0), (1, 27, 0), (1, 28, 0), (1, 29, 0), (1, 30, 0)], [(0, 0, 0), (0, 0, 0), (2, 6, 0), (3, 2, 0), (0, 0, 0), (0, 0, 0), (0, 0, 0), (0, 0, 0), (0, 0, 0)], [(1, 5, 0), (3, 2, 0), (0, 0, 0), (0, 0, 0), (0, 0, 0), (0, 0, 0), (0, 0, 0), (0, 0, 0), (0, 0, 0), (1, 31, 0), (1, 32, 0), (1, 33, 0), (1, 34, 0), (1, 35, 0), (1, 36, 0)], [(0, 0, 0), (0, 0, 0), (0, 0, 0), (0, 0, 0), (0, 0, 0), (1, 37, 0), (1, 39, 0), (1, 41, 0)], [(1, 42, 0), (0, 0, 0)], [(2, 6, 0), (2, 3, 0), (2, 0, 0), (2, 4, 0), (2, 4, 1), (2, 4, 2), (3, 2, 0), (3, 2, 0), (4, 0, 0), (4, 0, 0), (0, 0, 0), (0, 0, 0), (0, 0, 0)], [(0, 0, 0), (0, 0, 0), (0, 0, 0), (0, 0, 0), (1, 43, 0), (0, 0, 0), (1, 44, 0), (1, 45, 0), (1, 46, 0), (4, 0, 0), (0, 0, 0), (0, 0, 0), (0, 0, 0), (0, 0, 0), (0, 0, 0), (0, 0, 0), (0, 0, 0), (4, 0, 0), (1, 47, 0), (1, 48, 0), (1, 49, 0), (4, 0, 0), (1, 50, 0), (0, 0, 0), (1, 51, 0), (1, 52, 0), (1, 53, 0), (1, 54, 0), (1, 55, 0), (0, 0, 0), (0, 0, 0), (0, 0, 0), (0, 0, 0)]]
def fk (ci j : Nat) : Nat × Nat × Nat := (fkt.getD ci []).getD j (0, 0, 0)
def fv (ad : Nat → Nat → Nat) (σ : St) (ci k j : Nat) : Value :=
  if (fk ci j).1 = 1 then .ref (ad (fk ci j).2.1 k) else if (fk ci j).1 = 2 then .ref (ad (fk ci j).2.1 (fk ci j).2.2) else if (fk ci j).1 = 3 then .ref (ad (fk ci j).2.1 (σ.2.2 ci k j)) else .int (σ.1 ci k j)
def cE (ad : Nat → Nat → Nat) (cy : Nat → ClassId) (σ : St) (ci k : Nat) : va_E :=
  if ci < 9 then .inr (ci, (List.range (nfl ci)).map (fv ad σ ci k)) else if akd ci = 1 then .inl (cy 0, aln ci, .inl (σ.1 ci k)) else if akd ci = 2 then .inl (cy 1, aln ci, .inl (σ.1 ci k)) else if akd ci = 3 then .inl (cy 2, aln ci, .inr (.inl (σ.2.1 ci k))) else .inl (cy 3, aln ci, .inr (.inr (.inr (.inr (fun i => some (ad (ci + 1) (aln ci * k + i)))))))
def vl : List (Nat × Nat) := (List.range 57).flatMap fun ci => (List.range (cnt ci)).map fun k => (ci, k)
def wsO (ad : Nat → Nat → Nat) (cy : Nat → ClassId) (σ : St) : va_W := vl.map fun q => (ad q.1 q.2, cE ad cy σ q.1 q.2)
def tysO (cy : Nat → ClassId) : List (ClassId × FieldType) := [(cy 0, .int), (cy 1, .byte), (cy 2, .long), (cy 3, .array .int)]
/-- the addresses of the system's cells -/
def inA (ad : Nat → Nat → Nat) (q : Nat) : Prop := ∃ ci k, k < cnt ci ∧ q = ad ci k
def z0 : St := (fun _ _ _ => 0, fun _ _ _ => 0, fun _ _ _ => 0)
theorem cnt_lt {ci k : Nat} (h : k < cnt ci) : ci < 57 := by
  rcases Nat.lt_or_ge ci 57 with q | q
  · exact q
  · unfold cnt at h
    rw [List.getD_eq_getElem?_getD, List.getElem?_eq_none (by simpa using q)] at h
    exact absurd h (Nat.not_lt_zero _)
theorem vl_mem {ci k : Nat} : (ci, k) ∈ vl ↔ k < cnt ci := by
  unfold vl
  simp only [List.mem_flatMap, List.mem_range, List.mem_map, Prod.mk.injEq]
  constructor
  · rintro ⟨a, -, b, hb, rfl, rfl⟩
    exact hb
  · intro h
    exact ⟨ci, cnt_lt h, k, h, rfl, rfl⟩
theorem vl_at {ci k : Nat} (h : k < cnt ci) : ∃ i : Nat, vl[i]? = some (ci, k) := List.getElem?_of_mem (vl_mem.mpr h)
theorem vl_nd : vl.Nodup := by decide +kernel
theorem vl_inj {i j : Nat} {q : Nat × Nat} (hi : vl[i]? = some q) (hj : vl[j]? = some q) : i = j := by
  obtain ⟨h1, e1⟩ := List.getElem?_eq_some_iff.mp hi
  obtain ⟨h2, e2⟩ := List.getElem?_eq_some_iff.mp hj
  have hp := List.pairwise_iff_getElem.mp vl_nd
  rcases Nat.lt_trichotomy i j with q | q | q
  · exact absurd (e1.trans e2.symm) (hp i j h1 h2 q)
  · exact q
  · exact absurd (e2.trans e1.symm) (hp j i h2 h1 q)
theorem ws_at {ad : Nat → Nat → Nat} {cy : Nat → ClassId} {σ : St} {i ci k : Nat} (h : vl[i]? = some (ci, k)) : (wsO ad cy σ)[i]? = some (ad ci k, cE ad cy σ ci k) := by
  unfold wsO
  rw [List.getElem?_map, h]
  rfl
theorem ws_set {ad : Nat → Nat → Nat} {cy : Nat → ClassId} {σ σ' : St} {i ci k : Nat} {e : va_E} (h : vl[i]? = some (ci, k)) (he : cE ad cy σ' ci k = e) (ho : ∀ a b, ¬ (a = ci ∧ b = k) → cE ad cy σ' a b = cE ad cy σ a b) : (wsO ad cy σ).set i (ad ci k, e) = wsO ad cy σ' := by
  apply List.ext_getElem?
  intro j
  by_cases hj : j = i
  · subst hj
    have hl : j < (wsO ad cy σ).length := (List.getElem?_eq_some_iff.mp (ws_at (ad := ad) (cy := cy) (σ := σ) h)).1
    rw [List.getElem?_set_self hl, ws_at h, he]
  · rw [List.getElem?_set_ne (Ne.symm hj)]
    unfold wsO
    rw [List.getElem?_map, List.getElem?_map]
    cases hq : vl[j]? with
    | none => rfl
    | some q =>
      obtain ⟨a, b⟩ := q
      have hne : ¬ (a = ci ∧ b = k) := fun z => hj (vl_inj hq (by rw [z.1, z.2]; exact h))
      show some (ad a b, cE ad cy σ a b) = some (ad a b, cE ad cy σ' a b)
      rw [ho a b hne]
theorem wsD_any {ad : Nat → Nat → Nat} {cy cy' : Nat → ClassId} {σ σ' : St} {A : Nat → Prop} (h : va_D A (wsO ad cy σ)) : va_D A (wsO ad cy' σ') := by
  have key : ∀ (i : Nat) (x : Nat × va_E), (wsO ad cy' σ')[i]? = some x → ∃ y, (wsO ad cy σ)[i]? = some y ∧ y.1 = x.1 := by
    intro i x hx
    unfold wsO at hx ⊢
    rw [List.getElem?_map] at hx ⊢
    cases hq : vl[i]? with
    | none => rw [hq] at hx; cases hx
    | some q => rw [hq] at hx; cases hx; exact ⟨_, rfl, rfl⟩
  refine ⟨fun i j x y hx hy hxy => ?_, fun i x hx => ?_⟩
  · obtain ⟨x', h1, e1⟩ := key i x hx
    obtain ⟨y', h2, e2⟩ := key j y hy
    exact h.1 i j x' y' h1 h2 (by rw [e1, e2, hxy])
  · obtain ⟨x', h1, e1⟩ := key i x hx
    rw [← e1]
    exact h.2 i x' h1
theorem wA_ne {σ : St} {ci k a b : Nat} {f : Nat → Int32} (h : ¬ (a = ci ∧ b = k)) : (wA σ ci k f).1 a b = σ.1 a b := by
  show (if a = ci ∧ b = k then f else σ.1 a b) = _
  rw [if_neg h]
theorem wA_eq {σ : St} {ci k : Nat} {f : Nat → Int32} : (wA σ ci k f).1 ci k = f := by
  show (if ci = ci ∧ k = k then f else σ.1 ci k) = _
  rw [if_pos ⟨rfl, rfl⟩]
theorem cE_wA {ad : Nat → Nat → Nat} {cy : Nat → ClassId} {σ : St} {ci k : Nat} {f : Nat → Int32} (a b : Nat) (h : ¬ (a = ci ∧ b = k)) : cE ad cy (wA σ ci k f) a b = cE ad cy σ a b := by
  unfold cE
  rw [wA_ne h]
  have hf : fv ad (wA σ ci k f) a b = fv ad σ a b := by
    funext j
    unfold fv
    rw [wA_ne h]
    rfl
  rw [hf]
  rfl
theorem cE_wL {ad : Nat → Nat → Nat} {cy : Nat → ClassId} {σ : St} {ci k j : Nat} {v : Int64} (a b : Nat) (h : ¬ (a = ci ∧ b = k)) : cE ad cy (wL σ ci k j v) a b = cE ad cy σ a b := by
  have e : (wL σ ci k j v).2.1 a b = σ.2.1 a b := by
    show (if a = ci ∧ b = k then _ else σ.2.1 a b) = _
    rw [if_neg h]
  unfold cE
  rw [e]
  rfl
theorem cE_wR {ad : Nat → Nat → Nat} {cy : Nat → ClassId} {σ : St} {ci k j v : Nat} (a b : Nat) (h : ¬ (a = ci ∧ b = k)) : cE ad cy (wR σ ci k j v) a b = cE ad cy σ a b := by
  have hf : fv ad (wR σ ci k j v) a b = fv ad σ a b := by
    funext i
    unfold fv
    have e : (wR σ ci k j v).2.2 a b i = σ.2.2 a b i := by
      show (if a = ci ∧ b = k ∧ i = j then v else σ.2.2 a b i) = _
      rw [if_neg (fun z => h ⟨z.1, z.2.1⟩)]
    rw [e]
    rfl
  unfold cE
  rw [hf]
  rfl
theorem cE_i {ad : Nat → Nat → Nat} {cy : Nat → ClassId} {σ : St} {ci k : Nat} (h9 : 9 ≤ ci) (hk : akd ci = 1) : cE ad cy σ ci k = .inl (cy 0, aln ci, .inl (σ.1 ci k)) := by
  unfold cE
  rw [if_neg (Nat.not_lt.mpr h9), if_pos hk]
theorem cE_b {ad : Nat → Nat → Nat} {cy : Nat → ClassId} {σ : St} {ci k : Nat} (h9 : 9 ≤ ci) (hk : akd ci = 2) : cE ad cy σ ci k = .inl (cy 1, aln ci, .inl (σ.1 ci k)) := by
  unfold cE
  rw [if_neg (Nat.not_lt.mpr h9), if_neg (by rw [hk]; decide), if_pos hk]
theorem cE_l {ad : Nat → Nat → Nat} {cy : Nat → ClassId} {σ : St} {ci k : Nat} (h9 : 9 ≤ ci) (hk : akd ci = 3) : cE ad cy σ ci k = .inl (cy 2, aln ci, .inr (.inl (σ.2.1 ci k))) := by
  unfold cE
  rw [if_neg (Nat.not_lt.mpr h9), if_neg (by rw [hk]; decide), if_neg (by rw [hk]; decide), if_pos hk]
theorem cE_g {ad : Nat → Nat → Nat} {cy : Nat → ClassId} {σ : St} {ci k : Nat} (h9 : 9 ≤ ci) (hk : akd ci = 4) : cE ad cy σ ci k = .inl (cy 3, aln ci, .inr (.inr (.inr (.inr (fun i => some (ad (ci + 1) (aln ci * k + i))))))) := by
  unfold cE
  rw [if_neg (Nat.not_lt.mpr h9), if_neg (by rw [hk]; decide), if_neg (by rw [hk]; decide), if_neg (by rw [hk]; decide)]
theorem cE_o {ad : Nat → Nat → Nat} {cy : Nat → ClassId} {σ : St} {ci k : Nat} (h9 : ci < 9) : cE ad cy σ ci k = .inr (ci, (List.range (nfl ci)).map (fv ad σ ci k)) := by
  unfold cE
  rw [if_pos h9]
theorem akd9 {ci n : Nat} (hk : akd ci = n + 1) : 9 ≤ ci := by
  rcases Nat.lt_or_ge ci 9 with q | q
  · have : ∀ i, i < 9 → akd i = 0 := by decide +kernel
    rw [this ci q] at hk
    cases hk
  · exact q
/-- an int field is written -/
theorem fvs_i {ad : Nat → Nat → Nat} {σ : St} {ci k j : Nat} {v : Int32} (h0 : (fk ci j).1 = 0 ∨ (fk ci j).1 = 4) : (List.range (nfl ci)).map (fv ad (wI σ ci k j v) ci k) = ((List.range (nfl ci)).map (fv ad σ ci k)).set j (.int v) := by
  have hI : (wI σ ci k j v).1 ci k = upd (σ.1 ci k) j v := wA_eq
  have hR : (wI σ ci k j v).2.2 = σ.2.2 := rfl
  apply List.ext_getElem?
  intro i
  rw [List.getElem?_set, List.length_map, List.length_range, List.getElem?_map, List.getElem?_map]
  by_cases hl : i < nfl ci
  · rw [List.getElem?_range hl]
    by_cases hij : j = i
    · subst hij
      rw [if_pos rfl, if_pos hl]
      have n1 : ¬ (fk ci j).1 = 1 := by rcases h0 with h | h <;> rw [h] <;> decide
      have n2 : ¬ (fk ci j).1 = 2 := by rcases h0 with h | h <;> rw [h] <;> decide
      have n3 : ¬ (fk ci j).1 = 3 := by rcases h0 with h | h <;> rw [h] <;> decide
      show some (fv ad (wI σ ci k j v) ci k j) = _
      unfold fv
      rw [if_neg n1, if_neg n2, if_neg n3, hI, pk_us]
    · rw [if_neg hij]
      show some (fv ad (wI σ ci k j v) ci k i) = some (fv ad σ ci k i)
      unfold fv
      rw [hI, hR, pk_un (fun z => hij z.symm)]
  · rw [List.getElem?_eq_none (by simpa using hl)]
    by_cases hij : j = i
    · subst hij
      rw [if_pos rfl, if_neg hl]
      rfl
    · rw [if_neg hij]
      rfl
/-- a reference is written -/
theorem fvs_r {ad : Nat → Nat → Nat} {σ : St} {ci k j v : Nat} (h0 : (fk ci j).1 = 3) : (List.range (nfl ci)).map (fv ad (wR σ ci k j v) ci k) = ((List.range (nfl ci)).map (fv ad σ ci k)).set j (.ref (ad (fk ci j).2.1 v)) := by
  have hR : ∀ i, (wR σ ci k j v).2.2 ci k i = if i = j then v else σ.2.2 ci k i := fun i => by
    show (if ci = ci ∧ k = k ∧ i = j then v else σ.2.2 ci k i) = _
    simp
  have hI : (wR σ ci k j v).1 = σ.1 := rfl
  apply List.ext_getElem?
  intro i
  rw [List.getElem?_set, List.length_map, List.length_range, List.getElem?_map, List.getElem?_map]
  by_cases hl : i < nfl ci
  · rw [List.getElem?_range hl]
    by_cases hij : j = i
    · subst hij
      rw [if_pos rfl, if_pos hl]
      show some (fv ad (wR σ ci k j v) ci k j) = _
      unfold fv
      rw [if_neg (by rw [h0]; decide), if_neg (by rw [h0]; decide), if_pos h0, hR, if_pos rfl]
    · rw [if_neg hij]
      show some (fv ad (wR σ ci k j v) ci k i) = some (fv ad σ ci k i)
      have e : (wR σ ci k j v).2.2 ci k i = σ.2.2 ci k i := by rw [hR, if_neg (fun z => hij z.symm)]
      unfold fv
      rw [hI, e]
  · rw [List.getElem?_eq_none (by simpa using hl)]
    by_cases hij : j = i
    · subst hij
      rw [if_pos rfl, if_neg hl]
      rfl
    · rw [if_neg hij]
      rfl
theorem fv_at {ad : Nat → Nat → Nat} {σ : St} {ci k j : Nat} (h : j < nfl ci) : ((List.range (nfl ci)).map (fv ad σ ci k))[j]? = some (fv ad σ ci k j) := by
  rw [List.getElem?_map, List.getElem?_range h]
  rfl
theorem fv_i {ad : Nat → Nat → Nat} {σ : St} {ci k j : Nat} (h0 : (fk ci j).1 = 0 ∨ (fk ci j).1 = 4) : fv ad σ ci k j = .int (σ.1 ci k j) := by
  unfold fv
  rw [if_neg (by rcases h0 with h | h <;> rw [h] <;> decide), if_neg (by rcases h0 with h | h <;> rw [h] <;> decide), if_neg (by rcases h0 with h | h <;> rw [h] <;> decide)]

