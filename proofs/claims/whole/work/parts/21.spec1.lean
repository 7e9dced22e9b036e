/-! entries as lists -/
def sp_k (E : List (Nat × Nat)) (i : Nat) : Nat := (E.getD i (0, 0)).1
def sp_v (E : List (Nat × Nat)) (i : Nat) : Nat := (E.getD i (0, 0)).2
def sp_fi (E : List (Nat × Nat)) (k : Nat) : Option Nat := E.findIdx? (fun e => e.1 == k)
def sp_ix (E : List (Nat × Nat)) (k : Nat) : Int32 := match sp_fi E k with
  | some i => nI i
  | none => -1
def sp_pos (o : Nat → Nat) (E : List (Nat × Nat)) (k : Nat) : Nat → Nat
  | 0 => 0
  | n + 1 => if o k < o (sp_k E n) then sp_pos o E k n else n + 1
def sp_ins (E : List (Nat × Nat)) (p : Nat) (e : Nat × Nat) : List (Nat × Nat) := E.take p ++ e :: E.drop p
def sp_give (o : Nat → Nat) (E : List (Nat × Nat)) (k v : Nat) : List (Nat × Nat) := match sp_fi E k with
  | some i => E.set i (k, v)
  | none => sp_ins E (sp_pos o E k E.length) (k, v)
def sp_del (E : List (Nat × Nat)) (k : Nat) : List (Nat × Nat) := match sp_fi E k with
  | some i => E.eraseIdx i
  | none => E
/-- keys and values in range -/
def sp_eb (E : List (Nat × Nat)) : Prop := E.length ≤ 24 ∧ ∀ i, i < E.length → sp_k E i < 4096 ∧ sp_v E i < 1000
theorem sp_kg {E : List (Nat × Nat)} {i : Nat} (h : i < E.length) : E[i] = (sp_k E i, sp_v E i) := by
  simp [sp_k, sp_v, List.getD_eq_getElem?_getD, h]
theorem sp_fi_some {E : List (Nat × Nat)} {k i : Nat} (h : sp_fi E k = some i) : i < E.length ∧ sp_k E i = k ∧ ∀ j, j < i → sp_k E j ≠ k := by
  unfold sp_fi at h
  rw [List.findIdx?_eq_some_iff_getElem] at h
  obtain ⟨h1, h2, h3⟩ := h
  refine ⟨h1, ?_, fun j hj => ?_⟩
  · rw [sp_kg h1] at h2
    simpa using h2
  · have := h3 j hj
    rw [sp_kg (by omega)] at this
    simpa using this
theorem sp_fi_none {E : List (Nat × Nat)} {k : Nat} (h : sp_fi E k = none) : ∀ j, j < E.length → sp_k E j ≠ k := by
  unfold sp_fi at h
  rw [List.findIdx?_eq_none_iff] at h
  intro j hj
  have := h E[j] (List.getElem_mem hj)
  rw [sp_kg hj] at this
  simpa using this
theorem sp_fi_is {E : List (Nat × Nat)} {k i : Nat} (h1 : i < E.length) (h2 : sp_k E i = k) (h3 : ∀ j, j < i → sp_k E j ≠ k) : sp_fi E k = some i := by
  unfold sp_fi
  rw [List.findIdx?_eq_some_iff_getElem]
  refine ⟨h1, by rw [sp_kg h1]; simpa using h2, fun j hj => ?_⟩
  rw [sp_kg (by omega)]
  simpa using h3 j hj
theorem sp_fi_no {E : List (Nat × Nat)} {k : Nat} (h : ∀ j, j < E.length → sp_k E j ≠ k) : sp_fi E k = none := by
  cases e : sp_fi E k with
  | none => rfl
  | some i => exact absurd (sp_fi_some e).2.1 (h i (sp_fi_some e).1)
theorem sp_ix_is {E : List (Nat × Nat)} {k i : Nat} (h1 : i < E.length) (h2 : sp_k E i = k) (h3 : ∀ j, j < i → sp_k E j ≠ k) : sp_ix E k = nI i := by
  unfold sp_ix; rw [sp_fi_is h1 h2 h3]
theorem sp_ix_no {E : List (Nat × Nat)} {k : Nat} (h : ∀ j, j < E.length → sp_k E j ≠ k) : sp_ix E k = -1 := by
  unfold sp_ix; rw [sp_fi_no h]
theorem sp_set_k {E : List (Nat × Nat)} {i : Nat} {e : Nat × Nat} (h : i < E.length) (j : Nat) : sp_k (E.set i e) j = if j = i then e.1 else sp_k E j := by
  unfold sp_k
  rw [List.getD_eq_getElem?_getD, List.getD_eq_getElem?_getD, List.getElem?_set]
  by_cases c : i = j
  · subst c; simp [h]
  · have c2 : ¬ j = i := fun z => c z.symm
    simp [c, c2]
theorem sp_set_v {E : List (Nat × Nat)} {i : Nat} {e : Nat × Nat} (h : i < E.length) (j : Nat) : sp_v (E.set i e) j = if j = i then e.2 else sp_v E j := by
  unfold sp_v
  rw [List.getD_eq_getElem?_getD, List.getD_eq_getElem?_getD, List.getElem?_set]
  by_cases c : i = j
  · subst c; simp [h]
  · have c2 : ¬ j = i := fun z => c z.symm
    simp [c, c2]
theorem sp_ins_g {E : List (Nat × Nat)} {p : Nat} {e : Nat × Nat} (h : p ≤ E.length) (j : Nat) : (sp_ins E p e).getD j (0, 0) = if j < p then E.getD j (0, 0) else if j = p then e else E.getD (j - 1) (0, 0) := by
  unfold sp_ins
  simp only [List.getD_eq_getElem?_getD, List.getElem?_append, List.length_take, Nat.min_eq_left h]
  by_cases c : j < p
  · simp [c, List.getElem?_take]
  · by_cases c2 : j = p
    · subst c2; simp
    · simp only [c, c2, if_false]
      rw [show j - p = (j - p - 1) + 1 by omega, List.getElem?_cons_succ, List.getElem?_drop, show p + (j - p - 1) = j - 1 by omega]
theorem sp_ins_len {E : List (Nat × Nat)} {p : Nat} {e : Nat × Nat} (h : p ≤ E.length) : (sp_ins E p e).length = E.length + 1 := by
  unfold sp_ins
  simp only [List.length_append, List.length_take, List.length_cons, List.length_drop]
  omega
theorem sp_ins_k {E : List (Nat × Nat)} {p : Nat} {e : Nat × Nat} (h : p ≤ E.length) (j : Nat) : sp_k (sp_ins E p e) j = if j < p then sp_k E j else if j = p then e.1 else sp_k E (j - 1) := by
  unfold sp_k; rw [sp_ins_g h]; split <;> first | rfl | (split <;> rfl)
theorem sp_ins_v {E : List (Nat × Nat)} {p : Nat} {e : Nat × Nat} (h : p ≤ E.length) (j : Nat) : sp_v (sp_ins E p e) j = if j < p then sp_v E j else if j = p then e.2 else sp_v E (j - 1) := by
  unfold sp_v; rw [sp_ins_g h]; split <;> first | rfl | (split <;> rfl)
theorem sp_era_g {E : List (Nat × Nat)} {p : Nat} (j : Nat) : (E.eraseIdx p).getD j (0, 0) = if j < p then E.getD j (0, 0) else E.getD (j + 1) (0, 0) := by
  simp only [List.getD_eq_getElem?_getD, List.getElem?_eraseIdx]
  split <;> rfl
theorem sp_era_k {E : List (Nat × Nat)} {p : Nat} (j : Nat) : sp_k (E.eraseIdx p) j = if j < p then sp_k E j else sp_k E (j + 1) := by
  unfold sp_k; rw [sp_era_g]; split <;> rfl
theorem sp_era_v {E : List (Nat × Nat)} {p : Nat} (j : Nat) : sp_v (E.eraseIdx p) j = if j < p then sp_v E j else sp_v E (j + 1) := by
  unfold sp_v; rw [sp_era_g]; split <;> rfl
theorem sp_pos_le (o : Nat → Nat) (E : List (Nat × Nat)) (k : Nat) : ∀ n, sp_pos o E k n ≤ n
  | 0 => Nat.le_refl _
  | n + 1 => by
    unfold sp_pos
    split
    · exact Nat.le_succ_of_le (sp_pos_le o E k n)
    · exact Nat.le_refl _
/-- two lists with the same places are one -/
theorem sp_ext {E F : List (Nat × Nat)} (h : E.length = F.length) (h2 : ∀ i, i < E.length → sp_k E i = sp_k F i ∧ sp_v E i = sp_v F i) : E = F := by
  apply List.ext_getElem h
  intro i h3 h4
  rw [sp_kg h3, sp_kg h4, (h2 i h3).1, (h2 i h3).2]
/-- the order of ranks is that of the first differing part -/
theorem sp_rank_ltI {a b l : Nat} (hl : l < 6) (he : ∀ i, i < l → sp_part a i = sp_part b i) (hne : sp_part a l ≠ sp_part b l) : sp_rank a < sp_rank b ↔ sp_part a l < sp_part b l := by
  have a0 := sp_part_lt a 0
  have a1 := sp_part_lt a 1
  have a2 := sp_part_lt a 2
  have a3 := sp_part_lt a 3
  have a4 := sp_part_lt a 4
  have a5 := sp_part_lt a 5
  have b0 := sp_part_lt b 0
  have b1 := sp_part_lt b 1
  have b2 := sp_part_lt b 2
  have b3 := sp_part_lt b 3
  have b4 := sp_part_lt b 4
  have b5 := sp_part_lt b 5
  unfold sp_rank
  match l, hl with
  | 0, _ => omega
  | 1, _ => have := he 0 (by omega); omega
  | 2, _ => have := he 0 (by omega); have := he 1 (by omega); omega
  | 3, _ => have := he 0 (by omega); have := he 1 (by omega); have := he 2 (by omega); omega
  | 4, _ => have := he 0 (by omega); have := he 1 (by omega); have := he 2 (by omega); have := he 3 (by omega); omega
  | 5, _ => have := he 0 (by omega); have := he 1 (by omega); have := he 2 (by omega); have := he 3 (by omega); have := he 4 (by omega); omega
theorem sp_rank_eqI {a b : Nat} (he : ∀ i, i < 6 → sp_part a i = sp_part b i) : sp_rank a = sp_rank b := by
  unfold sp_rank
  rw [he 0 (by omega), he 1 (by omega), he 2 (by omega), he 3 (by omega), he 4 (by omega), he 5 (by omega)]
/-- a branch on two numbers that differ or not -/
theorem tv_ne {x y : Int32} {A B : Prop} (a b : Nat) (f : a ≠ b → A) (g : a = b → B) (hx : x = nI a := by rfl) (hy : y = nI b := by rfl) (ha : a < 2 ^ 31 := by omega) (hb : b < 2 ^ 31 := by omega) : (¬ x = y → A) ∧ (x = y → B) := by
  subst hx hy
  rw [nI_eq ha hb]
  exact ⟨f, g⟩
theorem tv_24 (m i : Nat) : (24 : Int32) * nI m + nI i = nI (24 * m + i) := by rw [show (24 : Int32) = nI 24 from rfl, pk_mul, nI_add]
theorem tv_96 (m i : Nat) : (96 : Int32) * nI m + nI i = nI (96 * m + i) := by rw [show (96 : Int32) = nI 96 from rfl, pk_mul, nI_add]
theorem tv_nc (n : Nat) (h : n < 2 ^ 31 := by omega) : (nI n).toNatClampNeg = n := nI_clamp h
