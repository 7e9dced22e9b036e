/-! THE TREE OF SOME ENTRIES, as a list of nodes (kind, level, first entry, number of entries), the top first -/
def sp_re (p : Nat → Nat) (v : Nat) : Nat → Nat → Nat
  | 0, i => i
  | n + 1, i => if p i = v then sp_re p v n (i + 1) else i
def sp_runF (p : Nat → Nat) (b : Nat) : Nat → Nat → List (Nat × Nat)
  | 0, _ => []
  | n + 1, a => if a < b then (a, sp_re p (p a) (b - (a + 1)) (a + 1)) :: sp_runF p b n (sp_re p (p a) (b - (a + 1)) (a + 1)) else []
/-- the runs of equal parts between a and b -/
def sp_runs (p : Nat → Nat) (a b : Nat) : List (Nat × Nat) := sp_runF p b (b - a) a
def sp_isR (p : Nat → Nat) (b : Nat) : Nat → List (Nat × Nat) → Prop
  | a, [] => a = b
  | a, r :: rs => r.1 = a ∧ a < r.2 ∧ r.2 ≤ b ∧ (∀ i, a ≤ i → i < r.2 → p i = p a) ∧ (r.2 < b → p r.2 ≠ p a) ∧ sp_isR p b r.2 rs
theorem sp_re_ok (p : Nat → Nat) (v : Nat) : ∀ n i, i ≤ sp_re p v n i ∧ sp_re p v n i ≤ i + n ∧ (∀ t, i ≤ t → t < sp_re p v n i → p t = v) ∧ (sp_re p v n i < i + n → p (sp_re p v n i) ≠ v)
  | 0, i => by unfold sp_re; exact ⟨by omega, by omega, fun t h1 h2 => by omega, fun h => by omega⟩
  | n + 1, i => by
    unfold sp_re
    by_cases c : p i = v
    · rw [if_pos c]
      obtain ⟨h1, h2, h3, h4⟩ := sp_re_ok p v n (i + 1)
      refine ⟨by omega, by omega, fun t h5 h6 => ?_, fun h => h4 (by omega)⟩
      by_cases z : t = i
      · rw [z]; exact c
      · exact h3 t (by omega) h6
    · rw [if_neg c]
      exact ⟨by omega, by omega, fun t h1 h2 => by omega, fun _ => c⟩
theorem sp_runF_is (p : Nat → Nat) (b : Nat) : ∀ n a, a ≤ b → b - a ≤ n → sp_isR p b a (sp_runF p b n a)
  | 0, a, h1, h2 => by unfold sp_runF sp_isR; omega
  | n + 1, a, h1, h2 => by
    unfold sp_runF
    by_cases c : a < b
    · rw [if_pos c]
      obtain ⟨e1, e2, e3, e4⟩ := sp_re_ok p (p a) (b - (a + 1)) (a + 1)
      refine ⟨rfl, by omega, by omega, fun i i1 i2 => ?_, fun z => e4 (by omega), sp_runF_is p b n _ (by omega) (by omega)⟩
      by_cases z : i = a
      · rw [z]
      · exact e3 i (by omega) i2
    · rw [if_neg c]
      show a = b
      omega
theorem sp_runs_is (p : Nat → Nat) {a b : Nat} (h : a ≤ b) : sp_isR p b a (sp_runs p a b) := sp_runF_is p b (b - a) a h (Nat.le_refl _)
theorem sp_isR_uq {p : Nat → Nat} {b : Nat} : ∀ (rs rs' : List (Nat × Nat)) (a : Nat), sp_isR p b a rs → sp_isR p b a rs' → rs = rs'
  | [], [], _, _, _ => rfl
  | [], r :: rs, a, h1, h2 => by
    have : a = b := h1
    have := h2.2.1
    have := h2.2.2.1
    omega
  | r :: rs, [], a, h1, h2 => by
    have : a = b := h2
    have := h1.2.1
    have := h1.2.2.1
    omega
  | r :: rs, r' :: rs', a, h1, h2 => by
    obtain ⟨a1, a2, a3, a4, a5, a6⟩ := h1
    obtain ⟨b1, b2, b3, b4, b5, b6⟩ := h2
    have e : r.2 = r'.2 := by
      rcases Nat.lt_trichotomy r.2 r'.2 with z | z | z
      · exact absurd (b4 r.2 (by omega) z) (a5 (by omega))
      · exact z
      · exact absurd (a4 r'.2 (by omega) z) (b5 (by omega))
    have er : r = r' := Prod.ext (a1.trans b1.symm) e
    subst er
    rw [sp_isR_uq rs rs' r.2 a6 b6]
theorem sp_runs_eq {p : Nat → Nat} {a b : Nat} {rs : List (Nat × Nat)} (h : a ≤ b) (k : sp_isR p b a rs) : sp_runs p a b = rs := sp_isR_uq _ _ a (sp_runs_is p h) k
/-- each run lies in the range, and its parts are equal -/
theorem sp_isR_mem {p : Nat → Nat} {b : Nat} : ∀ (rs : List (Nat × Nat)) (a : Nat), sp_isR p b a rs → ∀ r ∈ rs, a ≤ r.1 ∧ r.1 < r.2 ∧ r.2 ≤ b ∧ ∀ i, r.1 ≤ i → i < r.2 → p i = p r.1
  | [], _, _, r, h => absurd h List.not_mem_nil
  | q :: rs, a, ⟨a1, a2, a3, a4, a5, a6⟩, r, h => by
    rcases List.mem_cons.mp h with z | z
    · subst z
      rw [a1]
      exact ⟨Nat.le_refl _, a2, a3, a4⟩
    · obtain ⟨h1, h2, h3, h4⟩ := sp_isR_mem rs q.2 a6 r z
      exact ⟨by omega, h2, h3, h4⟩
abbrev sp_nd : Type := Nat × Nat × Nat × Nat
abbrev sp_one (g : Nat → Nat) (a b : Nat) : Prop := ∀ i, i < b → a ≤ i → g i = g a
def sp_lay (g : Nat → Nat) : Nat → Nat → Nat → List sp_nd
  | 0, _, _ => []
  | k + 1, a, b => if a < b then (if sp_one g a b then [(if b = a + 1 then 0 else 1, 6 - k, a, b - a)] else (2, 6 - k, a, b - a) :: (sp_runs (fun i => sp_part (g i) (6 - k)) a b).flatMap (fun r => sp_lay g k r.1 r.2)) else []
def sp_g (f w : Nat) (E : List (Nat × Nat)) (i : Nat) : Nat := sp_hash f w (sp_k E i)
def sp_N (f w : Nat) (E : List (Nat × Nat)) : List sp_nd := sp_lay (sp_g f w E) 7 0 E.length
def sp_n (N : List sp_nd) (i : Nat) : sp_nd := N.getD i (0, 0, 0, 0)
theorem sp_lay_one {g : Nat → Nat} {k a b : Nat} (h : a < b) (o : sp_one g a b) : sp_lay g (k + 1) a b = [(if b = a + 1 then 0 else 1, 6 - k, a, b - a)] := by
  show (if a < b then _ else _) = _
  rw [if_pos h, if_pos o]
theorem sp_lay_br {g : Nat → Nat} {k a b : Nat} (h : a < b) (o : ¬ sp_one g a b) : sp_lay g (k + 1) a b = (2, 6 - k, a, b - a) :: (sp_runs (fun i => sp_part (g i) (6 - k)) a b).flatMap (fun r => sp_lay g k r.1 r.2) := by
  show (if a < b then _ else _) = _
  rw [if_pos h, if_neg o]
theorem sp_lay_nil {g : Nat → Nat} {k a b : Nat} (h : b ≤ a) : sp_lay g k a b = [] := by
  cases k with
  | zero => rfl
  | succ k =>
    show (if a < b then _ else _) = _
    rw [if_neg (by omega)]
/-- not one hash: two entries at least -/
theorem sp_two {g : Nat → Nat} {a b : Nat} (h : a < b) (o : ¬ sp_one g a b) : a + 1 < b := by
  rcases Nat.lt_or_ge (a + 1) b with z | z
  · exact z
  · exact absurd (fun i h1 h2 => by rw [show i = a by omega]) o
theorem sp_fm_len {p : Nat → Nat} {b c : Nat} (F : Nat × Nat → List sp_nd) : ∀ (rs : List (Nat × Nat)) (a : Nat), sp_isR p b a rs → (∀ r ∈ rs, (F r).length ≤ (r.2 - r.1) + c * ((r.2 - r.1) / 2)) → (rs.flatMap F).length ≤ (b - a) + c * ((b - a) / 2)
  | [], _, _, _ => by simp
  | r :: rs, a, ⟨a1, a2, a3, a4, a5, a6⟩, h => by
    have h1 := sp_fm_len F rs r.2 a6 (fun q hq => h q (List.mem_cons_of_mem _ hq))
    have h2 := h r List.mem_cons_self
    rw [List.flatMap_cons, List.length_append]
    have h3 : c * ((r.2 - r.1) / 2) + c * ((b - r.2) / 2) ≤ c * ((b - a) / 2) := by
      rw [← Nat.mul_add]
      exact Nat.mul_le_mul_left c (by omega)
    omega
theorem sp_lay_len (g : Nat → Nat) : ∀ k a b, (sp_lay g k a b).length ≤ (b - a) + (k - 1) * ((b - a) / 2)
  | 0, a, b => by simp [sp_lay]
  | k + 1, a, b => by
    by_cases h : a < b
    · by_cases o : sp_one g a b
      · rw [sp_lay_one h o]
        simp only [List.length_singleton]
        omega
      · have h2 := sp_two h o
        rw [sp_lay_br h o, List.length_cons]
        have h3 := sp_fm_len (c := k - 1) (fun r => sp_lay g k r.1 r.2) _ a (sp_runs_is (fun i => sp_part (g i) (6 - k)) (Nat.le_of_lt h)) (fun r _ => sp_lay_len g k r.1 r.2)
        cases k with
        | zero =>
          have h5 : ∀ L : List (Nat × Nat), L.flatMap (fun r => sp_lay g 0 r.1 r.2) = [] := fun L => by
            induction L with
            | nil => rfl
            | cons x xs ih => rw [List.flatMap_cons, ih]; rfl
          rw [h5, List.length_nil]
          omega
        | succ k =>
          simp only [Nat.add_sub_cancel] at h3 ⊢
          have h4 : (k + 1) * ((b - a) / 2) = k * ((b - a) / 2) + (b - a) / 2 := Nat.succ_mul _ _
          omega
    · rw [sp_lay_nil (by omega)]
      simp
theorem sp_N_len {f w : Nat} {E : List (Nat × Nat)} (h : E.length ≤ 24) : (sp_N f w E).length ≤ 96 := by
  have := sp_lay_len (sp_g f w E) 7 0 E.length
  unfold sp_N
  omega
/-- the entries of a range have the same parts at the smaller levels -/
def sp_agr (g : Nat → Nat) (a b l : Nat) : Prop := ∀ i, a ≤ i → i < b → ∀ t, t < l → sp_part (g i) t = sp_part (g a) t
theorem sp_agr_one {g : Nat → Nat} {a b l : Nat} (hl : 6 ≤ l) (hg : ∀ i, i < b → g i < 2 ^ 30) (h : sp_agr g a b l) : sp_one g a b := by
  intro i h1 h2
  rw [sp_parts (hg i h1), sp_parts (hg a (by omega)), h i h2 h1 0 (by omega), h i h2 h1 1 (by omega), h i h2 h1 2 (by omega), h i h2 h1 3 (by omega), h i h2 h1 4 (by omega), h i h2 h1 5 (by omega)]
theorem sp_agr_sub {g : Nat → Nat} {a b l : Nat} (h : sp_agr g a b l) {r : Nat × Nat} (h1 : a ≤ r.1) (h2 : r.1 < r.2) (h3 : r.2 ≤ b) (h4 : ∀ i, r.1 ≤ i → i < r.2 → sp_part (g i) l = sp_part (g r.1) l) : sp_agr g r.1 r.2 (l + 1) := by
  intro i i1 i2 t ht
  by_cases z : t = l
  · subst z; exact h4 i i1 i2
  · rw [h i (by omega) (by omega) t (by omega), h r.1 (by omega) (by omega) t (by omega)]
theorem sp_agr_0 {g : Nat → Nat} {a b : Nat} : sp_agr g a b 0 := fun i _ _ t ht => absurd ht (by omega)
theorem sp_n_app {D : List sp_nd} {x : sp_nd} {i : Nat} : sp_n (D ++ [x]) i = if i < D.length then sp_n D i else if i = D.length then x else (0, 0, 0, 0) := by
  unfold sp_n
  simp only [List.getD_eq_getElem?_getD, List.getElem?_append]
  by_cases c : i < D.length
  · simp [c]
  · by_cases z : i = D.length
    · subst z; simp
    · have : i - D.length = (i - D.length - 1) + 1 := by omega
      simp only [c, z, if_false]
      rw [this]
      simp
