/-! lists of entries: in range, sorted, and what the calls make of them -/
theorem sp_eb_mem {E : List (Nat × Nat)} : sp_eb E ↔ E.length ≤ 24 ∧ ∀ e ∈ E, e.1 < 4096 ∧ e.2 < 1000 := by
  unfold sp_eb
  constructor
  · intro ⟨h1, h2⟩
    refine ⟨h1, fun e he => ?_⟩
    obtain ⟨i, hi, rfl⟩ := List.mem_iff_getElem.mp he
    rw [sp_kg hi]
    exact h2 i hi
  · intro ⟨h1, h2⟩
    refine ⟨h1, fun i hi => ?_⟩
    have := h2 E[i] (List.getElem_mem hi)
    rw [sp_kg hi] at this
    exact this
theorem sp_eb_sub {A E : List (Nat × Nat)} (h : sp_eb E) (h1 : A.length ≤ 24) (h2 : ∀ e ∈ A, e ∈ E) : sp_eb A := sp_eb_mem.mpr ⟨h1, fun e he => (sp_eb_mem.mp h).2 e (h2 e he)⟩
theorem sp_eb_filter {E : List (Nat × Nat)} {p : Nat × Nat → Bool} (h : sp_eb E) : sp_eb (E.filter p) := sp_eb_sub h (Nat.le_trans (List.length_filter_le _ _) h.1) (fun _ he => (List.mem_filter.mp he).1)
theorem sp_eb_give {E : List (Nat × Nat)} {o : Nat → Nat} {k v : Nat} (h : sp_eb E) (hk : k < 4096) (hv : v < 1000) (hr : sp_fi E k = none → E.length < 24) : sp_eb (sp_give o E k v) := by
  unfold sp_give
  cases hf : sp_fi E k with
  | some i =>
    obtain ⟨i1, -, -⟩ := sp_fi_some hf
    refine ⟨by simp only [List.length_set]; exact h.1, fun j hj => ?_⟩
    simp only [List.length_set] at hj
    rw [sp_set_k i1, sp_set_v i1]
    split
    · exact ⟨hk, hv⟩
    · exact h.2 j hj
  | none =>
    have hp := sp_pos_le o E k E.length
    have := hr hf
    refine ⟨by simp only; rw [sp_ins_len hp]; omega, fun j hj => ?_⟩
    simp only at hj
    rw [sp_ins_len hp] at hj
    rw [sp_ins_k hp, sp_ins_v hp]
    split
    · exact h.2 j (by omega)
    · split
      · exact ⟨hk, hv⟩
      · exact h.2 (j - 1) (by omega)
theorem sp_eb_del {E : List (Nat × Nat)} {k : Nat} (h : sp_eb E) : sp_eb (sp_del E k) := by
  unfold sp_del
  cases hf : sp_fi E k with
  | some i =>
    refine sp_eb_sub h (Nat.le_trans ?_ h.1) (fun e he => List.mem_of_mem_eraseIdx he)
    simp only
    have := List.length_eraseIdx_le E i
    omega
  | none => exact h
/-- an entry behind all others is put at the end -/
theorem sp_give_app {o : Nat → Nat} {A : List (Nat × Nat)} {k v : Nat} (h : ∀ i, i < A.length → o (sp_k A i) < o k) : sp_give o A k v = A ++ [(k, v)] := by
  have hf : sp_fi A k = none := sp_fi_no (fun j hj z => by have := h j hj; rw [z] at this; omega)
  have hp : sp_pos o A k A.length = A.length := by
    cases hn : A.length with
    | zero => rfl
    | succ n =>
      unfold sp_pos
      have := h n (by omega)
      rw [if_neg (by omega)]
  unfold sp_give
  rw [hf]
  simp only
  rw [hp]
  unfold sp_ins
  rw [List.take_length, List.drop_length]
theorem sp_take_f {E : List (Nat × Nat)} {p : Nat × Nat → Bool} {k : Nat} (hk : k < E.length) : (E.take (k + 1)).filter p = (E.take k).filter p ++ (if p (sp_k E k, sp_v E k) then [(sp_k E k, sp_v E k)] else []) := by
  rw [List.take_succ_eq_append_getElem hk, List.filter_append, sp_kg hk]
  congr 1
  by_cases c : p (sp_k E k, sp_v E k) = true
  · simp [c]
  · simp [c]
/-- a chosen part of what comes before is before -/
theorem sp_pre_lt {f w : Nat} {E : List (Nat × Nat)} {p : Nat × Nat → Bool} {k : Nat} (hs : sp_srt f w E) (hk : k < E.length) : ∀ i, i < ((E.take k).filter p).length → sp_ord f w (sp_k ((E.take k).filter p) i) < sp_ord f w (sp_k E k) := by
  intro i hi
  have hm := (List.mem_filter.mp (List.getElem_mem hi)).1
  obtain ⟨j, hj, ej⟩ := List.mem_iff_getElem.mp hm
  rw [List.length_take] at hj
  rw [List.getElem_take, sp_kg (by omega)] at ej
  have : sp_k ((E.take k).filter p) i = sp_k E j := by
    have h1 := sp_kg hi
    rw [← ej] at h1
    exact (congrArg Prod.fst h1).symm
  rw [this]
  exact hs j k (by omega) hk
theorem sp_srt_sub {f w : Nat} {A E : List (Nat × Nat)} (h : A.Sublist E) (hs : sp_srt f w E) : sp_srt f w A := by
  have key : ∀ E : List (Nat × Nat), sp_srt f w E ↔ E.Pairwise (fun a b => sp_ord f w a.1 < sp_ord f w b.1) := by
    intro E
    rw [List.pairwise_iff_getElem]
    constructor
    · intro h i j hi hj hij
      have := h i j hij hj
      rw [sp_kg hi, sp_kg hj]
      exact this
    · intro h i j hij hj
      have := h i j (by omega) hj hij
      rw [sp_kg (by omega), sp_kg hj] at this
      exact this
  exact (key A).mpr (List.Pairwise.sublist h ((key E).mp hs))
