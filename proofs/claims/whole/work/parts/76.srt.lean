/-! ENTRIES STAY IN ORDER; keys that two maps have in common -/
theorem sp_ord_inj {f w a b : Nat} (ha : a < 4096) (hb : b < 4096) (h : sp_ord f w a = sp_ord f w b) : a = b := by
  unfold sp_ord at h
  omega
theorem sp_srt_k {f w i j : Nat} {E : List (Nat × Nat)} (hs : sp_srt f w E) (hi : i < E.length) (hj : j < E.length) (h : sp_k E i = sp_k E j) : i = j := by
  rcases Nat.lt_trichotomy i j with z | z | z
  · have := hs i j z hj; rw [h] at this; omega
  · exact z
  · have := hs j i z hi; rw [h] at this; omega
theorem sp_pos_ok {o : Nat → Nat} {E : List (Nat × Nat)} {k : Nat} : ∀ n, n ≤ E.length → (∀ i j, i < j → j < E.length → o (sp_k E i) < o (sp_k E j)) → (∀ t, t < sp_pos o E k n → o (sp_k E t) ≤ o k) ∧ (∀ t, sp_pos o E k n ≤ t → t < n → o k < o (sp_k E t))
  | 0, _, _ => ⟨fun t ht => absurd ht (by unfold sp_pos; omega), fun t _ ht => absurd ht (by omega)⟩
  | n + 1, hn, hs => by
    obtain ⟨a1, a2⟩ := sp_pos_ok (o := o) (E := E) (k := k) n (by omega) hs
    unfold sp_pos
    by_cases c : o k < o (sp_k E n)
    · rw [if_pos c]
      refine ⟨a1, fun t h1 h2 => ?_⟩
      by_cases z : t = n
      · subst z; exact c
      · exact a2 t h1 (by omega)
    · rw [if_neg c]
      refine ⟨fun t ht => ?_, fun t h1 h2 => absurd h1 (by omega)⟩
      by_cases z : t = n
      · subst z; omega
      · have := hs t n (by omega) (by omega); omega
theorem sp_srt_give {f w k v : Nat} {E : List (Nat × Nat)} (hb : sp_eb E) (hs : sp_srt f w E) (hk : k < 4096) : sp_srt f w (sp_give (sp_ord f w) E k v) := by
  unfold sp_give
  cases hf : sp_fi E k with
  | some i =>
    obtain ⟨i1, i2, -⟩ := sp_fi_some hf
    intro a b hab hbl
    simp only [List.length_set] at hbl
    simp only
    rw [sp_set_k i1, sp_set_k i1]
    have e : ∀ t, (if t = i then (k, v).1 else sp_k E t) = sp_k E t := fun t => by
      by_cases c : t = i
      · rw [if_pos c, c]; exact i2.symm
      · rw [if_neg c]
    rw [e, e]
    exact hs a b hab hbl
  | none =>
    have hp := sp_pos_le (sp_ord f w) E k E.length
    obtain ⟨p1, p2⟩ := sp_pos_ok (o := sp_ord f w) (k := k) E.length (Nat.le_refl _) hs
    have hno := sp_fi_none hf
    simp only
    generalize sp_pos (sp_ord f w) E k E.length = p at *
    intro a b hab hbl
    rw [sp_ins_len hp] at hbl
    rw [sp_ins_k hp, sp_ins_k hp]
    have lo : ∀ t, t < p → sp_ord f w (sp_k E t) < sp_ord f w k := fun t ht => by
      have h1 := p1 t ht
      have h2 : sp_ord f w (sp_k E t) ≠ sp_ord f w k := fun z => hno t (by omega) (sp_ord_inj (hb.2 t (by omega)).1 hk z)
      omega
    by_cases c1 : b < p
    · rw [if_pos (by omega : a < p), if_pos c1]
      exact hs a b hab (by omega)
    · rw [if_neg c1]
      by_cases c2 : b = p
      · rw [if_pos c2, if_pos (by omega : a < p)]
        exact lo a (by omega)
      · rw [if_neg c2]
        by_cases c3 : a < p
        · rw [if_pos c3]
          have := lo a c3
          have := p2 (b - 1) (by omega) (by omega)
          omega
        · rw [if_neg c3]
          by_cases c4 : a = p
          · rw [if_pos c4]
            exact p2 (b - 1) (by omega) (by omega)
          · rw [if_neg c4]
            exact hs (a - 1) (b - 1) (by omega) (by omega)
theorem sp_srt_del {f w k : Nat} {E : List (Nat × Nat)} (hs : sp_srt f w E) : sp_srt f w (sp_del E k) := by
  unfold sp_del
  cases sp_fi E k with
  | some i => exact sp_srt_sub (List.eraseIdx_sublist E i) hs
  | none => exact hs
theorem sp_srt_filter {f w : Nat} {E : List (Nat × Nat)} {p : Nat × Nat → Bool} (hs : sp_srt f w E) : sp_srt f w (E.filter p) := sp_srt_sub List.filter_sublist hs
theorem sp_gives_ok {f w : Nat} : ∀ (L A : List (Nat × Nat)), sp_eb A → sp_srt f w A → (∀ e ∈ L, e.1 < 4096 ∧ e.2 < 1000) → A.length + L.length ≤ 24 → sp_eb (L.foldl (fun A e => sp_give (sp_ord f w) A e.1 e.2) A) ∧ sp_srt f w (L.foldl (fun A e => sp_give (sp_ord f w) A e.1 e.2) A)
  | [], A, hb, hs, _, _ => ⟨hb, hs⟩
  | e :: L, A, hb, hs, hL, hn => by
    have he := hL e List.mem_cons_self
    simp only [List.length_cons] at hn
    have := sp_give_len (o := sp_ord f w) (A := A) (a := e.1) (b := e.2)
    exact sp_gives_ok L _ (sp_eb_give hb he.1 he.2 (fun _ => by omega)) (sp_srt_give hb hs he.1) (fun x hx => hL x (List.mem_cons_of_mem _ hx)) (by show (sp_give (sp_ord f w) A e.1 e.2).length + _ ≤ _; omega)
theorem sp_inb_none (E F : List (Nat × Nat)) : (F.filter (fun e => (sp_fi E e.1).isNone)).length + sp_inb F E = F.length := by
  unfold sp_inb
  induction F with
  | nil => rfl
  | cons e F ih =>
    simp only [List.filter_cons]
    cases hf : sp_fi E e.1 with
    | some i =>
      simp only [Option.isNone_some, Option.isSome_some, Bool.false_eq_true, if_false, if_true, List.length_cons]
      omega
    | none =>
      simp only [Option.isNone_none, Option.isSome_none, Bool.false_eq_true, if_false, if_true, List.length_cons]
      omega
theorem sp_bth_ok {f w how : Nat} {E F : List (Nat × Nat)} (hb : sp_eb E) (hs : sp_srt f w E) (hb' : sp_eb F) (hr : how = 0 → E.length + F.length - sp_inb F E ≤ 24) : sp_eb (sp_bth (sp_ord f w) E F how) ∧ sp_srt f w (sp_bth (sp_ord f w) E F how) := by
  unfold sp_bth
  by_cases c : how = 0
  · rw [if_pos c]
    have h1 := sp_inb_none E F
    have h2 := hr c
    refine sp_gives_ok _ E hb hs (fun e he => (sp_eb_mem.mp hb').2 e (List.mem_filter.mp he).1) (by omega)
  · rw [if_neg c]
    by_cases c1 : how = 1
    · rw [if_pos c1]; exact ⟨sp_eb_filter hb, sp_srt_filter hs⟩
    · rw [if_neg c1]; exact ⟨sp_eb_filter hb, sp_srt_filter hs⟩
theorem sp_fi_mem {F : List (Nat × Nat)} {k : Nat} : (sp_fi F k).isSome = true ↔ k ∈ F.map (fun e => e.1) := by
  rw [List.mem_map]
  constructor
  · intro h
    cases hf : sp_fi F k with
    | none => rw [hf] at h; cases h
    | some i =>
      obtain ⟨h1, h2, -⟩ := sp_fi_some hf
      exact ⟨F[i], List.getElem_mem h1, by rw [sp_kg h1]; exact h2⟩
  · intro ⟨e, he, hk⟩
    cases hf : sp_fi F k with
    | some i => rfl
    | none =>
      obtain ⟨i, hi, rfl⟩ := List.mem_iff_getElem.mp he
      rw [sp_kg hi] at hk
      exact absurd hk (sp_fi_none hf i hi)
theorem sp_keys_nodup {f w : Nat} {E : List (Nat × Nat)} (hs : sp_srt f w E) : (E.map (fun e => e.1)).Nodup := by
  unfold List.Nodup
  rw [List.pairwise_iff_getElem]
  intro i j hi hj hij
  rw [List.length_map] at hi hj
  rw [List.getElem_map, List.getElem_map, sp_kg hi, sp_kg hj]
  intro z
  have := sp_srt_k hs hi hj z
  omega
theorem sp_inb_map (E F : List (Nat × Nat)) : sp_inb E F = ((E.map (fun e => e.1)).filter (fun k => (sp_fi F k).isSome)).length := by
  unfold sp_inb
  rw [List.filter_map, List.length_map]
  rfl
theorem sp_inb_sym {f w f' w' : Nat} {E F : List (Nat × Nat)} (hs : sp_srt f w E) (hs' : sp_srt f' w' F) : sp_inb E F = sp_inb F E := by
  rw [sp_inb_map, sp_inb_map]
  refine List.Perm.length_eq ((List.perm_ext_iff_of_nodup (List.Nodup.sublist List.filter_sublist (sp_keys_nodup hs)) (List.Nodup.sublist List.filter_sublist (sp_keys_nodup hs'))).mpr (fun k => ?_))
  rw [List.mem_filter, List.mem_filter, sp_fi_mem, sp_fi_mem]
  exact And.comm
