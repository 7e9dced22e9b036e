/-! NODES THAT ARE ALIKE; numbers of nodes handed on -/
/-- a node of E' and one of E are equal in the document's sense -/
abbrev sp_like (E' : List (Nat × Nat)) (x' : sp_nd) (E : List (Nat × Nat)) (x : sp_nd) : Prop := x'.1 = x.1 ∧ x'.2.2.2 = x.2.2.2 ∧ (x'.1 = 2 → x'.2.1 = x.2.1) ∧ ∀ t, t < x'.2.2.2 → sp_k E' (x'.2.2.1 + t) = sp_k E (x.2.2.1 + t) ∧ sp_v E' (x'.2.2.1 + t) = sp_v E (x.2.2.1 + t)
/-- the first index below n that has P -/
def sp_fst (P : Nat → Bool) (n : Nat) : Option Nat := (List.range n).find? P
theorem sp_fst_some {P : Nat → Bool} {n k : Nat} : sp_fst P n = some k ↔ k < n ∧ P k = true ∧ ∀ j, j < k → P j = false := by
  unfold sp_fst
  rw [List.find?_range_eq_some]
  constructor
  · intro ⟨h1, h2, h3⟩
    exact ⟨List.mem_range.mp h2, h1, fun j hj => by simpa using h3 j hj⟩
  · intro ⟨h1, h2, h3⟩
    exact ⟨h2, List.mem_range.mpr h1, fun j hj => by simpa using h3 j hj⟩
theorem sp_fst_none {P : Nat → Bool} {n : Nat} : sp_fst P n = none ↔ ∀ j, j < n → P j = false := by
  unfold sp_fst
  rw [List.find?_range_eq_none]
  constructor
  · intro h j hj; simpa using h j hj
  · intro h j hj; simpa using h j hj
def sp_fl (E' : List (Nat × Nat)) (x' : sp_nd) (E : List (Nat × Nat)) (N : List sp_nd) : Option Nat := sp_fst (fun k => decide (sp_like E' x' E (sp_n N k))) N.length
/-- numbers handed on: at each node from the top, a stretch of numbers that is taken, or one number -/
def sp_go (L : Nat) (wd : Nat → Nat) (F : Nat → Option (List Nat)) (G : Nat → Nat → Nat × Nat) : Nat → Nat → Nat → List Nat × Nat
  | 0, _, md => ([], md)
  | n + 1, i, md => if i < L then (match F i with
      | some l => (l ++ (sp_go L wd F G n (i + wd i) md).1, (sp_go L wd F G n (i + wd i) md).2)
      | none => ((G i md).1 :: (sp_go L wd F G n (i + 1) (G i md).2).1, (sp_go L wd F G n (i + 1) (G i md).2).2)) else ([], md)
def sp_id (ids : List Nat) (i : Nat) : Nat := ids.getD i 0
/-- what is taken for a node from a map -/
def sp_tk (f w : Nat) (E' : List (Nat × Nat)) (i : Nat) (src : List (Nat × Nat) × List Nat) : Option (List Nat) := match sp_fl E' (sp_n (sp_N f w E') i) src.1 (sp_N f w src.1) with
  | some k => some ((src.2.drop k).take (sp_wd (sp_N f w E') i))
  | none => none
def sp_tk2 (f w : Nat) (E' : List (Nat × Nat)) (i : Nat) (one : List (Nat × Nat) × List Nat) (two : Option (List (Nat × Nat) × List Nat)) : Option (List Nat) := match sp_tk f w E' i one with
  | some l => some l
  | none => match two with
    | some t => sp_tk f w E' i t
    | none => none
/-- the numbers of a new version's nodes, and how many nodes are made then -/
def sp_new (f w : Nat) (E' : List (Nat × Nat)) (one : List (Nat × Nat) × List Nat) (two : Option (List (Nat × Nat) × List Nat)) (md : Nat) : List Nat × Nat :=
  sp_go (sp_N f w E').length (sp_wd (sp_N f w E')) (fun i => sp_tk2 f w E' i one two) (fun _ md => (md, md + 1)) ((sp_N f w E').length + 1) 0 md
/-- in the place of a node: a node of the same kind with the same key, hash, or parts above -/
abbrev sp_std (f w : Nat) (E' : List (Nat × Nat)) (x' : sp_nd) (E : List (Nat × Nat)) (x : sp_nd) : Prop := x.1 = x'.1 ∧ (if x'.1 = 0 then sp_k E' x'.2.2.1 = sp_k E x.2.2.1 else if x'.1 = 1 then sp_hash f w (sp_k E' x'.2.2.1) = sp_hash f w (sp_k E x.2.2.1) else x'.2.1 = x.2.1 ∧ sp_hash f w (sp_k E' x'.2.2.1) % 32 ^ x'.2.1 = sp_hash f w (sp_k E x.2.2.1) % 32 ^ x'.2.1)
def sp_fs (f w : Nat) (E' : List (Nat × Nat)) (x' : sp_nd) (E : List (Nat × Nat)) (ids : List Nat) (own : Nat) : Option Nat := sp_fst (fun k => decide (own ≤ sp_id ids k ∧ sp_std f w E' x' E (sp_n (sp_N f w E) k))) (sp_N f w E).length
/-- the numbers of an edit's nodes behind a change -/
def sp_edn (f w : Nat) (E' : List (Nat × Nat)) (E : List (Nat × Nat)) (ids : List Nat) (own md : Nat) : List Nat × Nat :=
  sp_go (sp_N f w E').length (sp_wd (sp_N f w E')) (fun i => sp_tk f w E' i (E, ids)) (fun i md => match sp_fs f w E' (sp_n (sp_N f w E') i) E ids own with
    | some k => (sp_id ids k, md)
    | none => (md, md + 1)) ((sp_N f w E').length + 1) 0 md
/-- nodes of a version are nodes of its tree -/
theorem sp_N_ok {f w : Nat} {E : List (Nat × Nat)} {i : Nat} (h : i < (sp_N f w E).length) : sp_okn (sp_g f w E) 7 0 E.length (sp_n (sp_N f w E) i) := sp_lay_mem _ _ _ _ (Nat.le_refl _) _ (sp_n_mem h)
/-- a node of many entries that are not of one hash is a branch; others have nothing below -/
theorem sp_lay_1 {g : Nat → Nat} {k s m : Nat} (hm : 1 ≤ m) (h : sp_kd g s (s + m) ≠ 2) : sp_lay g (k + 1) s (s + m) = [(sp_kd g s (s + m), 6 - k, s, m)] := by
  unfold sp_kd at h ⊢
  by_cases o : sp_one g s (s + m)
  · rw [sp_lay_one (by omega) o, if_pos o, show s + m - s = m by omega]
  · rw [if_neg o] at h
    exact absurd rfl h
/-- alike nodes have alike trees: the same number of nodes -/
theorem sp_like_wd {f w : Nat} {E' E : List (Nat × Nat)} {i k : Nat} (hi : i < (sp_N f w E').length) (hk : k < (sp_N f w E).length) (h : sp_like E' (sp_n (sp_N f w E') i) E (sp_n (sp_N f w E) k)) : sp_wd (sp_N f w E') i = sp_wd (sp_N f w E) k ∧ ∀ t, t < sp_wd (sp_N f w E') i → (sp_n (sp_N f w E') (i + t)).1 = (sp_n (sp_N f w E) (k + t)).1 ∧ ((sp_n (sp_N f w E') i).1 = 2 → (sp_n (sp_N f w E') (i + t)).2.1 = (sp_n (sp_N f w E) (k + t)).2.1) ∧ (sp_n (sp_N f w E') (i + t)).2.2.2 = (sp_n (sp_N f w E) (k + t)).2.2.2 ∧ ∃ z, (sp_n (sp_N f w E') (i + t)).2.2.1 = (sp_n (sp_N f w E') i).2.2.1 + z ∧ (sp_n (sp_N f w E) (k + t)).2.2.1 = (sp_n (sp_N f w E) k).2.2.1 + z ∧ z + (sp_n (sp_N f w E') (i + t)).2.2.2 ≤ (sp_n (sp_N f w E') i).2.2.2 := by
  obtain ⟨i1, i2, i3, i4, i5, i6⟩ := sp_N_ok hi
  obtain ⟨k1, k2, k3, k4, k5, k6⟩ := sp_N_ok hk
  obtain ⟨a1, a2, a3⟩ := sp_wd_len (Nat.le_refl 7) hi
  obtain ⟨b1, b2, b3⟩ := sp_wd_len (Nat.le_refl 7) hk
  obtain ⟨pa, qa, ca1, ca2, -⟩ := sp_sub (sp_g f w E') 7 0 E'.length i (Nat.le_refl _) hi
  obtain ⟨pb, qb, cb1, cb2, -⟩ := sp_sub (sp_g f w E) 7 0 E.length k (Nat.le_refl _) hk
  obtain ⟨l1, l2, l3, l4⟩ := h
  change sp_wd (sp_N f w E') i = _ at a1
  change sp_wd (sp_N f w E) k = _ at b1
  change sp_N f w E' = _ at ca1
  change sp_N f w E = _ at cb1
  change _ = pa ++ (sp_lay _ (7 - (sp_n (sp_N f w E') i).2.1) (sp_n (sp_N f w E') i).2.2.1 ((sp_n (sp_N f w E') i).2.2.1 + (sp_n (sp_N f w E') i).2.2.2) ++ qa) at ca1
  change _ = pb ++ (sp_lay _ (7 - (sp_n (sp_N f w E) k).2.1) (sp_n (sp_N f w E) k).2.2.1 ((sp_n (sp_N f w E) k).2.2.1 + (sp_n (sp_N f w E) k).2.2.2) ++ qb) at cb1
  change _ = (sp_lay _ (7 - (sp_n (sp_N f w E') i).2.1) (sp_n (sp_N f w E') i).2.2.1 ((sp_n (sp_N f w E') i).2.2.1 + (sp_n (sp_N f w E') i).2.2.2)).length at a1
  change _ = (sp_lay _ (7 - (sp_n (sp_N f w E) k).2.1) (sp_n (sp_N f w E) k).2.2.1 ((sp_n (sp_N f w E) k).2.2.1 + (sp_n (sp_N f w E) k).2.2.2)).length at b1
  have hg : ∀ t, t < (sp_n (sp_N f w E') i).2.2.2 → sp_g f w E' ((sp_n (sp_N f w E') i).2.2.1 + t) = sp_g f w E ((sp_n (sp_N f w E) k).2.2.1 + t) := by
    intro t ht
    unfold sp_g
    rw [(l4 t ht).1]
  generalize hA : sp_N f w E' = A at *
  generalize hB : sp_N f w E = B at *
  generalize hx : sp_n A i = x at *
  generalize hy : sp_n B k = y at *
  have inA : ∀ (M : List sp_nd), A = pa ++ (M ++ qa) → ∀ t, t < M.length → sp_n A (i + t) = sp_n M t := by
    intro M hM t ht
    rw [hM, ← ca2, sp_n_r, sp_n_l ht]
  have inB : ∀ (M : List sp_nd), B = pb ++ (M ++ qb) → ∀ t, t < M.length → sp_n B (k + t) = sp_n M t := by
    intro M hM t ht
    rw [hM, ← cb2, sp_n_r, sp_n_l ht]
  by_cases h2 : x.1 = 2
  · have hlv : x.2.1 = y.2.1 := l3 h2
    rw [← hlv, ← l2] at b1 cb1
    obtain ⟨M, m1, m2⟩ := sp_lay_cg (k := 7 - x.2.1) (g := sp_g f w E) (g' := sp_g f w E') (a := y.2.2.1) (a' := x.2.2.1) (m := x.2.2.2) hg
    rw [m1] at b1 cb1
    rw [m2] at a1 ca1
    rw [List.length_map] at a1 b1
    refine ⟨by omega, fun t ht => ?_⟩
    have ea := inA _ ca1 t (by rw [List.length_map]; omega)
    have eb := inB _ cb1 t (by rw [List.length_map]; omega)
    have hs : ∀ z, sp_n (M.map (sp_sh z)) t = sp_sh z (sp_n M t) := by
      intro z
      rw [sp_n_get (by rw [List.length_map]; omega), sp_n_get (show t < M.length by omega), List.getElem_map]
    rw [hs] at ea eb
    have hmem := sp_n_mem (N := sp_lay (sp_g f w E') (7 - x.2.1) x.2.2.1 (x.2.2.1 + x.2.2.2)) (i := t) (by rw [m2, List.length_map]; omega)
    obtain ⟨-, -, q3, -⟩ := sp_lay_mem _ _ _ _ (by omega) _ hmem
    rw [m2, hs] at q3
    rw [ea, eb]
    refine ⟨rfl, fun _ => rfl, rfl, (sp_n M t).2.2.1, rfl, rfl, ?_⟩
    simp only [sp_sh] at q3 ⊢
    omega
  · have e1 : sp_lay (sp_g f w E') (7 - x.2.1) x.2.2.1 (x.2.2.1 + x.2.2.2) = [(x.1, x.2.1, x.2.2.1, x.2.2.2)] := by
      rw [show 7 - x.2.1 = (6 - x.2.1) + 1 by omega, sp_lay_1 i2 (by rw [← i6]; exact h2), ← i6, show 6 - (6 - x.2.1) = x.2.1 by omega]
    have e2 : sp_lay (sp_g f w E) (7 - y.2.1) y.2.2.1 (y.2.2.1 + y.2.2.2) = [(y.1, y.2.1, y.2.2.1, y.2.2.2)] := by
      rw [show 7 - y.2.1 = (6 - y.2.1) + 1 by omega, sp_lay_1 k2 (by rw [← k6, ← l1]; exact h2), ← k6, show 6 - (6 - y.2.1) = y.2.1 by omega]
    rw [e1] at a1
    rw [e2] at b1
    simp only [List.length_singleton] at a1 b1
    refine ⟨by omega, fun t ht => ?_⟩
    have : t = 0 := by omega
    subst this
    rw [Nat.add_zero, Nat.add_zero, hx, hy]
    exact ⟨l1, fun z => absurd z h2, l2, 0, rfl, rfl, by omega⟩
