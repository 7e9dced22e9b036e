/-! TREES: their nodes, the nodes below a node, trees of equal entries -/
theorem sp_n_get {N : List sp_nd} {i : Nat} (h : i < N.length) : sp_n N i = N[i] := by
  simp [sp_n, List.getD_eq_getElem?_getD, h]
theorem sp_n_mem {N : List sp_nd} {i : Nat} (h : i < N.length) : sp_n N i ∈ N := by
  rw [sp_n_get h]; exact List.getElem_mem h
theorem sp_n_l {A B : List sp_nd} {i : Nat} (h : i < A.length) : sp_n (A ++ B) i = sp_n A i := by
  simp [sp_n, List.getD_eq_getElem?_getD, List.getElem?_append, h]
theorem sp_n_r {A B : List sp_nd} {i : Nat} : sp_n (A ++ B) (A.length + i) = sp_n B i := by
  have e : ¬ A.length + i < A.length := by omega
  simp [sp_n, List.getD_eq_getElem?_getD, List.getElem?_append, e]
theorem sp_n_c {x : sp_nd} {B : List sp_nd} {i : Nat} : sp_n (x :: B) (i + 1) = sp_n B i := by
  simp [sp_n, List.getD_eq_getElem?_getD]
/-- what holds of each node -/
def sp_okn (g : Nat → Nat) (k a b : Nat) (x : sp_nd) : Prop := a ≤ x.2.2.1 ∧ 1 ≤ x.2.2.2 ∧ x.2.2.1 + x.2.2.2 ≤ b ∧ 7 - k ≤ x.2.1 ∧ x.2.1 ≤ 6 ∧ x.1 = sp_kd g x.2.2.1 (x.2.2.1 + x.2.2.2)
theorem sp_lay_mem (g : Nat → Nat) : ∀ k a b, k ≤ 7 → ∀ x ∈ sp_lay g k a b, sp_okn g k a b x
  | 0, a, b, _, x, h => absurd h List.not_mem_nil
  | k + 1, a, b, hk, x, h => by
    by_cases hab : a < b
    · by_cases o : sp_one g a b
      · rw [sp_lay_one hab o, List.mem_singleton] at h
        subst h
        refine ⟨Nat.le_refl _, by simp only; omega, by simp only; omega, by simp only; omega, by simp only; omega, ?_⟩
        simp only
        rw [show a + (b - a) = b by omega]
        unfold sp_kd
        rw [if_pos o]
      · rw [sp_lay_br hab o] at h
        rcases List.mem_cons.mp h with z | z
        · subst z
          refine ⟨Nat.le_refl _, by simp only; omega, by simp only; omega, by simp only; omega, by simp only; omega, ?_⟩
          simp only
          rw [show a + (b - a) = b by omega]
          unfold sp_kd
          rw [if_neg o]
        · obtain ⟨r, hr, hx⟩ := List.mem_flatMap.mp z
          obtain ⟨r1, r2, r3, -⟩ := sp_isR_mem _ a (sp_runs_is _ (Nat.le_of_lt hab)) r hr
          obtain ⟨x1, x2, x3, x4, x5, x6⟩ := sp_lay_mem g k r.1 r.2 (by omega) x hx
          exact ⟨by omega, x2, by omega, by omega, x5, x6⟩
    · rw [sp_lay_nil (by omega)] at h
      exact absurd h List.not_mem_nil
/-- the tree below a node is a stretch of the list; what comes behind it begins behind it -/
def sp_cut (g : Nat → Nat) (N : List sp_nd) (i : Nat) : Prop := ∃ pre post : List sp_nd, N = pre ++ (sp_lay g (7 - (sp_n N i).2.1) (sp_n N i).2.2.1 ((sp_n N i).2.2.1 + (sp_n N i).2.2.2) ++ post) ∧ pre.length = i ∧ ∀ x ∈ post, (sp_n N i).2.2.1 + (sp_n N i).2.2.2 ≤ x.2.2.1
theorem sp_cut_fm {g : Nat → Nat} {p : Nat → Nat} {b k : Nat} (hk : k ≤ 7) (ih : ∀ a b i, i < (sp_lay g k a b).length → sp_cut g (sp_lay g k a b) i) : ∀ (rs : List (Nat × Nat)) (a : Nat), sp_isR p b a rs → ∀ i, i < (rs.flatMap (fun r => sp_lay g k r.1 r.2)).length → sp_cut g (rs.flatMap (fun r => sp_lay g k r.1 r.2)) i
  | [], _, _, i, hi => absurd hi (by simp)
  | r :: rs, a, ⟨a1, a2, a3, a4, a5, a6⟩, i, hi => by
    rw [List.flatMap_cons] at hi ⊢
    generalize hA : sp_lay g k r.1 r.2 = A at hi ⊢
    have hall : ∀ x ∈ rs.flatMap (fun r => sp_lay g k r.1 r.2), r.2 ≤ x.2.2.1 := by
      intro x hx
      obtain ⟨q, hq, hx⟩ := List.mem_flatMap.mp hx
      have h1 := (sp_isR_mem rs r.2 a6 q hq).1
      have h2 := (sp_lay_mem g k q.1 q.2 hk x hx).1
      omega
    by_cases c : i < A.length
    · obtain ⟨pre, post, h1, h2, h3⟩ := ih r.1 r.2 i (by rw [hA]; exact c)
      rw [hA] at h1 h3
      unfold sp_cut
      rw [sp_n_l c]
      refine ⟨pre, post ++ rs.flatMap (fun r => sp_lay g k r.1 r.2), ?_, h2, fun x hx => ?_⟩
      · conv => lhs; rw [h1]
        simp only [List.append_assoc]
      · rcases List.mem_append.mp hx with z | z
        · exact h3 x z
        · have h4 := (sp_lay_mem g k r.1 r.2 hk (sp_n A i) (by rw [hA]; exact sp_n_mem c)).2.2.1
          have h5 := hall x z
          omega
    · obtain ⟨j, rfl⟩ : ∃ j, i = A.length + j := ⟨i - A.length, by omega⟩
      rw [List.length_append] at hi
      obtain ⟨pre, post, h1, h2, h3⟩ := sp_cut_fm hk ih rs r.2 a6 j (by omega)
      unfold sp_cut
      rw [sp_n_r]
      refine ⟨A ++ pre, post, ?_, by rw [List.length_append, h2], h3⟩
      conv => lhs; rw [h1]
      simp only [List.append_assoc]
theorem sp_sub (g : Nat → Nat) : ∀ k a b i, k ≤ 7 → i < (sp_lay g k a b).length → sp_cut g (sp_lay g k a b) i
  | 0, a, b, i, _, h => absurd h (by simp [sp_lay])
  | k + 1, a, b, i, hk, hi => by
    by_cases hab : a < b
    · by_cases o : sp_one g a b
      · have hi0 : i = 0 := by rw [sp_lay_one hab o, List.length_singleton] at hi; omega
        subst hi0
        refine ⟨[], [], ?_, rfl, fun x hx => absurd hx List.not_mem_nil⟩
        have e : sp_n (sp_lay g (k + 1) a b) 0 = (if b = a + 1 then 0 else 1, 6 - k, a, b - a) := by rw [sp_lay_one hab o]; rfl
        rw [e, List.nil_append, List.append_nil]
        simp only
        rw [show 7 - (6 - k) = k + 1 by omega, show a + (b - a) = b by omega]
      · cases i with
        | zero =>
          refine ⟨[], [], ?_, rfl, fun x hx => absurd hx List.not_mem_nil⟩
          have e : sp_n (sp_lay g (k + 1) a b) 0 = (2, 6 - k, a, b - a) := by rw [sp_lay_br hab o]; rfl
          rw [e, List.nil_append, List.append_nil]
          simp only
          rw [show 7 - (6 - k) = k + 1 by omega, show a + (b - a) = b by omega]
        | succ i =>
          rw [sp_lay_br hab o] at hi ⊢
          rw [List.length_cons] at hi
          obtain ⟨pre, post, h1, h2, h3⟩ := sp_cut_fm (by omega) (fun a b i h => sp_sub g k a b i (by omega) h) _ a (sp_runs_is (fun i => sp_part (g i) (6 - k)) (Nat.le_of_lt hab)) i (by omega)
          unfold sp_cut
          rw [sp_n_c]
          refine ⟨(2, 6 - k, a, b - a) :: pre, post, ?_, by rw [List.length_cons, h2], h3⟩
          conv => lhs; rw [h1]
          rfl
    · rw [sp_lay_nil (by omega)] at hi
      exact absurd hi (by simp)
/-- how many nodes a node is, with all below it, as the reference finds it -/
def sp_wdF (N : List sp_nd) (e : Nat) : Nat → Nat → Nat
  | 0, k => k
  | n + 1, k => if k < N.length ∧ (sp_n N k).2.2.1 < e then sp_wdF N e n (k + 1) else k
def sp_wd (N : List sp_nd) (i : Nat) : Nat := sp_wdF N ((sp_n N i).2.2.1 + (sp_n N i).2.2.2) (N.length - (i + 1)) (i + 1) - i
theorem sp_wdF_is {N : List sp_nd} {e : Nat} : ∀ n k z, k ≤ z → z ≤ N.length → N.length - k ≤ n → (∀ t, k ≤ t → t < z → (sp_n N t).2.2.1 < e) → (z < N.length → e ≤ (sp_n N z).2.2.1) → sp_wdF N e n k = z
  | 0, k, z, h1, h2, h3, _, _ => by unfold sp_wdF; omega
  | n + 1, k, z, h1, h2, h3, h4, h5 => by
    unfold sp_wdF
    by_cases c : k < z
    · rw [if_pos ⟨by omega, h4 k (Nat.le_refl _) c⟩]
      exact sp_wdF_is n (k + 1) z (by omega) h2 (by omega) (fun t t1 t2 => h4 t (by omega) t2) h5
    · have : k = z := by omega
      subst this
      rw [if_neg]
      intro q
      have := h5 q.1
      omega
theorem sp_wd_len {g : Nat → Nat} {k a b i : Nat} (hk : k ≤ 7) (hi : i < (sp_lay g k a b).length) : sp_wd (sp_lay g k a b) i = (sp_lay g (7 - (sp_n (sp_lay g k a b) i).2.1) (sp_n (sp_lay g k a b) i).2.2.1 ((sp_n (sp_lay g k a b) i).2.2.1 + (sp_n (sp_lay g k a b) i).2.2.2)).length ∧ i + sp_wd (sp_lay g k a b) i ≤ (sp_lay g k a b).length ∧ 1 ≤ sp_wd (sp_lay g k a b) i := by
  obtain ⟨pre, post, h1, h2, h3⟩ := sp_sub g k a b i hk hi
  have hx := sp_lay_mem g k a b hk _ (sp_n_mem hi)
  generalize hN : sp_lay g k a b = N at h1 h3 hi hx ⊢
  generalize hnd : sp_n N i = nd at h1 h3 hx ⊢
  generalize hM : sp_lay g (7 - nd.2.1) nd.2.2.1 (nd.2.2.1 + nd.2.2.2) = M at h1 ⊢
  have hlen : N.length = i + (M.length + post.length) := by rw [h1, List.length_append, List.length_append, h2]
  have hM1 : 1 ≤ M.length := by
    rcases Nat.eq_zero_or_pos M.length with z | z
    · exfalso
      obtain ⟨q1, q2, q3, q4, q5, q6⟩ := hx
      rw [← hM, show 7 - nd.2.1 = (6 - nd.2.1) + 1 by omega] at z
      by_cases o : sp_one g nd.2.2.1 (nd.2.2.1 + nd.2.2.2)
      · rw [sp_lay_one (by omega) o] at z; simp at z
      · rw [sp_lay_br (by omega) o] at z; simp at z
    · exact z
  have hin : ∀ t, t < M.length → sp_n N (i + t) = sp_n M t := by
    intro t ht
    rw [h1, ← h2, sp_n_r, sp_n_l ht]
  have hw : sp_wd N i = M.length := by
    unfold sp_wd
    rw [hnd, sp_wdF_is (N.length - (i + 1)) (i + 1) (i + M.length) (by omega) (by omega) (Nat.le_refl _) ?_ ?_]
    · omega
    · intro t t1 t2
      obtain ⟨j, rfl⟩ : ∃ j, t = i + j := ⟨t - i, by omega⟩
      rw [hin j (by omega)]
      have hm := sp_n_mem (N := M) (i := j) (by omega)
      rw [← hM] at hm
      obtain ⟨m1, m2, m3, -⟩ := sp_lay_mem g _ _ _ (by omega) _ hm
      rw [hM] at m1 m2 m3
      omega
    · intro hz
      have e : sp_n N (i + M.length) = sp_n post 0 := by
        rw [h1, ← h2, sp_n_r, show M.length = M.length + 0 from rfl, sp_n_r]
      rw [e]
      exact h3 _ (sp_n_mem (by omega))
  exact ⟨hw, by omega, by omega⟩
/-! trees of equal entries are equal but for their place -/
def sp_sh (a : Nat) (x : sp_nd) : sp_nd := (x.1, x.2.1, a + x.2.2.1, x.2.2.2)
theorem sp_isR_sh {p : Nat → Nat} {a b : Nat} : ∀ (rs : List (Nat × Nat)) (s : Nat), sp_isR (fun t => p (a + t)) b s rs → sp_isR p (a + b) (a + s) (rs.map (fun r => (a + r.1, a + r.2)))
  | [], s, h => by
    have : s = b := h
    show a + s = a + b
    omega
  | r :: rs, s, ⟨a1, a2, a3, a4, a5, a6⟩ => by
    refine ⟨by simp only; omega, by simp only; omega, by simp only; omega, fun i i1 i2 => ?_, fun z => a5 (by simp only at z; omega), sp_isR_sh rs r.2 a6⟩
    have := a4 (i - a) (by omega) (by simp only at i2; omega)
    simp only at this
    rw [show a + (i - a) = i by omega] at this
    exact this
theorem sp_lay_sh (g : Nat → Nat) (a : Nat) : ∀ k s e, sp_lay g k (a + s) (a + e) = (sp_lay (fun t => g (a + t)) k s e).map (sp_sh a)
  | 0, s, e => rfl
  | k + 1, s, e => by
    by_cases h : s < e
    · have ho : sp_one g (a + s) (a + e) ↔ sp_one (fun t => g (a + t)) s e := by
        constructor
        · intro o i i1 i2
          exact o (a + i) (by omega) (by omega)
        · intro o i i1 i2
          have := o (i - a) (by omega) (by omega)
          simp only at this
          rw [show a + (i - a) = i by omega] at this
          exact this
      by_cases o : sp_one (fun t => g (a + t)) s e
      · rw [sp_lay_one h o, sp_lay_one (by omega) (ho.mpr o)]
        simp only [List.map_cons, List.map_nil, sp_sh]
        have e1 : a + e - (a + s) = e - s := by omega
        have e2 : (a + e = a + s + 1) = (e = s + 1) := propext ⟨fun z => by omega, fun z => by omega⟩
        simp only [e1, e2]
      · rw [sp_lay_br h o, sp_lay_br (by omega) (fun z => o (ho.mp z)), List.map_cons, List.map_flatMap]
        have e1 : a + e - (a + s) = e - s := by omega
        rw [e1]
        congr 1
        rw [sp_runs_eq (by omega) (sp_isR_sh _ s (sp_runs_is (fun t => sp_part (g (a + t)) (6 - k)) (Nat.le_of_lt h))), List.flatMap_map]
        exact congrArg (fun F => List.flatMap F _) (by funext r; exact sp_lay_sh g a k r.1 r.2)
    · rw [sp_lay_nil (by omega), sp_lay_nil (by omega)]
      rfl
theorem sp_lay_cg {g g' : Nat → Nat} {a a' m k : Nat} (h : ∀ t, t < m → g' (a' + t) = g (a + t)) : ∃ M : List sp_nd, sp_lay g k a (a + m) = M.map (sp_sh a) ∧ sp_lay g' k a' (a' + m) = M.map (sp_sh a') := by
  have e : ∀ (p q : Nat → Nat), (∀ t, t < m → p t = q t) → ∀ k s e, e ≤ m → sp_lay p k s e = sp_lay q k s e := by
    intro p q hpq k
    induction k with
    | zero => intro s e _; rfl
    | succ k ih =>
      intro s e he
      by_cases hs : s < e
      · have ho : sp_one p s e ↔ sp_one q s e := by
          constructor
          · intro o i i1 i2; rw [← hpq i (by omega), ← hpq s (by omega)]; exact o i i1 i2
          · intro o i i1 i2; rw [hpq i (by omega), hpq s (by omega)]; exact o i i1 i2
        by_cases o : sp_one q s e
        · rw [sp_lay_one hs o, sp_lay_one hs (ho.mpr o)]
        · rw [sp_lay_br hs o, sp_lay_br hs (fun z => o (ho.mp z))]
          congr 1
          have hr : sp_runs (fun i => sp_part (p i) (6 - k)) s e = sp_runs (fun i => sp_part (q i) (6 - k)) s e := by
            refine sp_runs_eq (Nat.le_of_lt hs) ?_
            have : ∀ (rs : List (Nat × Nat)) (s : Nat), sp_isR (fun i => sp_part (q i) (6 - k)) e s rs → sp_isR (fun i => sp_part (p i) (6 - k)) e s rs := by
              intro rs
              induction rs with
              | nil => intro s h; exact h
              | cons r rs ihr =>
                intro s ⟨a1, a2, a3, a4, a5, a6⟩
                refine ⟨a1, a2, a3, fun i i1 i2 => ?_, fun z => ?_, ihr r.2 a6⟩
                · simp only
                  rw [hpq i (by omega), hpq s (by omega)]
                  exact a4 i i1 i2
                · simp only
                  rw [hpq r.2 (by omega), hpq s (by omega)]
                  exact a5 z
            exact this _ s (sp_runs_is _ (Nat.le_of_lt hs))
          rw [hr]
          have hmem : ∀ (rs : List (Nat × Nat)), (∀ r ∈ rs, r.2 ≤ m) → rs.flatMap (fun r => sp_lay p k r.1 r.2) = rs.flatMap (fun r => sp_lay q k r.1 r.2) := by
            intro rs
            induction rs with
            | nil => intro _; rfl
            | cons r rs ihr =>
              intro hh
              rw [List.flatMap_cons, List.flatMap_cons, ih r.1 r.2 (hh r List.mem_cons_self), ihr (fun q hq => hh q (List.mem_cons_of_mem _ hq))]
          refine hmem _ (fun r hr2 => ?_)
          have := (sp_isR_mem _ s (sp_runs_is _ (Nat.le_of_lt hs)) r hr2).2.2.1
          omega
      · rw [sp_lay_nil (by omega), sp_lay_nil (by omega)]
  refine ⟨sp_lay (fun t => g (a + t)) k 0 m, sp_lay_sh g a k 0 m, ?_⟩
  rw [e (fun t => g (a + t)) (fun t => g' (a' + t)) (fun t ht => (h t ht).symm) k 0 m (Nat.le_refl _)]
  exact sp_lay_sh g' a' k 0 m
