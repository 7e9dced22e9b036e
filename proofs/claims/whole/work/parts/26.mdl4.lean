/-! THE REFERENCE: layNodes -/
def sp_sz (st : List (Nat × Nat × Nat)) : Nat := (st.map (fun x => x.2.1 - x.1)).sum
theorem sp_isR_sz {p : Nat → Nat} {b l : Nat} : ∀ (rs : List (Nat × Nat)) (a : Nat), a ≤ b → sp_isR p b a rs → sp_sz (rs.map (fun r => (r.1, r.2, l))) = b - a
  | [], a, _, h => by
    have : a = b := h
    simp only [List.map_nil, sp_sz, List.sum_nil]
    omega
  | r :: rs, a, _, ⟨a1, a2, a3, a4, a5, a6⟩ => by
    have := sp_isR_sz (l := l) rs r.2 a3 a6
    unfold sp_sz at this ⊢
    simp only [List.map_cons, List.sum_cons]
    rw [this]
    omega
theorem sp_sz_app (s t : List (Nat × Nat × Nat)) : sp_sz (s ++ t) = sp_sz s + sp_sz t := by
  unfold sp_sz
  rw [List.map_append, List.sum_append]
theorem sp_sz_len : ∀ (st : List (Nat × Nat × Nat)), (∀ x ∈ st, x.1 < x.2.1) → st.length ≤ sp_sz st
  | [], _ => Nat.le_refl _
  | x :: r, h => by
    have h1 := sp_sz_len r (fun y hy => h y (List.mem_cons_of_mem _ hy))
    have h2 := h x List.mem_cons_self
    unfold sp_sz at h1 ⊢
    simp only [List.map_cons, List.sum_cons, List.length_cons]
    omega
def sp_rest (g : Nat → Nat) (st : List (Nat × Nat × Nat)) : List sp_nd := st.flatMap (fun x => sp_lay g (7 - x.2.2) x.1 x.2.1)
/-- a range's tree is its top node, and what it pushes -/
theorem sp_rest_push {g : Nat → Nat} {a b l : Nat} {st : List (Nat × Nat × Nat)} (h : a < b) (hl : l ≤ 6) : sp_rest g ((a, b, l) :: st) = (sp_kd g a b, l, a, b - a) :: sp_rest g (sp_push g a b l st) := by
  have e : sp_rest g ((a, b, l) :: st) = sp_lay g (7 - l) a b ++ sp_rest g st := by
    unfold sp_rest
    rw [List.flatMap_cons]
  rw [e, show 7 - l = (6 - l) + 1 by omega]
  unfold sp_push sp_kd
  by_cases o : sp_one g a b
  · rw [sp_lay_one h o, if_pos o, if_pos o, show 6 - (6 - l) = l by omega]
    rfl
  · rw [sp_lay_br h o, if_neg o, if_neg o, show 6 - (6 - l) = l by omega, List.cons_append]
    congr 1
    unfold sp_rest
    rw [List.flatMap_append, List.flatMap_map]
    congr 1
    exact congrArg (fun F => List.flatMap F _) (by funext r; show _ = sp_lay g (7 - (l + 1)) r.1 r.2; rw [show 7 - (l + 1) = 6 - l by omega])
theorem md_layNodes {ad : Nat → Nat} {d : Nat} {h : tv_AH} {m f w : Nat} {E : List (Nat × Nat)} (hm : m < 22) (s : md_sc f w h) (e : md_E m E h) (hb : sp_eb E) {K : tv_AH → Prop}
    (hK : ∀ h', h'.1 413 m = nI (sp_N f w E).length → md_N m (sp_N f w E) h' → (∀ i, i < (sp_N f w E).length → h'.1 419 (96 * m + i) = 0) → tv_ag (fun q i => md_rN m q i ∨ md_rP q i) h h' → K h') :
    tv_CV ad (d + 4) yX3_layNodes [.ref (ad 400), .int (nI m)] h K := by
  have h24 := hb.1
  have hN96 := sp_N_len (f := f) (w := w) hb.1
  have H : ∀ n (D : List sp_nd) (st : List (Nat × Nat × Nat)) (h1 : tv_AH), D.length + n = (sp_N f w E).length → D ++ sp_rest (sp_g f w E) st = sp_N f w E → (∀ x ∈ st, x.1 < x.2.1 ∧ x.2.1 ≤ E.length ∧ x.2.2 ≤ 6 ∧ sp_agr (sp_g f w E) x.1 x.2.1 x.2.2) → sp_sz st ≤ 24 → h1.1 413 m = nI D.length → md_N m D h1 → (∀ i, i < D.length → h1.1 419 (96 * m + i) = 0) → h1.1 400 23 = nI st.length → md_st st h1 → tv_ag (fun q i => md_rN m q i ∨ md_rP q i) h h1 → tv_Wp ad RX3 cX3_layNodes 2 none (d + 3) (tv_pV K) 33 [(0, .ref (ad 400)), (1, .int (nI m))] [] h1 := by
    intro n
    induction n with
    | zero =>
      intro D st h1 hn hD hx hsz hc hND hz hp hst ag
      cases st with
      | cons x r =>
        exfalso
        obtain ⟨x1, x2, x3⟩ := x
        have hh := hx _ List.mem_cons_self
        rw [sp_rest_push hh.1 hh.2.2.1] at hD
        have := congrArg List.length hD
        simp only [List.length_append, List.length_cons] at this
        omega
      | nil =>
        have hD' : D = sp_N f w E := by rw [← hD]; simp [sp_rest]
        refine bX3_layNodes_33 _ h1 ?_
        rw [hp]
        refine pk_le 0 0 (fun _ => ?_) (fun z => absurd z (by omega))
        rw [← hD'] at hK
        exact hK h1 hc hND hz ag
    | succ n ih =>
      intro D st h1 hn hD hx hsz hc hND hz hp hst ag
      cases st with
      | nil =>
        exfalso
        have := congrArg List.length hD
        simp only [sp_rest, List.flatMap_nil, List.append_nil] at this
        omega
      | cons x r =>
        obtain ⟨a, b, l⟩ := x
        obtain ⟨hab, hbn, hl, agr⟩ := hx _ List.mem_cons_self
        simp only at hab hbn hl agr
        have hlen := sp_sz_len ((a, b, l) :: r) (fun y hy => (hx y hy).1)
        have hszc : sp_sz ((a, b, l) :: r) = (b - a) + sp_sz r := rfl
        have hlenr := sp_sz_len r (fun y hy => (hx y (List.mem_cons_of_mem _ hy)).1)
        simp only [List.length_cons] at hlen hp
        refine bX3_layNodes_33 _ h1 ?_
        rw [hp]
        refine pk_le (r.length + 1) 0 (fun z => absurd z (by omega)) (fun _ => ?_)
        rw [show nI (r.length + 1) - 1 = nI r.length from nI_pred _]
        intro h2 w2
        have p2 : h2.1 400 23 = nI r.length := by rw [w2, tv_wIe]
        obtain ⟨t1, t2, t3, t4⟩ := hst
        have ag2 : tv_ag (fun q i => q = 400 ∧ i = 23) h1 h2 := by subst w2; exact tv_ag.rf.wI ⟨rfl, rfl⟩
        rw [p2, tv_nc r.length, ag2.2 420 _ (by omega), ag2.2 421 _ (by omega), ag2.2 422 _ (by omega), t1, t2, t3]
        refine ⟨pk_in r.length 96 (by omega), pk_in r.length 96 (by omega), pk_in r.length 96 (by omega), ?_⟩
        have agh : tv_ag (fun q i => md_rN m q i ∨ md_rP q i) h h2 := ag.tr (ag2.mo (fun q i z => Or.inr (Or.inr z)))
        have s2 : md_sc f w h2 := s.ag agh (by unfold md_rN md_rP; omega) (by unfold md_rN md_rP; omega)
        have e2 : md_E m E h2 := e.cg hb.1 (fun q i z => agh.2 q i (by unfold md_rE at z; unfold md_rN md_rP; omega))
        refine md_layNode (c := D.length) hm s2 e2 hb hab hbn hl agr (by rw [ag2.2 _ _ (by omega)]; exact hc) (by omega) p2 (t4.cg (fun q i q1 q2 q3 => ag2.2 q i (by omega))) (by omega) (fun h3 k1 k2 k3 k4 k5 => ?_)
        rw [sp_rest_push hab hl] at hD
        have ag3 : tv_ag (fun q i => md_rN m q i ∨ md_rP q i) h2 h3 := k5.mo (fun q i z => by unfold md_rN md_rP; omega)
        refine ih (D ++ [(sp_kd (sp_g f w E) a b, l, a, b - a)]) (sp_push (sp_g f w E) a b l r) h3 ?_ ?_ ?_ ?_ ?_ ?_ ?_ k3 k4 (agh.tr ag3)
        · rw [List.length_append, List.length_singleton]; omega
        · rw [List.append_assoc]; exact hD
        · intro y hy
          unfold sp_push at hy
          split at hy
          · exact hx y (List.mem_cons_of_mem _ hy)
          · rename_i ho
            rcases List.mem_append.mp hy with z | z
            · obtain ⟨q, hq, rfl⟩ := List.mem_map.mp z
              obtain ⟨q1, q2, q3, q4⟩ := sp_isR_mem _ a (sp_runs_is _ (Nat.le_of_lt hab)) q hq
              have hl6 : l < 6 := by
                rcases Nat.lt_or_ge l 6 with z | z
                · exact z
                · exact absurd (sp_agr_one z (fun i _ => sp_hash_lt s.2.2) agr) ho
              exact ⟨q2, by simp only; omega, by simp only; omega, sp_agr_sub agr q1 q2 q3 q4⟩
            · exact hx y (List.mem_cons_of_mem _ z)
        · unfold sp_push
          split
          · omega
          · rw [sp_sz_app, sp_isR_sz _ a (Nat.le_of_lt hab) (sp_runs_is _ (Nat.le_of_lt hab))]
            omega
        · rw [k1, List.length_append, List.length_singleton]
        · intro i hi
          rw [List.length_append, List.length_singleton] at hi
          rw [sp_n_app]
          by_cases z : i < D.length
          · rw [if_pos z, k5.2 _ _ (by omega), k5.2 _ _ (by omega), k5.2 _ _ (by omega), k5.2 _ _ (by omega), ag2.2 _ _ (by omega), ag2.2 _ _ (by omega), ag2.2 _ _ (by omega), ag2.2 _ _ (by omega)]
            exact hND i z
          · have : i = D.length := by omega
            subst this
            rw [if_neg z, if_pos rfl]
            exact ⟨k2.1, k2.2.1, k2.2.2.1, k2.2.2.2.1⟩
        · intro i hi
          rw [List.length_append, List.length_singleton] at hi
          by_cases z : i < D.length
          · rw [k5.2 _ _ (by omega), ag2.2 _ _ (by omega)]
            exact hz i z
          · have : i = D.length := by omega
            subst this
            exact k2.2.2.2.2
  refine nX3_layNodes _ h ?_
  rw [tv_nc m]
  refine ⟨pk_in m 22 hm, fun h1 w1 h2 w2 => ⟨pk_in m 22 hm, ?_⟩⟩
  have ag2 : tv_ag (fun q i => md_rN m q i ∨ md_rP q i) h h2 := by
    subst w1 w2
    exact (tv_ag.rf.wI (Or.inl (Or.inl ⟨rfl, rfl⟩))).wI (Or.inr (Or.inr ⟨rfl, rfl⟩))
  have z2 : h2.1 410 m = nI E.length := by rw [ag2.2 _ _ (by unfold md_rN md_rP; omega)]; exact e.1
  have c2 : h2.1 413 m = nI 0 := by subst w1 w2; rw [tv_wIc (by omega), tv_wIe]; rfl
  have p2 : h2.1 400 23 = nI 0 := by subst w1 w2; rw [tv_wIe]; rfl
  rw [z2]
  refine pk_le E.length 0 (fun z => ?_) (fun z => ⟨pk_in m 22 hm, ?_⟩)
  · have hN0 : sp_N f w E = [] := sp_lay_nil z
    exact H 0 [] [] h2 (by rw [hN0]; rfl) (by rw [hN0]; rfl) (fun x hx => absurd hx List.not_mem_nil) (by simp [sp_sz]) c2 (fun i hi => absurd hi (by simp)) (fun i hi => absurd hi (by simp)) p2 trivial ag2
  · refine md_pile (a := 0) (b := E.length) (l := 0) (st := []) p2 trivial (by simp) (fun h3 k1 k2 k3 => ?_)
    have ag3 : tv_ag (fun q i => md_rN m q i ∨ md_rP q i) h h3 := ag2.tr (k3.mo (fun q i z => by unfold md_rN md_rP; omega))
    refine H (sp_N f w E).length [] [(0, E.length, 0)] h3 (by simp) ?_ ?_ ?_ ?_ (fun i hi => absurd hi (by simp)) (fun i hi => absurd hi (by simp)) k1 k2 ag3
    · simp [sp_rest, sp_N]
    · intro x hx
      rw [List.mem_singleton] at hx
      subst hx
      exact ⟨z, Nat.le_refl _, Nat.zero_le 6, sp_agr_0⟩
    · simp only [sp_sz, List.map_cons, List.map_nil, List.sum_cons, List.sum_nil]
      omega
    · rw [k3.2 _ _ (by omega)]; exact c2
