/-! THE COMPONENT: equal nodes, nodes of another tree -/
/-- equal nodes: one place, the same entries -/
def sp_eqn (f w : Nat) (E' : List (Nat × Nat)) (x' : sp_nd) (E : List (Nat × Nat)) (x : sp_nd) : Prop := sp_pl f w E' x' = sp_pl f w E x ∧ x'.2.2.2 = x.2.2.2 ∧ ∀ t, t < x'.2.2.2 → sp_k E' (x'.2.2.1 + t) = sp_k E (x.2.2.1 + t) ∧ sp_v E' (x'.2.2.1 + t) = sp_v E (x.2.2.1 + t)
section CTI
variable {ad : Nat → Nat} {d f w : Nat} {h : tv_AH} {j j' : Fin 22} {E E' : List (Nat × Nat)}
theorem ct_isEqualNode {i l : Nat} (s : sp_sc f w) (e' : ct_E f w j E' h) (x' : ct_Nd f w j E' h) (e : ct_E f w j' E h) (x : ct_Nd f w j' E h) (hb' : sp_eb E') (hs' : sp_srt f w E') (hb : sp_eb E) (hs : sp_srt f w E) (hi : i < (sp_N f w E').length) (hl : l < (sp_N f w E).length) {K : Int32 → tv_AH → Prop} (h1 : sp_eqn f w E' (sp_n (sp_N f w E') i) E (sp_n (sp_N f w E) l) → K 1 h) (h0 : ¬ sp_eqn f w E' (sp_n (sp_N f w E') i) E (sp_n (sp_N f w E) l) → K 0 h) : tv_CI ad (d + 1) yX1_isEqualNode [.ref (ad (tv_tp j)), .int (nI i), .ref (ad (tv_tp j')), .int (nI l)] h K := by
  have n1 := sp_N_len (f := f) (w := w) hb'.1
  have n2 := sp_N_len (f := f) (w := w) hb.1
  have b1 := hb'.1
  have b2 := hb.1
  have in1 : vp_in (nI i) 96 := pk_in i 96 (by omega)
  have in2 : vp_in (nI l) 96 := pk_in l 96 (by omega)
  have p1 := sp_pl_lt s hb' hs' hi
  have p2 := sp_pl_lt s hb hs hl
  have o1 := sp_N_ok hi
  have o2 := sp_N_ok hl
  have r1 := x'.2.1 i hi
  have r2 := x.2.1 l hl
  generalize sp_n (sp_N f w E') i = X' at *
  generalize sp_n (sp_N f w E) l = X at *
  obtain ⟨-, -, o13, -, -, -⟩ := o1
  obtain ⟨-, -, o23, -, -, -⟩ := o2
  obtain ⟨-, -, r13, r14, -, -, r17⟩ := r1
  obtain ⟨-, -, r23, r24, -, -, r27⟩ := r2
  refine nX1_isEqualNode _ _ _ _ h ?_
  rw [tv_nc i, tv_nc l, r17, r27, r14, r24, lg_cmp_eq, pk_lEQ (Nat.lt_trans p1 (by omega)) (Nat.lt_trans p2 (by omega))]
  refine ⟨in1, in2, fun z => h0 (fun y => z y.1), fun z => ⟨in1, in2, pk_eq X'.2.2.2 X.2.2.2 (fun y => ?_) (fun y => h0 (fun u => y u.2.1))⟩⟩
  have H : ∀ n t, t + n = X'.2.2.2 → (∀ u, u < t → sp_k E' (X'.2.2.1 + u) = sp_k E (X.2.2.1 + u) ∧ sp_v E' (X'.2.2.1 + u) = sp_v E (X.2.2.1 + u)) → tv_Wp ad RX1 cX1_isEqualNode 7 (some .boolean) d (tv_pI K) 36 [(0, .ref (ad (tv_tp j))), (1, .int (nI i)), (2, .ref (ad (tv_tp j'))), (3, .int (nI l)), (4, .int (nI t))] [] h := by
    intro n
    induction n with
    | zero =>
      intro t ht hq
      refine bX1_isEqualNode_36 _ _ _ _ _ h ?_
      rw [tv_nc i, r14]
      have hfin := h1 ⟨z, y, fun u hu => hq u (by omega)⟩
      have := pk_le X'.2.2.2 t (x := nI X'.2.2.2) (y := nI t) (A := K 1 h) (fun _ => hfin) (fun c => absurd c (by omega)) (B := False)
      refine ⟨in1, ?_⟩
      exact pk_le X'.2.2.2 t (fun _ => by simpa using hfin) (fun c => absurd c (by omega))
    | succ n ih =>
      intro t ht hq
      refine bX1_isEqualNode_36 _ _ _ _ _ h ?_
      rw [tv_nc i, tv_nc l, r14, r13, r23, nI_add, nI_add, tv_nc (X'.2.2.1 + t), tv_nc (X.2.2.1 + t)]
      have e1 := e'.2 (X'.2.2.1 + t) (by omega)
      have e2 := e.2 (X.2.2.1 + t) (by omega)
      have q1 := hb'.2 (X'.2.2.1 + t) (by omega)
      have q2 := hb.2 (X.2.2.1 + t) (by omega)
      rw [e1.1, e1.2.1, e2.1, e2.2.1, nI_1]
      have in3 : vp_in (nI (X'.2.2.1 + t)) 24 := pk_in (X'.2.2.1 + t) 24 (by omega)
      have in4 : vp_in (nI (X.2.2.1 + t)) 24 := pk_in (X.2.2.1 + t) 24 (by omega)
      refine ⟨in1, pk_le X'.2.2.2 t (fun c => absurd c (by omega)) (fun c => ⟨in1, in2, in3, in4, tv_ne (sp_k E' (X'.2.2.1 + t)) (sp_k E (X.2.2.1 + t)) (fun u => ?_) (fun u => ⟨in3, in4, pk_eq (sp_v E' (X'.2.2.1 + t)) (sp_v E (X.2.2.1 + t)) (fun v => ?_) (fun v => ?_)⟩)⟩)⟩
      · have := h0 (fun g => u (g.2.2 t (by omega)).1)
        simpa using this
      · refine ih (t + 1) (by omega) (fun g hg => ?_)
        by_cases c2 : g = t
        · rw [c2]; exact ⟨u, v⟩
        · exact hq g (by omega)
      · have := h0 (fun g => v (g.2.2 t (by omega)).2)
        simpa using this
  exact H X'.2.2.2 0 (by omega) (fun u hu => absurd hu (by omega))
/-- does tree j have node l of tree j' -/
theorem ct_hasNodeOf {l : Nat} {V V' : sp_V} (s : sp_sc f w) (x : ct_V f w j V h) (x' : ct_V f w j' V' h) (hb : sp_eb V.1) (hs : sp_srt f w V.1) (hb' : sp_eb V'.1) (hs' : sp_srt f w V'.1) (hn : V.2.length = (sp_N f w V.1).length) (hn' : V'.2.length = (sp_N f w V'.1).length) (hi31 : ∀ i, i < V.2.length → sp_id V.2 i < 2 ^ 31) (hi31' : ∀ i, i < V'.2.length → sp_id V'.2 i < 2 ^ 31) (hl : l < V'.2.length) (P : Nat → Nat) (hP : sp_plc f w P V) (hP' : sp_plc f w P V') {K : Int32 → tv_AH → Prop} (hK : K (if V.2.contains (sp_id V'.2 l) then 1 else 0) h) : tv_CI ad (d + 2) yX1_hasNodeOf [.ref (ad (tv_tp j)), .ref (ad (tv_tp j')), .int (nI l)] h K := by
  have n1 := sp_N_len (f := f) (w := w) hb.1
  have n2 := sp_N_len (f := f) (w := w) hb'.1
  have in2 : vp_in (nI l) 96 := pk_in l 96 (by omega)
  have p2 := sp_pl_lt s hb' hs' (show l < (sp_N f w V'.1).length by omega)
  have hg : ∀ i (hi : i < V.2.length), V.2[i] = sp_id V.2 i := fun i hi => by simp [sp_id, List.getD_eq_getElem?_getD, hi]
  refine nX1_hasNodeOf _ _ _ h ?_
  rw [tv_nc l, (x'.2.1.2.1 l (by omega)).2.2.2.2.2.2]
  refine ⟨in2, ct_indexOfPlace (d := d) s x.2.1 hb hs (Nat.lt_trans p2 (by omega)) (fun i hi hpi => ?_) (fun hno => ?_)⟩
  · refine ⟨fun z => absurd z (nI_pos (by omega)), fun _ => ⟨pk_in i 96 (by omega), in2, ?_⟩⟩
    rw [tv_nc i, x.2.2 i (by omega), x'.2.2 l hl]
    have q1 := hi31 i (by omega)
    have q2 := hi31' l hl
    refine tv_ne (sp_id V.2 i) (sp_id V'.2 l) (fun z => ?_) (fun z => ?_)
    · rw [if_neg] at hK
      · simpa using hK
      · intro c
        rw [List.contains_iff_mem] at c
        obtain ⟨t, ht, et⟩ := List.mem_iff_getElem.mp c
        rw [hg t ht] at et
        -- the node of that number stands in the same place
        have c1 := hP t ht
        rw [et, ← hP' l hl, ← hpi] at c1
        rcases Nat.lt_trichotomy t i with u | u | u
        · have := sp_pl_inc s hb hs u hi; omega
        · rw [u] at et; exact z et
        · have := sp_pl_inc s hb hs u (by omega : t < (sp_N f w V.1).length); omega
    · rw [if_pos] at hK
      · simpa using hK
      · rw [List.contains_iff_mem, ← z, ← hg i (by omega)]
        exact List.getElem_mem _
  · refine ⟨fun _ => ?_, fun z => absurd (by decide) z⟩
    rw [if_neg] at hK
    · simpa using hK
    · intro c
      rw [List.contains_iff_mem] at c
      obtain ⟨t, ht, et⟩ := List.mem_iff_getElem.mp c
      rw [hg t ht] at et
      have c1 := hP t ht
      rw [et, ← hP' l hl] at c1
      exact hno t (by omega) c1
end CTI
