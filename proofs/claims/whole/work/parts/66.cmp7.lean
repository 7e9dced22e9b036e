/-! THE COMPONENT: a tree with its nodes and their numbers -/
/-- tree j has the nodes of these entries -/
def ct_Nd (f w : Nat) (j : Fin 22) (E : List (Nat × Nat)) (h : tv_AH) : Prop := h.1 (tv_tp j) 5 = nI (sp_N f w E).length ∧ (∀ i, i < (sp_N f w E).length → ct_row f w j E h i (sp_n (sp_N f w E) i)) ∧ ∀ t, t < E.length → h.1 (tv_tp j + 4) t = sp_elv (sp_N f w E) t
/-- the nodes of tree j have these numbers -/
def ct_I (j : Fin 22) (ids : List Nat) (h : tv_AH) : Prop := ∀ i, i < ids.length → h.1 (tv_tp j + 6) i = nI (sp_id ids i)
def ct_V (f w : Nat) (j : Fin 22) (V : sp_V) (h : tv_AH) : Prop := ct_E f w j V.1 h ∧ ct_Nd f w j V.1 h ∧ ct_I j V.2 h
/-- a tree's cells -/
def ct_rT (j : Fin 22) (q i : Nat) : Prop := (q = tv_tp j ∧ (i = 0 ∨ i = 5)) ∨ (tv_tp j + 1 ≤ q ∧ q ≤ tv_tp j + 12)
def ct_rJ (j : Fin 22) (q _i : Nat) : Prop := q = tv_tp j + 13
/-- the cells of a tree's nodes, but their numbers -/
def ct_rN (j : Fin 22) (q i : Nat) : Prop := (q = tv_tp j ∧ i = 5) ∨ (tv_tp j + 7 ≤ q ∧ q ≤ tv_tp j + 12) ∨ q = tv_tp j + 4
section CTG
variable {ad : Nat → Nat} {d f w : Nat} {h h' : tv_AH} {j : Fin 22} {E : List (Nat × Nat)} {ids : List Nat} {V : sp_V}
theorem ct_Nd.cg (x : ct_Nd f w j E h) (c : ∀ q i, ct_rN j q i → h'.1 q i = h.1 q i) (c' : ∀ q i, ct_rJ j q i → h'.2.1 q i = h.2.1 q i) : ct_Nd f w j E h' := by
  refine ⟨by rw [c _ _ (Or.inl ⟨rfl, rfl⟩)]; exact x.1, fun i hi => (x.2.1 i hi).cg (fun q q1 q2 => c _ _ (Or.inr (Or.inl ⟨q1, q2⟩))) (c' _ _ rfl), fun t ht => ?_⟩
  rw [c _ _ (Or.inr (Or.inr rfl))]
  exact x.2.2 t ht
theorem ct_I.cg (x : ct_I j ids h) (c : ∀ i, h'.1 (tv_tp j + 6) i = h.1 (tv_tp j + 6) i) : ct_I j ids h' := fun i hi => by rw [c]; exact x i hi
theorem ct_V.cg (x : ct_V f w j V h) (c : ∀ q i, ct_rT j q i → h'.1 q i = h.1 q i) (c' : ∀ q i, ct_rJ j q i → h'.2.1 q i = h.2.1 q i) : ct_V f w j V h' := ⟨x.1.cg (fun q i r => c q i (by unfold ct_rE at r; unfold ct_rT; omega)), x.2.1.cg (fun q i r => c q i (by unfold ct_rN at r; unfold ct_rT; omega)) c', x.2.2.cg (fun i => c _ _ (by unfold ct_rT; omega))⟩
theorem ct_V.ag {P Q : Nat → Nat → Prop} (x : ct_V f w j V h) (a : tv_agJ P Q h h') (n : ∀ q i, ct_rT j q i → ¬ P q i) (n' : ∀ q i, ct_rJ j q i → ¬ Q q i) : ct_V f w j V h' := x.cg (fun q i r => a.2.1 q i (n q i r)) (fun q i r => a.2.2 q i (n' q i r))
theorem ct_layNodes (s : sp_sc f w) (e : ct_E f w j E h) (hb : sp_eb E) (hs : sp_srt f w E) {K : tv_AH → Prop} (hK : ∀ h', ct_E f w j E h' → ct_Nd f w j E h' → tv_agJ (ct_rN j) (ct_rJ j) h h' → K h') : tv_CV ad (d + 18) yX1_layNodes [.ref (ad (tv_tp j))] h K := by
  have h24 := hb.1
  have hN96 := sp_N_len (f := f) (w := w) h24
  refine nX1_layNodes _ h (fun h1 w1 => ?_)
  have e1 : ct_E f w j E h1 := e.cg (fun q i r => by rw [w1]; exact tv_wIc (by unfold ct_rE at r; omega))
  have a1 : tv_agJ (ct_rN j) (ct_rJ j) h h1 := by rw [w1]; exact tv_agJ.rf.wI (Or.inl ⟨rfl, rfl⟩)
  have c1 : h1.1 (tv_tp j) 5 = nI 0 := by rw [w1, tv_wIe]; rfl
  rw [e1.1]
  by_cases z : E.length = 0
  · have hN : sp_N f w E = [] := sp_lay_nil (by omega)
    refine nX1_layTree _ _ _ _ h1 (pk_le E.length 0 (fun _ => hK h1 e1 ⟨by rw [hN]; exact c1, fun i hi => by rw [hN] at hi; exact absurd hi (by simp), fun t ht => absurd ht (by omega)⟩ a1) (fun y => absurd y (by omega)))
  · refine ct_layTree (d := d) s hb hs 7 (by omega) (by omega) 0 E.length 0 h1 K e1 (by omega) (Nat.le_refl _) sp_agr_0 c1 (by rw [Nat.zero_add]; exact hN96) (fun h' lr => ?_)
    refine hK h' (lr.e e1) ?_ (a1.tr (lr.2.2.2.mo (fun q i y => by unfold ct_rL at y; unfold ct_rN; omega) (fun q i y => y.1)))
    refine ⟨by rw [lr.1, Nat.zero_add]; rfl, fun i hi => ?_, fun t ht => lr.2.2.1 t (Nat.zero_le _) ht⟩
    have := lr.2.1 i hi
    rw [Nat.zero_add] at this
    exact this
theorem ct_nodesOfKind {k : Nat} (x : ct_Nd f w j E h) (hb : sp_eb E) (hk : k < 3) {K : Int32 → tv_AH → Prop} (hK : K (nI (sp_kinds (sp_N f w E) k)) h) : tv_CI ad (d + 1) yX1_nodesOfKind [.ref (ad (tv_tp j)), .int (nI k)] h K := by
  have hN96 := sp_N_len (f := f) (w := w) hb.1
  refine nX1_nodesOfKind _ _ h ?_
  have H : ∀ t i, i + t = (sp_N f w E).length → tv_Wp ad RX1 cX1_nodesOfKind 4 (some .int) d (tv_pI K) 4 [(0, .ref (ad (tv_tp j))), (1, .int (nI k)), (2, .int (nI (((sp_N f w E).take i).filter (fun x => x.1 == k)).length)), (3, .int (nI i))] [] h := by
    intro t
    induction t with
    | zero =>
      intro i hi
      refine bX1_nodesOfKind_4 _ _ _ _ h ?_
      rw [x.1]
      refine pk_le (sp_N f w E).length i (fun _ => ?_) (fun q => absurd q (by omega))
      rw [show i = (sp_N f w E).length by omega, List.take_length]
      exact hK
    | succ t ih =>
      intro i hi
      refine bX1_nodesOfKind_4 _ _ _ _ h ?_
      rw [x.1]
      refine pk_le (sp_N f w E).length i (fun q => absurd q (by omega)) (fun q => ⟨pk_in i 96 (by omega), ?_⟩)
      have hc := sp_cnt (p := fun x : sp_nd => x.1 == k) q
      rw [← sp_n_get q] at hc
      have kx : (sp_n (sp_N f w E) i).1 < 3 := by rw [(sp_N_ok q).2.2.2.2.2]; exact sp_kd_lt
      rw [tv_nc i, (x.2.1 i q).1, nI_1, nI_1]
      refine tv_ne (sp_n (sp_N f w E) i).1 k (fun z => ?_) (fun z => ?_)
      · rw [if_neg (by simpa using z)] at hc
        have hc2 : (((sp_N f w E).take i).filter (fun x : sp_nd => x.1 == k)).length = (((sp_N f w E).take (i + 1)).filter (fun x : sp_nd => x.1 == k)).length := hc.symm
        rw [hc2]
        exact ih (i + 1) (by omega)
      · rw [if_pos (by simpa using z)] at hc
        rw [← hc]
        exact ih (i + 1) (by omega)
  exact H (sp_N f w E).length 0 (by omega)
theorem ct_greatestLevel (x : ct_Nd f w j E h) (hb : sp_eb E) {K : Int32 → tv_AH → Prop} (hK : K (sp_deep (sp_N f w E)) h) : tv_CI ad (d + 1) yX1_greatestLevel [.ref (ad (tv_tp j))] h K := by
  have hN96 := sp_N_len (f := f) (w := w) hb.1
  refine nX1_greatestLevel _ h ?_
  have H : ∀ t i, i + t = (sp_N f w E).length → tv_Wp ad RX1 cX1_greatestLevel 3 (some .int) d (tv_pI K) 4 [(0, .ref (ad (tv_tp j))), (1, .int (((sp_N f w E).take i).foldl (fun m x => if m < nI x.2.1 then nI x.2.1 else m) (-1))), (2, .int (nI i))] [] h := by
    intro t
    induction t with
    | zero =>
      intro i hi
      refine bX1_greatestLevel_4 _ _ _ h ?_
      rw [x.1]
      refine pk_le (sp_N f w E).length i (fun _ => ?_) (fun q => absurd q (by omega))
      rw [show i = (sp_N f w E).length by omega, List.take_length]
      exact hK
    | succ t ih =>
      intro i hi
      refine bX1_greatestLevel_4 _ _ _ h ?_
      rw [x.1]
      refine pk_le (sp_N f w E).length i (fun q => absurd q (by omega)) (fun q => ⟨pk_in i 96 (by omega), ?_⟩)
      have hc := sp_fold (fun (m : Int32) (x : sp_nd) => if m < nI x.2.1 then nI x.2.1 else m) (-1) q
      have hn := ih (i + 1) (by omega)
      rw [hc] at hn
      rw [tv_nc i, (x.2.1 i q).2.1, nI_1]
      exact hn
  exact H (sp_N f w E).length 0 (by omega)
theorem ct_nodesFrom {own : Nat} (x : ct_V f w j V h) (hb : sp_eb V.1) (hl : V.2.length = (sp_N f w V.1).length) (ho : own < 2 ^ 31) (hi31 : ∀ i, i < V.2.length → sp_id V.2 i < 2 ^ 31) {K : Int32 → tv_AH → Prop} (hK : K (nI (sp_owns V.2 own)) h) : tv_CI ad (d + 1) yX1_nodesFrom [.ref (ad (tv_tp j)), .int (nI own)] h K := by
  have hN96 := sp_N_len (f := f) (w := w) hb.1
  have x1 := x.2.1.1
  rw [← hl] at x1 hN96
  refine nX1_nodesFrom _ _ h ?_
  have H : ∀ t i, i + t = V.2.length → tv_Wp ad RX1 cX1_nodesFrom 4 (some .int) d (tv_pI K) 4 [(0, .ref (ad (tv_tp j))), (1, .int (nI own)), (2, .int (nI ((V.2.take i).filter (fun i => own ≤ i)).length)), (3, .int (nI i))] [] h := by
    intro t
    induction t with
    | zero =>
      intro i hi
      refine bX1_nodesFrom_4 _ _ _ _ h ?_
      rw [x1]
      refine pk_le V.2.length i (fun _ => ?_) (fun q => absurd q (by omega))
      rw [show i = V.2.length by omega, List.take_length]
      exact hK
    | succ t ih =>
      intro i hi
      refine bX1_nodesFrom_4 _ _ _ _ h ?_
      rw [x1]
      refine pk_le V.2.length i (fun q => absurd q (by omega)) (fun q => ⟨pk_in i 96 (by omega), ?_⟩)
      have hc := sp_cnt (p := fun i : Nat => decide (own ≤ i)) q
      have hg : V.2[i] = sp_id V.2 i := by simp [sp_id, List.getD_eq_getElem?_getD, q]
      rw [hg] at hc
      have q1 := hi31 i q
      rw [tv_nc i, x.2.2 i q, nI_1, nI_1]
      refine pk_lt (sp_id V.2 i) own (fun z => ?_) (fun z => ?_)
      · rw [if_neg (by simp only [decide_eq_true_eq]; omega)] at hc
        have hc2 : ((V.2.take i).filter (fun i => decide (own ≤ i))).length = ((V.2.take (i + 1)).filter (fun i => decide (own ≤ i))).length := hc.symm
        rw [hc2]
        exact ih (i + 1) (by omega)
      · rw [if_pos (by simp only [decide_eq_true_eq]; omega)] at hc
        rw [← hc]
        exact ih (i + 1) (by omega)
  exact H V.2.length 0 (by omega)
theorem ct_copyAll {i : Fin 22} (n : i ≠ j) (s : sp_sc f w) (x : ct_V f w i V h) (hb : sp_eb V.1) (hs : sp_srt f w V.1) (hl : V.2.length = (sp_N f w V.1).length) {K : tv_AH → Prop} (hK : ∀ h', ct_V f w j V h' → tv_agJ (ct_rT j) (ct_rJ j) h h' → K h') : tv_CV ad (d + 19) yX1_copyAll [.ref (ad (tv_tp j)), .ref (ad (tv_tp i))] h K := by
  have n1 := ct_tp i
  have n2 := ct_tp j
  have n3 := ct_ne n
  have hN96 := sp_N_len (f := f) (w := w) hb.1
  refine nX1_copyAll _ _ h (ct_copyEntries (d := d + 17) n x.1 hb.1 (fun h1 e1 a1 => ct_layNodes (d := d) s e1 hb hs (fun h2 e2 d2 a2 h3 w3 => ?_)))
  have ag : tv_agJ (ct_rT j) (ct_rJ j) h h2 := (a1.J.mo (fun q i r => by unfold ct_rE at r; unfold ct_rT; omega) (fun q i z => z)).tr (a2.mo (fun q i r => by unfold ct_rN at r; unfold ct_rT; omega) (fun q i z => z))
  have i2 : ct_I i V.2 h2 := x.2.2.cg (fun t => ag.2.1 _ _ (by unfold ct_rT; omega))
  subst w3
  refine hK _ ⟨e2.cg (fun q t r => by rw [tv_cpc (by unfold ct_rE at r; omega)]), d2.cg (fun q t r => by rw [tv_cpc (by unfold ct_rN at r; omega)]) (fun q t r => rfl), fun t ht => ?_⟩ ⟨ag.1, fun q t r => ?_, ag.2.2⟩
  · rw [tv_cpE (by omega)]
    exact i2 t ht
  · rw [tv_cpc (fun z => r (by unfold ct_rT; omega))]
    exact ag.2.1 q t r
end CTG
