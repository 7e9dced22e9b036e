/-! THE COMPONENT: a version more, nodes of versions -/
theorem sp_tkf {l : List Nat} {p : Nat → Bool} {i : Nat} (hi : i < l.length) : ((l.take (i + 1)).filter p).length = ((l.take i).filter p).length + (if p (sp_id l i) then 1 else 0) := by
  have e : l[i] = sp_id l i := by simp [sp_id, List.getD_eq_getElem?_getD, hi]
  rw [List.take_succ_eq_append_getElem hi, List.filter_append, List.length_append, e]
  congr 1
  by_cases c : p (sp_id l i) = true
  · simp [c]
  · simp [c]
def ct_vr (f w : Nat) (vs : List sp_V) (h : tv_AH) : Prop := ∀ v, v < vs.length → ct_V f w (h.2.2 1 v) (vs.getD v ([], [])) h
def sp_vsk (f w md : Nat) (P : Nat → Nat) (vs : List sp_V) : Prop := ∀ v, v < vs.length → sp_vok f w md (vs.getD v ([], [])) ∧ sp_plc f w P (vs.getD v ([], []))
/-- a number that none of these versions has -/
def sp_nov (vs : List sp_V) (i : Nat) : Bool := (List.range vs.length).all (fun e => !((vs.getD e ([], [])).2.contains i))
theorem sp_nw_app {vs : List sp_V} {V : sp_V} : sp_nw (vs ++ [V]) vs.length = (V.2.filter (sp_nov vs)).length := by
  unfold sp_nw
  rw [ss_v_add, if_neg (Nat.lt_irrefl _), if_pos rfl]
  congr 2
  funext i
  unfold sp_nov
  rw [Bool.eq_iff_iff, List.all_eq_true, List.all_eq_true]
  constructor
  · intro h e he
    have := h e he
    rw [ss_v_add, if_pos (List.mem_range.mp he)] at this
    exact this
  · intro h e he
    have := h e he
    rw [ss_v_add, if_pos (List.mem_range.mp he)]
    exact this
theorem sp_nw_cg {vs us : List sp_V} {v : Nat} (h : ∀ e, e ≤ v → us.getD e ([], []) = vs.getD e ([], [])) : sp_nw us v = sp_nw vs v := by
  unfold sp_nw
  rw [h v (Nat.le_refl _)]
  congr 2
  funext i
  rw [Bool.eq_iff_iff, List.all_eq_true, List.all_eq_true]
  constructor
  · intro k e he
    have := k e he
    rw [h e (Nat.le_of_lt (List.mem_range.mp he))] at this
    exact this
  · intro k e he
    have := k e he
    rw [h e (Nat.le_of_lt (List.mem_range.mp he))]
    exact this
theorem sp_nw_app' {vs : List sp_V} {V : sp_V} {v : Nat} (hv : v < vs.length) : sp_nw (vs ++ [V]) v = sp_nw vs v := sp_nw_cg (fun e he => by rw [ss_v_add, if_pos (by omega)])
theorem sp_nw_take {vs : List sp_V} {m v : Nat} (hv : v < m) : sp_nw (vs.take m) v = sp_nw vs v := sp_nw_cg (fun e he => by
  simp only [List.getD_eq_getElem?_getD, List.getElem?_take]
  rw [if_pos (by omega)])
section CTL
variable {ad : Nat → Nat} {d f w md : Nat} {h : tv_AH} {j : Fin 22} {V : sp_V} {vs : List sp_V} {P : Nat → Nat}
theorem ct_isNodeOfVersion {l : Nat} (s : sp_sc f w) (hn : h.1 0 1 = nI vs.length) (h20 : vs.length ≤ 20) (hv : ct_vr f w vs h) (ok : sp_vsk f w md P vs) (x : ct_V f w j V h) (ok' : sp_vok f w md V) (pl' : sp_plc f w P V) (hmd : md < 2 ^ 31) (hl : l < V.2.length) {K : Int32 → tv_AH → Prop} (hK : K (if sp_nov vs (sp_id V.2 l) then 0 else 1) h) : tv_CI ad (d + 3) yX2_isNodeOfVersion [.ref (ad 0), .ref (ad (tv_tp j)), .int (nI l)] h K := by
  refine nX2_isNodeOfVersion _ _ h ?_
  have H : ∀ n v, v + n = vs.length → (∀ e, e < v → (vs.getD e ([], [])).2.contains (sp_id V.2 l) = false) → tv_Wp ad RX2 cX2_isNodeOfVersion 4 (some .boolean) (d + 2) (tv_pI K) 2 [(0, .ref (ad 0)), (1, .ref (ad (tv_tp j))), (2, .int (nI l)), (3, .int (nI v))] [] h := by
    intro n
    induction n with
    | zero =>
      intro v hv2 hne
      refine bX2_isNodeOfVersion_2 _ _ _ h ?_
      rw [hn]
      refine pk_le vs.length v (fun _ => ?_) (fun c => absurd c (by omega))
      rw [if_pos] at hK
      · simpa using hK
      · unfold sp_nov
        rw [List.all_eq_true]
        intro e he
        rw [hne e (by have := List.mem_range.mp he; omega)]
        rfl
    | succ n ih =>
      intro v hv2 hne
      have hvl : v < vs.length := by omega
      refine bX2_isNodeOfVersion_2 _ _ _ h ?_
      rw [hn, tv_nc v]
      refine pk_le vs.length v (fun c => absurd c (by omega)) (fun _ => ⟨pk_in v 20 (by omega), ?_⟩)
      obtain ⟨o1, o2⟩ := ok v hvl
      refine ct_hasNodeOf (d := d) s (hv v hvl) x o1.1 o1.2.1 ok'.1 ok'.2.1 o1.2.2.1 ok'.2.2.1 (fun i hi => Nat.lt_trans (o1.2.2.2 i hi) hmd) (fun i hi => Nat.lt_trans (ok'.2.2.2 i hi) hmd) hl P o2 pl' ?_
      by_cases c : (vs.getD v ([], [])).2.contains (sp_id V.2 l) = true
      · rw [if_pos c]
        refine ⟨fun z => absurd z (by decide), fun _ => ?_⟩
        rw [if_neg] at hK
        · simpa using hK
        · unfold sp_nov
          rw [List.all_eq_true]
          intro z
          have := z v (List.mem_range.mpr hvl)
          rw [c] at this
          cases this
      · rw [if_neg c]
        refine ⟨fun _ => ?_, fun z => absurd rfl z⟩
        rw [nI_1]
        exact ih (v + 1) (by omega) (fun e he => by
          by_cases z : e = v
          · subst z; simpa using c
          · exact hne e (by omega))
  exact H vs.length 0 (by omega) (fun e he => absurd he (by omega))
theorem ct_addVersion (s : sp_sc f w) (hn : h.1 0 1 = nI vs.length) (h20 : vs.length < 20) (hv : ct_vr f w vs h) (ok : sp_vsk f w md P vs) (x : ct_V f w (h.2.2 1 vs.length) V h) (ok' : sp_vok f w md V) (pl' : sp_plc f w P V) (hmd : md < 2 ^ 31) {K : Int32 → tv_AH → Prop} (hK : ∀ h', h'.1 0 1 = nI (vs.length + 1) → h'.1 (tv_tp (h.2.2 1 vs.length)) 14 = nI (sp_nw (vs ++ [V]) vs.length) → tv_ag (fun q i => (q = tv_tp (h.2.2 1 vs.length) ∧ i = 14) ∨ (q = 0 ∧ i = 1)) h h' → K (nI vs.length) h') : tv_CI ad (d + 4) yX2_addVersion [.ref (ad 0)] h K := by
  have hN96 := sp_N_len (f := f) (w := w) ok'.1.1
  have hl := ok'.2.2.1
  refine nX2_addVersion h ?_
  rw [hn, tv_nc vs.length]
  refine ⟨pk_in vs.length 20 (by omega), ?_⟩
  generalize hj : h.2.2 1 vs.length = j at *
  have nj := ct_tp j
  intro h1 w1
  rw [sp_nw_app] at hK
  have H : ∀ n i (h2 : tv_AH), i + n = V.2.length → h2.1 (tv_tp j) 14 = nI ((V.2.take i).filter (sp_nov vs)).length → tv_ag (fun q i => q = tv_tp j ∧ i = 14) h h2 → tv_Wp ad RX2 cX2_addVersion 3 (some .int) (d + 3) (tv_pI K) 17 [(0, .ref (ad 0)), (1, .ref (ad (tv_tp j))), (2, .int (nI i))] [] h2 := by
    intro n
    induction n with
    | zero =>
      intro i h2 hi hc ag
      have e5 : h2.1 (tv_tp j) 5 = nI V.2.length := by rw [ag.2 _ _ (by omega), hl]; exact x.2.1.1
      have e1 : h2.1 0 1 = nI vs.length := by rw [ag.2 _ _ (by omega)]; exact hn
      refine bX2_addVersion_17 _ _ h2 ?_
      rw [e5]
      refine pk_le V.2.length i (fun _ => ?_) (fun c => absurd c (by omega))
      intro h3 w3
      rw [e1, nI_1] at w3
      have e3 : h3.1 0 1 = nI (vs.length + 1) := by rw [w3, tv_wIe]
      rw [e3, nI_pred]
      refine hK h3 e3 ?_ ?_
      · rw [w3, tv_wIc (by omega), hc, show i = V.2.length by omega, List.take_length]
      · rw [w3]
        exact (ag.mo (fun q i z => Or.inl z)).wI (Or.inr ⟨rfl, rfl⟩)
    | succ n ih =>
      intro i h2 hi hc ag
      have e5 : h2.1 (tv_tp j) 5 = nI V.2.length := by rw [ag.2 _ _ (by omega), hl]; exact x.2.1.1
      have e1 : h2.1 0 1 = nI vs.length := by rw [ag.2 _ _ (by omega)]; exact hn
      have hit : i < V.2.length := by omega
      have cc := sp_tkf (p := sp_nov vs) hit
      have hcl : ((V.2.take i).filter (sp_nov vs)).length ≤ i := Nat.le_trans (List.length_filter_le _ _) (by rw [List.length_take]; omega)
      have e2 : h2.2.2 = h.2.2 := by rw [ag.1]
      have kv : ∀ (j2 : Fin 22) (V2 : sp_V), ct_V f w j2 V2 h → ct_V f w j2 V2 h2 := fun j2 V2 y => by
        have n2 := ct_tp j2
        exact y.cg (fun q t r => ag.2 q t (fun z => by unfold ct_rT at r; omega)) (fun q t r => by rw [ag.1])
      refine bX2_addVersion_17 _ _ h2 ?_
      rw [e5]
      refine pk_le V.2.length i (fun c => absurd c (by omega)) (fun _ => ?_)
      refine ct_isNodeOfVersion (d := d) s e1 (by omega) (fun v hvl => by rw [e2]; exact kv _ _ (hv v hvl)) ok (kv _ _ x) ok' pl' hmd hit ?_
      rw [nI_1]
      by_cases c : sp_nov vs (sp_id V.2 i) = true
      · rw [if_pos c]
        refine ⟨fun z => absurd rfl z, fun _ h3 w3 => ?_⟩
        rw [hc, nI_1] at w3
        rw [if_pos c] at cc
        refine ih (i + 1) h3 (by omega) ?_ ?_
        · rw [w3, tv_wIe, cc]
        · rw [w3]
          exact ag.wI ⟨rfl, rfl⟩
      · rw [if_neg c]
        refine ⟨fun _ => ?_, fun z => absurd z (by decide)⟩
        rw [if_neg c, Nat.add_zero] at cc
        exact ih (i + 1) h2 (by omega) (by rw [cc]; exact hc) ag
  exact H V.2.length 0 h1 (by omega) (by rw [w1, tv_wIe]; rfl) (by rw [w1]; exact tv_ag.rf.wI ⟨rfl, rfl⟩)
theorem ct_differentNodes (hn : h.1 0 1 = nI vs.length) (h20 : vs.length ≤ 20) (hw : ∀ v, v < vs.length → h.1 (tv_tp (h.2.2 1 v)) 14 = nI (sp_nw vs v)) {K : Int32 → tv_AH → Prop} (hK : K (nI (sp_all vs)) h) : tv_CI ad (d + 1) yX2_differentNodes [.ref (ad 0)] h K := by
  refine nX2_differentNodes h ?_
  have H : ∀ n v, v + n = vs.length → tv_Wp ad RX2 cX2_differentNodes 3 (some .int) d (tv_pI K) 4 [(0, .ref (ad 0)), (1, .int (nI ((List.range v).map (sp_nw vs)).sum)), (2, .int (nI v))] [] h := by
    intro n
    induction n with
    | zero =>
      intro v hv
      refine bX2_differentNodes_4 _ _ h ?_
      rw [hn]
      refine pk_le vs.length v (fun _ => ?_) (fun c => absurd c (by omega))
      rw [show v = vs.length by omega]
      exact hK
    | succ n ih =>
      intro v hv
      refine bX2_differentNodes_4 _ _ h ?_
      rw [hn, tv_nc v]
      refine pk_le vs.length v (fun c => absurd c (by omega)) (fun _ => ⟨pk_in v 20 (by omega), ?_⟩)
      rw [hw v (by omega), nI_add, nI_1]
      have := ih (v + 1) (by omega)
      rw [List.range_succ, List.map_append, List.sum_append] at this
      simp only [List.map_cons, List.map_nil, List.sum_cons, List.sum_nil, Nat.add_zero] at this
      exact this
  exact H vs.length 0 (by omega)
end CTL
