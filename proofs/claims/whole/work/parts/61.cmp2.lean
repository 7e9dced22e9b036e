/-! THE COMPONENT: entries given, dropped, copied, united, selected, chosen, counted -/
theorem tv_cpE {h : tv_AH} {q0 q1 n i : Nat} (hi : i < n) : (tv_cp h q0 0 q1 0 n).1 q1 i = h.1 q0 i := by
  rw [tv_cp1, if_pos rfl]
  unfold va_cpy
  rw [if_pos (by omega), Nat.zero_add, Nat.sub_zero]
theorem tv_cpc {h : tv_AH} {q0 sp q1 dp n a : Nat} (ha : a ≠ q1) : (tv_cp h q0 sp q1 dp n).1 a = h.1 a := by
  rw [tv_cp1, if_neg ha]
theorem tv_ag.cp {P : Nat → Nat → Prop} {h h' : tv_AH} {q0 sp q1 dp n : Nat} (a : tv_ag P h h') (p : ∀ i, P q1 i) : tv_ag P h (tv_cp h' q0 sp q1 dp n) := ⟨a.1, fun q i ni => by
  have : q ≠ q1 := fun z => ni (by rw [z]; exact p i)
  rw [tv_cpc this]
  exact a.2 q i ni⟩
section CTB
variable {ad : Nat → Nat} {d f w : Nat} {h : tv_AH} {j : Fin 22} {E : List (Nat × Nat)} {k v : Nat}
theorem ct_give {r : Nat} (e : ct_E f w j E h) (hb : sp_eb E) (hk : k < 4096) (hr : r = sp_rkk f w k) (hl : sp_fi E k = none → E.length < 24) {K : tv_AH → Prop} (hK : ∀ h', ct_E f w j (sp_give (sp_ord f w) E k v) h' → tv_ag (ct_rE j) h h' → K h') : tv_CV ad (d + 3) yX1_give [.ref (ad (tv_tp j)), .int (nI k), .int (nI v), .int (nI r)] h K := by
  have h24 := hb.1
  refine nX1_give _ _ _ _ h (ct_indexOfKey (d := d + 1) e hb hk (ct_ixlt h24 (fun hf => ?_) (fun i hf => ?_)))
  · rw [e.1]
    have := hl hf
    refine pk_le 24 E.length (fun z => absurd z (by omega)) (fun _ => ?_)
    refine ct_insert e hb hk hr this (fun h' e' a' => hK h' ?_ a')
    unfold sp_give
    rw [hf]
    exact e'
  · obtain ⟨i1, i2, -⟩ := sp_fi_some hf
    rw [sp_ix_some hf, tv_nc i]
    refine ⟨pk_in i 24 (by omega), fun h3 w3 => ?_⟩
    subst w3
    refine hK _ ?_ (tv_ag.rf.wI (Or.inr (Or.inr (Or.inl rfl))))
    unfold sp_give
    rw [hf]
    refine ⟨by simp only [List.length_set]; rw [tv_wIc (by omega)]; exact e.1, fun t ht => ?_⟩
    simp only [List.length_set] at ht
    simp only
    rw [sp_set_k i1, sp_set_v i1, tv_wIc (by omega), tv_wIc (a := tv_tp j + 3) (by omega)]
    have et := e.2 t ht
    by_cases z : t = i
    · subst z
      rw [if_pos (Eq.refl t), if_pos (Eq.refl t), tv_wIe]
      rw [i2] at et
      exact ⟨et.1, Eq.refl _, et.2.2⟩
    · rw [if_neg z, if_neg z, tv_wIc (by omega)]
      exact et
theorem ct_drop (e : ct_E f w j E h) (hb : sp_eb E) (hk : k < 4096) {K : tv_AH → Prop} (hK : ∀ h', ct_E f w j (sp_del E k) h' → tv_ag (ct_rE j) h h' → K h') : tv_CV ad (d + 2) yX1_drop [.ref (ad (tv_tp j)), .int (nI k)] h K := by
  have h24 := hb.1
  refine nX1_drop _ _ h (ct_indexOfKey (d := d) e hb hk (ct_ixge h24 (fun hf => ?_) (fun i hf => ?_)))
  · unfold sp_del at hK
    rw [hf] at hK
    exact hK h e tv_ag.rf
  · obtain ⟨i1, i2, -⟩ := sp_fi_some hf
    rw [sp_ix_some hf, nI_1]
    have hd : sp_del E k = E.eraseIdx i := by unfold sp_del; rw [hf]
    rw [hd] at hK
    have hln : (E.eraseIdx i).length = E.length - 1 := by rw [List.length_eraseIdx, if_pos i1]
    have H : ∀ t c (h2 : tv_AH), c + 1 + t = E.length → i ≤ c → tv_ag (ct_rE j) h h2 → h2.1 (tv_tp j) 0 = nI E.length → (∀ s, s < c → h2.1 (tv_tp j + 1) s = nI (sp_k (E.eraseIdx i) s) ∧ h2.1 (tv_tp j + 2) s = nI (sp_v (E.eraseIdx i) s) ∧ h2.1 (tv_tp j + 3) s = nI (sp_rkk f w (sp_k (E.eraseIdx i) s))) → (∀ s, c < s → s < E.length → h2.1 (tv_tp j + 1) s = nI (sp_k E s) ∧ h2.1 (tv_tp j + 2) s = nI (sp_v E s) ∧ h2.1 (tv_tp j + 3) s = nI (sp_rkk f w (sp_k E s))) → tv_Wp ad RX1 cX1_drop 4 none (d + 1) (tv_pV K) 15 [(0, .ref (ad (tv_tp j))), (3, .int (nI (c + 1)))] [] h2 := by
      intro t
      induction t with
      | zero =>
        intro c h2 hc hi a hs ha hb2
        refine bX1_drop_15 _ _ h2 ?_
        rw [hs]
        refine pk_le E.length (c + 1) (fun _ h3 w3 => ?_) (fun z => absurd z (by omega))
        rw [show (1 : Int32) = nI 1 from rfl, pk_sub (by omega)] at w3
        subst w3
        refine hK _ ⟨by rw [tv_wIe, hln], fun s hs2 => ?_⟩ (a.wI (Or.inl ⟨rfl, rfl⟩))
        rw [hln] at hs2
        simp (disch := omega) only [tv_wIc]
        exact ha s (by omega)
      | succ t ih =>
        intro c h2 hc hi a hs ha hb2
        refine bX1_drop_15 _ _ h2 ?_
        rw [hs]
        refine pk_le E.length (c + 1) (fun z => absurd z (by omega)) (fun _ => ?_)
        rw [show nI (c + 1) - 1 = nI c from nI_pred c, tv_nc c, tv_nc (c + 1), nI_1]
        have hin1 := pk_in c 24 (by omega)
        have hin2 := pk_in (c + 1) 24 (by omega)
        obtain ⟨r1, r2, r3⟩ := hb2 (c + 1) (by omega) (by omega)
        refine ⟨hin2, hin1, fun h3 w3 => ⟨hin2, hin1, fun h4 w4 => ⟨hin2, hin1, fun h5 w5 => ?_⟩⟩⟩
        have x3 : h3.1 (tv_tp j + 2) (c + 1) = nI (sp_v E (c + 1)) := by rw [w3, tv_wIc (by omega)]; exact r2
        have x4 : h4.1 (tv_tp j + 3) (c + 1) = nI (sp_rkk f w (sp_k E (c + 1))) := by rw [w4, tv_wIc (by omega), w3, tv_wIc (by omega)]; exact r3
        rw [r1] at w3
        rw [x3] at w4
        rw [x4] at w5
        subst w3 w4 w5
        refine ih (c + 1) _ (by omega) (by omega) (((a.wI (Or.inr (Or.inl rfl))).wI (Or.inr (Or.inr (Or.inl rfl)))).wI (Or.inr (Or.inr (Or.inr rfl)))) ?_ ?_ ?_
        · simp (disch := omega) only [tv_wIc]
          exact hs
        · intro s hs2
          by_cases z : s = c
          · subst z
            rw [sp_era_k, sp_era_v, if_neg (by omega), if_neg (by omega)]
            simp (disch := omega) only [tv_wIc, tv_wIe]
            exact ⟨trivial, trivial, trivial⟩
          · simp (disch := omega) only [tv_wIc]
            exact ha s (by omega)
        · intro s h1 h2
          simp (disch := omega) only [tv_wIc]
          exact hb2 s (by omega) h2
    refine H (E.length - (i + 1)) i h (by omega) (Nat.le_refl _) tv_ag.rf e.1 (fun s hs => ?_) (fun s _ hs => e.2 s hs)
    rw [sp_era_k, sp_era_v, if_pos hs, if_pos hs]
    exact e.2 s (by omega)
theorem ct_hasRoomFor (e : ct_E f w j E h) (hb : sp_eb E) (hk : k < 4096) {K : Int32 → tv_AH → Prop} (h1 : (sp_fi E k = none → E.length < 24) → K 1 h) (h0 : E.length = 24 → sp_fi E k = none → K 0 h) : tv_CI ad (d + 2) yX1_hasRoomFor [.ref (ad (tv_tp j)), .int (nI k)] h K := by
  have h24 := hb.1
  refine nX1_hasRoomFor _ _ h ?_
  rw [e.1]
  refine pk_lt E.length 24 (fun z => h1 (fun _ => z)) (fun z => ct_indexOfKey (d := d) e hb hk (ct_ixlt h24 (fun hf => h0 (by omega) hf) (fun i hf => h1 (fun y => ?_))))
  rw [hf] at y
  exact absurd y (by simp)
theorem ct_append {i : Fin 22} {A : List (Nat × Nat)} {t : Nat} (n : i ≠ j) (e : ct_E f w j A h) (g : ct_E f w i E h) (hl : E.length ≤ 24) (hA : A.length < 24) (ht : t < E.length) {K : tv_AH → Prop} (hK : ∀ h', ct_E f w j (A ++ [(sp_k E t, sp_v E t)]) h' → tv_ag (ct_rE j) h h' → K h') : tv_CV ad (d + 1) yX1_append [.ref (ad (tv_tp j)), .ref (ad (tv_tp i)), .int (nI t)] h K := by
  have n1 := ct_tp i
  have n2 := ct_tp j
  have n3 := ct_ne n
  refine nX1_append _ _ _ h ?_
  rw [e.1, tv_nc A.length, tv_nc t]
  have hin1 := pk_in t 24 (by omega)
  have hin2 := pk_in A.length 24 hA
  obtain ⟨g1, g2, g3⟩ := g.2 t ht
  refine pk_le 24 A.length (fun z => absurd z (by omega)) (fun _ => ⟨hin1, hin2, fun h1 w1 => ?_⟩)
  have y1 : h1.1 (tv_tp j) 0 = nI A.length := by rw [w1, tv_wIc (by omega)]; exact e.1
  rw [y1, tv_nc A.length]
  refine ⟨hin1, hin2, fun h2 w2 => ?_⟩
  have y2 : h2.1 (tv_tp j) 0 = nI A.length := by rw [w2, tv_wIc (by omega)]; exact y1
  rw [y2, tv_nc A.length]
  refine ⟨hin1, hin2, fun h3 w3 h4 w4 => ?_⟩
  have y3 : h3.1 (tv_tp j) 0 = nI A.length := by rw [w3, tv_wIc (by omega)]; exact y2
  have x1 : h1.1 (tv_tp i + 2) t = nI (sp_v E t) := by rw [w1, tv_wIc (by omega)]; exact g2
  have x2 : h2.1 (tv_tp i + 3) t = nI (sp_rkk f w (sp_k E t)) := by rw [w2, tv_wIc (by omega), w1, tv_wIc (by omega)]; exact g3
  rw [g1] at w1
  rw [x1] at w2
  rw [x2] at w3
  rw [y3, nI_1] at w4
  subst w1 w2 w3 w4
  have hg : ∀ s, (A ++ [(sp_k E t, sp_v E t)]).getD s (0, 0) = if s < A.length then A.getD s (0, 0) else if s = A.length then (sp_k E t, sp_v E t) else (0, 0) := by
    intro s
    simp only [List.getD_eq_getElem?_getD, List.getElem?_append]
    by_cases z : s < A.length
    · rw [if_pos z, if_pos z]
    · rw [if_neg z, if_neg z]
      by_cases y : s = A.length
      · rw [if_pos y, y, Nat.sub_self]; rfl
      · rw [if_neg y, List.getElem?_eq_none (by simp only [List.length_singleton]; omega)]; rfl
  refine hK _ ⟨by rw [tv_wIe, List.length_append, List.length_singleton], fun s hs => ?_⟩ ((((tv_ag.rf.wI (Or.inr (Or.inl rfl))).wI (Or.inr (Or.inr (Or.inl rfl)))).wI (Or.inr (Or.inr (Or.inr rfl)))).wI (Or.inl ⟨rfl, rfl⟩))
  rw [List.length_append, List.length_singleton] at hs
  have e1 : sp_k (A ++ [(sp_k E t, sp_v E t)]) s = if s < A.length then sp_k A s else sp_k E t := by
    show ((A ++ [(sp_k E t, sp_v E t)]).getD s (0, 0)).1 = _
    rw [hg]
    by_cases z : s < A.length
    · rw [if_pos z, if_pos z]; rfl
    · rw [if_neg z, if_neg z, if_pos (by omega)]
  have e2 : sp_v (A ++ [(sp_k E t, sp_v E t)]) s = if s < A.length then sp_v A s else sp_v E t := by
    show ((A ++ [(sp_k E t, sp_v E t)]).getD s (0, 0)).2 = _
    rw [hg]
    by_cases z : s < A.length
    · rw [if_pos z, if_pos z]; rfl
    · rw [if_neg z, if_neg z, if_pos (by omega)]
  rw [e1, e2]
  by_cases z : s < A.length
  · rw [if_pos z, if_pos z]
    simp (disch := omega) only [tv_wIc]
    exact e.2 s z
  · have : s = A.length := by omega
    subst this
    rw [if_neg z, if_neg z]
    simp (disch := omega) only [tv_wIc, tv_wIe]
    exact ⟨trivial, trivial, trivial⟩
theorem ct_copyEntries {i : Fin 22} (n : i ≠ j) (g : ct_E f w i E h) (hl : E.length ≤ 24) {K : tv_AH → Prop} (hK : ∀ h', ct_E f w j E h' → tv_ag (ct_rE j) h h' → K h') : tv_CV ad (d + 1) yX1_copyEntries [.ref (ad (tv_tp j)), .ref (ad (tv_tp i))] h K := by
  have n1 := ct_tp i
  have n2 := ct_tp j
  have n3 := ct_ne n
  refine nX1_copyEntries _ _ h (fun h1 w1 h2 w2 h3 w3 h4 w4 => ?_)
  have y3 : h3.1 (tv_tp i) 0 = nI E.length := by
    rw [w3, tv_cpc (by omega), w2, tv_cpc (by omega), w1, tv_cpc (by omega)]
    exact g.1
  rw [y3] at w4
  subst w1 w2 w3 w4
  refine hK _ ⟨tv_wIe, fun s hs => ?_⟩ ((((tv_ag.rf.cp (fun _ => Or.inr (Or.inl rfl))).cp (fun _ => Or.inr (Or.inr (Or.inl rfl)))).cp (fun _ => Or.inr (Or.inr (Or.inr rfl)))).wI (Or.inl ⟨rfl, rfl⟩))
  obtain ⟨g1, g2, g3⟩ := g.2 s hs
  have hs24 : s < 24 := by omega
  rw [tv_wIc (by omega), tv_wIc (by omega), tv_wIc (by omega)]
  refine ⟨?_, ?_, ?_⟩
  · rw [tv_cpc (by omega), tv_cpc (by omega), tv_cpE hs24]; exact g1
  · rw [tv_cpc (by omega), tv_cpE hs24, tv_cpc (by omega)]; exact g2
  · rw [tv_cpE hs24, tv_cpc (by omega), tv_cpc (by omega)]; exact g3
theorem ct_choose {i : Fin 22} {b u : Nat} (n : i ≠ j) (g : ct_E f w i E h) (hb : sp_eb E) (hb0 : b ≠ 0) (hb1 : b < 1000) (hu : u < 1000) {K : tv_AH → Prop} (hK : ∀ h', ct_E f w j (E.filter (fun e => e.2 % b == u)) h' → tv_ag (ct_rE j) h h' → K h') : tv_CV ad (d + 2) yX1_choose [.ref (ad (tv_tp j)), .ref (ad (tv_tp i)), .int (nI b), .int (nI u)] h K := by
  have hl := hb.1
  refine nX1_choose _ _ _ _ h (fun h4 w4 => ?_)
  have H : ∀ t c (h5 : tv_AH), c + t = E.length → ct_E f w j ((E.take c).filter (fun e => e.2 % b == u)) h5 → tv_ag (ct_rE j) h h5 → tv_Wp ad RX1 cX1_choose 5 none (d + 1) (tv_pV K) 8 [(0, .ref (ad (tv_tp j))), (1, .ref (ad (tv_tp i))), (2, .int (nI b)), (3, .int (nI u)), (4, .int (nI c))] [] h5 := by
    intro t
    induction t with
    | zero =>
      intro c h5 hc e5 a5
      have g5 := g.ag a5 (fun q s z => ct_rE_ne n z)
      refine bX1_choose_8 _ _ _ _ _ h5 ?_
      rw [g5.1]
      refine pk_le E.length c (fun _ => ?_) (fun q => absurd q (by omega))
      rw [show c = E.length by omega, List.take_length] at e5
      exact hK h5 e5 a5
    | succ t ih =>
      intro c h5 hc e5 a5
      have g5 := g.ag a5 (fun q s z => ct_rE_ne n z)
      refine bX1_choose_8 _ _ _ _ _ h5 ?_
      rw [g5.1, tv_nc c]
      refine pk_le E.length c (fun q => absurd q (by omega)) (fun q => pk_le b 0 (fun z => absurd z (by omega)) (fun _ => ⟨pk_in c 24 (by omega), fun z => hb0 ((nI_eq (by omega) (by omega)).mp z), ?_⟩))
      have bv := hb.2 c q
      rw [(g5.2 c q).2.1, pk_rem (by omega) (by omega) (by omega), nI_1]
      have hml : sp_v E c % b < b := Nat.mod_lt _ (by omega)
      have hf := sp_take_f (p := fun e => e.2 % b == u) q
      refine tv_ne (sp_v E c % b) u (fun z => ?_) (fun z => ?_)
      · rw [if_neg (by simpa using z), List.append_nil] at hf
        exact ih (c + 1) h5 (by omega) (by rw [hf]; exact e5) a5
      · rw [if_pos (by simpa using z)] at hf
        have hlen : ((E.take c).filter (fun e => e.2 % b == u)).length ≤ c := sp_cnt_le
        refine ct_append n e5 g5 hl (by omega) q (fun h6 e6 a6 => ?_)
        exact ih (c + 1) h6 (by omega) (by rw [hf]; exact e6) (a5.tr a6)
  refine H E.length 0 h4 (by omega) ?_ (by rw [w4]; exact tv_ag.rf.wI (Or.inl ⟨rfl, rfl⟩))
  rw [w4]
  exact ⟨tv_wIe, fun i hi => absurd hi (by simp)⟩
end CTB
