/-! THE REFERENCE: the edit, the page's letters, the scheme -/
section MDW
variable {ad : Nat → Nat} {d c : Nat} {h : tv_AH} {S : sp_S}
/-- the representation, where all but some cells stand -/
theorem md_rep.mk' {S' : sp_S} {P : Nat → Nat → Prop} {h' : tv_AH} (r : md_rep S h) (a : tv_ag P h h') (ef : S'.1 = S.1) (hv : h'.1 400 4 = nI (ss_vs S').length) (hm : ∀ v, v < (ss_vs S').length → v < (ss_vs S).length ∧ ss_v S' v = ss_v S v) (np : ∀ v, v < 20 → ∀ q i, md_rM v q i → ¬ P q i) (hl : (ss_vs S).length ≤ 20) (n2 : ¬ P 400 2) (n3 : ¬ P 400 3) (hp : h'.1 400 0 = nI (ss_pg S').length ∧ ∀ i, i < (ss_pg S').length → h'.1 401 i = nI ((ss_pg S').getD i 0)) (hn : h'.1 400 7 = nI (ss_md S') ∧ h'.1 400 8 = nI (ss_rd S') ∧ h'.1 400 9 = nI (ss_sl S')) (he : md_ed S' h') : md_rep S' h' := by
  obtain ⟨r1, r2, r3, r4, r5, r6⟩ := r
  have e1 : ss_f S' = ss_f S := by show S'.1.1 = S.1.1; rw [ef]
  have e2 : ss_w S' = ss_w S := by show S'.1.2 = S.1.2; rw [ef]
  refine ⟨?_, hv, fun v hv2 => ?_, hp, hn, he⟩
  · rw [e1, e2]
    exact r1.ag a n2 n3
  · rw [e1, e2, (hm v hv2).2]
    exact (r3 v (hm v hv2).1).ag a (np v (by have := (hm v hv2).1; omega))
theorem md_hiw {q i : Nat} {x : Int32} (hq : 400 ≤ q) : tv_ag md_hi h (tv_wI h q i x) := tv_ag.rf.wI hq
theorem mt_forget (ok : ss_ok S c) (r : md_rep S h) {K : Int32 → tv_AH → Prop} (hK : ∀ h', md_rep (ss_forget S).2 h' → tv_ag md_hi h h' → K (ss_forget S).1 h') : tv_CI ad (d + 1) yX3_forget [.ref (ad 400)] h K := by
  obtain ⟨o1, o2, o3, o4, o5, o6⟩ := ok
  have r0 := r
  obtain ⟨r1, r2, r3, r4, r5, r6⟩ := r
  refine nX3_forget h ?_
  rw [r2]
  unfold ss_forget at hK
  refine tv_ne (ss_vs S).length 1 (fun z => fun h1 w1 => ?_) (fun z => ?_)
  · rw [if_neg z] at hK
    rw [show (1 : Int32) = nI 1 from rfl, pk_sub o2.1] at w1
    have e : h1.1 400 4 = nI ((ss_vs S).length - 1) := by rw [w1, tv_wIe]
    rw [e]
    have a1 : tv_ag (fun q i => q = 400 ∧ i = 4) h h1 := by rw [w1]; exact tv_ag.rf.wI ⟨rfl, rfl⟩
    have hlen : ((ss_vs S).take ((ss_vs S).length - 1)).length = (ss_vs S).length - 1 := by rw [List.length_take]; omega
    refine hK h1 (r0.mk' a1 rfl ?_ ?_ (fun v _ q i y => by unfold md_rM md_rE md_rN at y; omega) o2.2.1 (by omega) (by omega) ⟨?_, fun i hi => ?_⟩ ⟨?_, ?_, ?_⟩ ?_) (a1.mo (fun q i z => by unfold md_hi; omega))
    · show h1.1 400 4 = nI ((ss_vs S).take ((ss_vs S).length - 1)).length
      rw [hlen]; exact e
    · intro v hv
      change v < ((ss_vs S).take ((ss_vs S).length - 1)).length at hv
      rw [hlen] at hv
      refine ⟨by omega, ?_⟩
      show ((ss_vs S).take ((ss_vs S).length - 1)).getD v ([], []) = (ss_vs S).getD v ([], [])
      simp only [List.getD_eq_getElem?_getD, List.getElem?_take, hv, if_true]
    · rw [a1.2 _ _ (by omega)]; exact r4.1
    · rw [a1.2 _ _ (by omega)]; exact r4.2 i hi
    · rw [a1.2 _ _ (by omega)]; exact r5.1
    · rw [a1.2 _ _ (by omega)]; exact r5.2.1
    · rw [a1.2 _ _ (by omega)]; exact r5.2.2
    · exact r6.ag a1 (fun q i y => by unfold md_rM md_rE md_rN at y; omega) (by omega) (by omega)
  · rw [if_pos z] at hK
    exact hK h r0 tv_ag.rf
theorem mt_begin {v : Int32} (ok : ss_ok S c) (r : md_rep S h) {K : Int32 → tv_AH → Prop} (hK : ∀ h', md_rep (ss_begin S v).2 h' → tv_ag md_hi h h' → K (ss_begin S v).1 h') : tv_CI ad (d + 4) yX3_begin [.ref (ad 400), .int v] h K := by
  obtain ⟨o1, o2, o3, o4, o5, o6⟩ := ok
  have r0 := r
  obtain ⟨r1, r2, r3, r4, r5, r6⟩ := r
  refine nX3_begin _ h (md_isVersion (S := S) r2 ⟨o2.1, o2.2.1⟩ (fun n hn en ev => tv_b1 ?_) (fun ev => tv_b0 ?_))
  · unfold md_ed at r6
    cases hed : ss_ed S with
    | some t =>
      obtain ⟨V, own, mi⟩ := t
      rw [hed] at r6
      have e : ss_begin S v = (-103, S) := by unfold ss_begin; simp only [ev, hed]
      rw [e] at hK
      rw [r6.1]
      exact tv_c1 (hK h r0 tv_ag.rf)
    | none =>
      rw [hed] at r6
      have e : ss_begin S v = (nI (ss_v S n).1.length, (S.1, ss_vs S, ss_pg S, S.2.2.2.1, some (ss_v S n, ss_md S, 0))) := by unfold ss_begin; simp only [ev, hed]
      rw [e] at hK
      rw [r6.1]
      subst en
      have kn := r3 n hn
      have vo := o3 n hn
      refine tv_c0 (md_beginEdit (by omega) kn (own' := ss_md S) vo.2.2.2 (fun h2 m2 z2 a2 => ?_))
      intro h3 w3
      refine ⟨pk_in 20 22 (by omega), ?_⟩
      have a3 : tv_ag (fun q i => md_rM 20 q i ∨ (q = 400 ∧ (i = 6 ∨ i = 5))) h h3 := by
        rw [w3]
        exact (a2.mo (fun q i z => by rcases z with z | z; exact Or.inl z; exact Or.inr ⟨z.1, Or.inl z.2⟩)).wI (Or.inr ⟨rfl, Or.inr rfl⟩)
      have m3 : md_M 20 (ss_f S) (ss_w S) (ss_v S n).1 (ss_v S n).2 (ss_md S) h3 := by rw [w3]; exact m2.w4 (by omega)
      rw [m3.1.1]
      refine hK h3 (r0.mk' a3 rfl ?_ (fun v hv => ⟨hv, rfl⟩) (fun v hv q i y => by unfold md_rM md_rE md_rN at y; unfold md_rM md_rE md_rN; omega) o2.2.1 (by unfold md_rM md_rE md_rN; omega) (by unfold md_rM md_rE md_rN; omega) ⟨?_, fun i hi => ?_⟩ ⟨?_, ?_, ?_⟩ ?_) (a3.mo (fun q i z => by unfold md_rM md_rE md_rN at z; unfold md_hi; omega))
      · rw [a3.2 _ _ (by unfold md_rM md_rE md_rN; omega)]; exact r2
      · rw [a3.2 _ _ (by unfold md_rM md_rE md_rN; omega)]; exact r4.1
      · rw [a3.2 _ _ (by unfold md_rM md_rE md_rN; omega)]; exact r4.2 i hi
      · rw [a3.2 _ _ (by unfold md_rM md_rE md_rN; omega)]; exact r5.1
      · rw [a3.2 _ _ (by unfold md_rM md_rE md_rN; omega)]; exact r5.2.1
      · rw [a3.2 _ _ (by unfold md_rM md_rE md_rN; omega)]; exact r5.2.2
      · refine ⟨by rw [w3, tv_wIe], ?_, m3⟩
        rw [w3, tv_wIc (by omega)]; exact z2
  · have e : ss_begin S v = (-101, S) := by unfold ss_begin; simp only [ev]
    rw [e] at hK
    exact hK h r0 tv_ag.rf
/-- the edit gets other entries, which lie in the new map -/
theorem md_redo {V : sp_V} {own mi : Nat} {E' : List (Nat × Nat)} {h0 : tv_AH} (ok : ss_ok S c) (r : md_rep S h0) (hed : ss_ed S = some (V, own, mi)) (hb : sp_eb E') (e : md_E 21 E' h) (a0 : tv_ag (md_rE 21) h0 h) {K : tv_AH → Prop} (hK : ∀ h', md_rep (ss_redo S V own mi E').2 h' → h'.1 410 20 = (ss_redo S V own mi E').1 → tv_ag md_hi h0 h' → K h') : tv_CV ad (d + 5) yX3_tellEdit [.ref (ad 400)] h K := by
  obtain ⟨o1, o2, o3, o4, o5, P, o6, o7⟩ := ok
  have r0 := r
  obtain ⟨r1, r2, r3, r4, r5, r6⟩ := r
  unfold md_ed at r6
  unfold ss_eok at o7
  rw [hed] at r6 o7
  obtain ⟨r61, r62, r63⟩ := r6
  have s := r1.ag a0 md_rE_400 md_rE_400
  refine md_tellEdit s e hb (r63.ag a0 (fun q i z => by unfold md_rM md_rE md_rN at z; unfold md_rE; omega)) (by rw [a0.2 _ _ md_rE_400]; exact r5.1) (by rw [a0.2 _ _ md_rE_400]; exact r62) (by omega) o7.2.1 (fun h1 m1 d1 l1 i1 a1 => ?_)
  have a01 : tv_ag (fun q i => md_rM 20 q i ∨ md_rM 21 q i ∨ md_rP q i ∨ (q = 400 ∧ (i = 7 ∨ i = 6))) h0 h1 := (a0.mo (fun q i z => Or.inr (Or.inl (Or.inl z)))).tr (a1.mo (fun q i z => by
    rcases z with z | z | z | z
    · exact Or.inl z
    · exact Or.inr (Or.inl (Or.inr z))
    · exact Or.inr (Or.inr (Or.inl z))
    · exact Or.inr (Or.inr (Or.inr z))))
  refine hK h1 (r0.mk' a01 rfl ?_ (fun v hv => ⟨hv, rfl⟩) (fun v hv q i y => by unfold md_rM md_rE md_rN at y; unfold md_rM md_rE md_rN md_rP; omega) o2.2.1 (by unfold md_rM md_rE md_rN md_rP; omega) (by unfold md_rM md_rE md_rN md_rP; omega) ⟨?_, fun i hi => ?_⟩ ⟨d1, ?_, ?_⟩ ⟨?_, i1, m1⟩) m1.1.1 (a01.mo (fun q i z => by unfold md_rM md_rE md_rN md_rP at z; unfold md_hi; omega))
  · rw [a01.2 _ _ (by unfold md_rM md_rE md_rN md_rP; omega)]; exact r2
  · rw [a01.2 _ _ (by unfold md_rM md_rE md_rN md_rP; omega)]; exact r4.1
  · rw [a01.2 _ _ (by unfold md_rM md_rE md_rN md_rP; omega)]; exact r4.2 i hi
  · rw [a01.2 _ _ (by unfold md_rM md_rE md_rN md_rP; omega)]; exact r5.2.1
  · rw [a01.2 _ _ (by unfold md_rM md_rE md_rN md_rP; omega)]; exact r5.2.2
  · rw [a01.2 _ _ (by unfold md_rM md_rE md_rN md_rP; omega)]; exact r61
theorem mt_set {x y : Int32} (ok : ss_ok S c) (r : md_rep S h) {K : Int32 → tv_AH → Prop} (hK : ∀ h', md_rep (ss_set S x y).2 h' → tv_ag md_hi h h' → K (ss_set S x y).1 h') : tv_CI ad (d + 8) yX3_set [.ref (ad 400), .int x, .int y] h K := by
  have r0 := r
  obtain ⟨r1, r2, r3, r4, r5, r6⟩ := r
  unfold md_ed at r6
  refine nX3_set _ _ h ?_
  cases hed : ss_ed S with
  | none =>
    rw [hed] at r6
    have e : ss_set S x y = (-103, S) := by unfold ss_set; simp only [hed]
    rw [e] at hK
    rw [r6.1]
    exact tv_b0 (hK h r0 tv_ag.rf)
  | some t =>
    obtain ⟨V, own, mi⟩ := t
    rw [hed] at r6
    obtain ⟨r61, r62, r63⟩ := r6
    rw [r61]
    refine tv_b1 (md_rg (b := 4095) rfl (by omega) (fun k hk ek evk => tv_c1 ?_) (fun evk => tv_c0 ?_))
    · refine md_rg (b := 999) rfl (by omega) (fun u hu eu evu => tv_b1 ?_) (fun evu => tv_b0 ?_)
      · have e : ss_set S x y = if V.1.length = 24 ∧ sp_fi V.1 k = none then (-104, S) else ss_redo S V own mi (sp_give (ss_ord S) V.1 k u) := by unfold ss_set; simp only [hed, evk, evu]
        rw [e] at hK
        subst ek eu
        have hl := r63.2.1.1
        have go : ¬ (V.1.length = 24 ∧ sp_fi V.1 k = none) → tv_CV ad (d + 7) yX3_setNow [.ref (ad 400), .int (nI k), .int (nI u)] h (fun h3 => vp_in 20 22 ∧ K (h3.1 410 20) h3) := by
          intro hno
          rw [if_neg hno] at hK
          refine nX3_setNow _ _ h (md_copyTo (m := 21) (m' := 20) (by omega) (by omega) (by omega) r63.1 r63.2.1 (fun h4 e4 a4 => ?_))
          have hr : sp_fi V.1 k = none → V.1.length < 24 := fun z => by
            rcases Nat.lt_or_ge V.1.length 24 with q | q
            · exact q
            · exact absurd ⟨by omega, z⟩ hno
          refine md_give (m := 21) (by omega) (r1.ag a4 md_rE_400 md_rE_400) e4 r63.2.1 (by omega) (by omega) hr (fun h5 e5 a5 => ?_)
          refine md_redo ok r0 hed (sp_eb_give r63.2.1 (by omega) (by omega) hr) e5 (a4.tr a5) (fun h6 k6 z6 a6 => ?_)
          refine ⟨pk_in 20 22 (by omega), ?_⟩
          rw [z6]
          exact hK h6 k6 a6
        rw [r63.1.1]
        refine ⟨pk_in 20 22 (by omega), tv_ne V.1.length 24 (fun z => go (fun q => z q.1)) (fun z => ?_)⟩
        refine md_placeOf (m := 20) (by omega) r63.1 r63.2.1 (by omega) ?_
        unfold sp_ix
        cases hf : sp_fi V.1 k with
        | some i =>
          have := (sp_fi_some hf).1
          exact ⟨fun _ => go (fun q => by rw [hf] at q; cases q.2), fun q => absurd q (tv_m1 (by omega))⟩
        | none =>
          refine ⟨fun q => absurd rfl q, fun _ => ?_⟩
          rw [if_pos ⟨z, hf⟩] at hK
          exact hK h r0 tv_ag.rf
      · have e : ss_set S x y = (-102, S) := by unfold ss_set; simp only [hed, evk, evu]
        rw [e] at hK
        exact hK h r0 tv_ag.rf
    · have e : ss_set S x y = (-102, S) := by unfold ss_set; simp only [hed, evk]
      rw [e] at hK
      exact hK h r0 tv_ag.rf
theorem mt_unset {x : Int32} (ok : ss_ok S c) (r : md_rep S h) {K : Int32 → tv_AH → Prop} (hK : ∀ h', md_rep (ss_unset S x).2 h' → tv_ag md_hi h h' → K (ss_unset S x).1 h') : tv_CI ad (d + 8) yX3_unset [.ref (ad 400), .int x] h K := by
  have r0 := r
  obtain ⟨r1, r2, r3, r4, r5, r6⟩ := r
  unfold md_ed at r6
  refine nX3_unset _ h ?_
  cases hed : ss_ed S with
  | none =>
    rw [hed] at r6
    have e : ss_unset S x = (-103, S) := by unfold ss_unset; simp only [hed]
    rw [e] at hK
    rw [r6.1]
    exact tv_b0 (hK h r0 tv_ag.rf)
  | some t =>
    obtain ⟨V, own, mi⟩ := t
    rw [hed] at r6
    obtain ⟨r61, r62, r63⟩ := r6
    rw [r61]
    refine tv_b1 (md_rg (b := 4095) rfl (by omega) (fun k hk ek evk => tv_b1 ?_) (fun evk => tv_b0 ?_))
    · have e : ss_unset S x = ss_redo S V own mi (sp_del V.1 k) := by unfold ss_unset; simp only [hed, evk]
      rw [e] at hK
      subst ek
      refine md_copyTo (m := 21) (m' := 20) (by omega) (by omega) (by omega) r63.1 r63.2.1 (fun h4 e4 a4 => ?_)
      refine md_takeFrom (m := 21) (by omega) e4 r63.2.1 (by omega) (fun h5 e5 a5 => ?_)
      refine md_redo ok r0 hed (sp_eb_del r63.2.1) e5 (a4.tr a5) (fun h6 k6 z6 a6 => ?_)
      refine ⟨pk_in 20 22 (by omega), ?_⟩
      rw [z6]
      exact hK h6 k6 a6
    · have e : ss_unset S x = (-102, S) := by unfold ss_unset; simp only [hed, evk]
      rw [e] at hK
      exact hK h r0 tv_ag.rf
theorem mt_seal (ok : ss_ok S c) (r : md_rep S h) {K : Int32 → tv_AH → Prop} (hK : ∀ h', md_rep (ss_seal S).2 h' → tv_ag md_hi h h' → K (ss_seal S).1 h') : tv_CI ad (d + 4) yX3_seal [.ref (ad 400)] h K := by
  obtain ⟨o1, o2, o3, o4, o5, o6⟩ := ok
  have r0 := r
  obtain ⟨r1, r2, r3, r4, r5, r6⟩ := r
  unfold md_ed at r6
  refine nX3_seal h ?_
  cases hed : ss_ed S with
  | none =>
    rw [hed] at r6
    have e : ss_seal S = (-103, S) := by unfold ss_seal; simp only [hed]
    rw [e] at hK
    rw [r6.1]
    exact tv_b0 (hK h r0 tv_ag.rf)
  | some t =>
    obtain ⟨V, own, mi⟩ := t
    rw [hed] at r6
    obtain ⟨r61, r62, r63⟩ := r6
    have e : ss_seal S = if (ss_vs S).length = 20 then (-104, S) else (nI (ss_vs S).length, (S.1, ss_vs S ++ [V], ss_pg S, (ss_md S, ss_rd S, ss_sl S + 1), none)) := by unfold ss_seal; simp only [hed]
    rw [e] at hK
    rw [r61, r2]
    refine tv_b1 (tv_ne (ss_vs S).length 20 (fun z => fun h1 w1 h2 w2 => ?_) (fun z => ?_))
    · rw [if_neg z] at hK
      have e1 : h1.1 400 9 = nI (ss_sl S) := by rw [w1, tv_wIc (by omega)]; exact r5.2.2
      rw [e1, nI_1] at w2
      have a2 : tv_ag (fun q i => q = 400 ∧ (i = 5 ∨ i = 9)) h h2 := by rw [w2, w1]; exact (tv_ag.rf.wI ⟨rfl, Or.inl rfl⟩).wI ⟨rfl, Or.inr rfl⟩
      have m2 : md_M 20 (ss_f S) (ss_w S) V.1 V.2 own h2 := r63.ag a2 (fun q i y => by unfold md_rM md_rE md_rN at y; omega)
      refine md_keepNew (m' := 20) (v := (ss_vs S).length) (by omega) (by omega) (by omega) (by rw [a2.2 _ _ (by omega)]; exact r2) m2 (fun h3 m3 v3 a3 => ?_)
      have a23 : tv_ag (fun q i => md_rM (ss_vs S).length q i ∨ (q = 400 ∧ (i = 5 ∨ i = 9 ∨ i = 4))) h h3 := (a2.mo (fun q i z => Or.inr ⟨z.1, by omega⟩)).tr (a3.mo (fun q i z => by
        rcases z with z | z
        · exact Or.inl z
        · exact Or.inr ⟨z.1, by omega⟩))
      refine hK h3 ⟨?_, ?_, ?_, ⟨?_, fun i hi => ?_⟩, ⟨?_, ?_, ?_⟩, ?_⟩ (a23.mo (fun q i z => by unfold md_rM md_rE md_rN at z; unfold md_hi; omega))
      · exact r1.ag a23 (by unfold md_rM md_rE md_rN; omega) (by unfold md_rM md_rE md_rN; omega)
      · show h3.1 400 4 = nI (ss_vs S ++ [V]).length
        rw [List.length_append, List.length_singleton]; exact v3
      · intro v hv
        change v < (ss_vs S ++ [V]).length at hv
        rw [List.length_append, List.length_singleton] at hv
        show md_M v (ss_f S) (ss_w S) ((ss_vs S ++ [V]).getD v ([], [])).1 ((ss_vs S ++ [V]).getD v ([], [])).2 (2 ^ 30) h3
        rw [ss_v_add]
        by_cases q : v < (ss_vs S).length
        · rw [if_pos q]
          exact (r3 v q).ag a23 (fun q i y => by unfold md_rM md_rE md_rN at y; unfold md_rM md_rE md_rN; omega)
        · have : v = (ss_vs S).length := by omega
          subst this
          rw [if_neg q, if_pos rfl]
          exact m3
      · rw [a23.2 _ _ (by unfold md_rM md_rE md_rN; omega)]; exact r4.1
      · rw [a23.2 _ _ (by unfold md_rM md_rE md_rN; omega)]; exact r4.2 i hi
      · rw [a23.2 _ _ (by unfold md_rM md_rE md_rN; omega)]; exact r5.1
      · rw [a23.2 _ _ (by unfold md_rM md_rE md_rN; omega)]; exact r5.2.1
      · rw [a3.2 _ _ (by unfold md_rM md_rE md_rN; omega), w2, tv_wIe]
      · refine ⟨?_, V.1, ?_, r63.2.1⟩
        · rw [a3.2 _ _ (by unfold md_rM md_rE md_rN; omega), w2, tv_wIc (by omega), w1, tv_wIe]
        · exact (m2.ag a3 (fun q i y => by unfold md_rM md_rE md_rN at y; unfold md_rM md_rE md_rN; omega)).1
    · rw [if_pos z] at hK
      exact hK h r0 tv_ag.rf
theorem md_ownMany {f w own : Nat} {E : List (Nat × Nat)} {ids : List Nat} (k : md_M 20 f w E ids own h) {K : Int32 → tv_AH → Prop} (hK : K (nI (sp_owns ids own)) h) : tv_CI ad (d + 1) yX3_ownMany [.ref (ad 400)] h K := by
  obtain ⟨k1, k2, k3, k4, k5, k6, k7⟩ := k
  have hN96 := sp_N_len (f := f) (w := w) k2.1
  refine nX3_ownMany h ?_
  have H : ∀ t i, i + t = ids.length → tv_Wp ad RX3 cX3_ownMany 3 (some .int) d (tv_pI K) 4 [(0, .ref (ad 400)), (1, .int (nI ((ids.take i).filter (fun j => own ≤ j)).length)), (2, .int (nI i))] [] h := by
    intro t
    induction t with
    | zero =>
      intro i hi
      refine bX3_ownMany_4 _ _ h ?_
      rw [k3]
      refine ⟨pk_in 20 22 (by omega), pk_le (sp_N f w E).length i (fun _ => ?_) (fun q => absurd q (by omega))⟩
      rw [show i = ids.length by omega, List.take_length]
      exact hK
    | succ t ih =>
      intro i hi
      refine bX3_ownMany_4 _ _ h ?_
      rw [k3]
      refine ⟨pk_in 20 22 (by omega), pk_le (sp_N f w E).length i (fun q => absurd q (by omega)) (fun q => ?_)⟩
      have hii : i < ids.length := by omega
      have hc := sp_cnt (p := fun j => decide (own ≤ j)) hii
      have hid : ids[i] = sp_id ids i := by simp [sp_id, List.getD_eq_getElem?_getD, hii]
      rw [hid] at hc
      have m7 := (k7 i hii).2
      rw [show 96 * 20 + i = 1920 + i by omega] at m7
      rw [tv_1920, tv_nc (1920 + i), m7, nI_1, nI_1]
      refine ⟨pk_in (1920 + i) 2112 (by omega), ?_⟩
      by_cases ho : own ≤ sp_id ids i
      · rw [if_pos ho]
        simp only [ho, decide_true, if_true] at hc
        refine tv_c1 ?_
        have := ih (i + 1) (by omega)
        rw [hc] at this
        exact this
      · rw [if_neg ho]
        simp only [ho, decide_false, Bool.false_eq_true, if_false, Nat.add_zero] at hc
        refine tv_c0 ?_
        rw [show (0 : Int32) = nI 0 from rfl, nI_add, Nat.add_zero, ← hc]
        exact ih (i + 1) (by omega)
  exact H ids.length 0 (by omega)
theorem mt_leave (ok : ss_ok S c) (r : md_rep S h) {K : Int32 → tv_AH → Prop} (hK : ∀ h', md_rep (ss_leave S).2 h' → tv_ag md_hi h h' → K (ss_leave S).1 h') : tv_CI ad (d + 2) yX3_leave [.ref (ad 400)] h K := by
  obtain ⟨o1, o2, o3, o4, o5, o6⟩ := ok
  have r0 := r
  obtain ⟨r1, r2, r3, r4, r5, r6⟩ := r
  unfold md_ed at r6
  refine nX3_leave h ?_
  cases hed : ss_ed S with
  | none =>
    rw [hed] at r6
    have e : ss_leave S = (-103, S) := by unfold ss_leave; simp only [hed]
    rw [e] at hK
    rw [r6.1]
    exact tv_b0 (hK h r0 tv_ag.rf)
  | some t =>
    obtain ⟨V, own, mi⟩ := t
    rw [hed] at r6
    obtain ⟨r61, r62, r63⟩ := r6
    have e : ss_leave S = (nI (sp_owns V.2 own), (S.1, ss_vs S, ss_pg S, S.2.2.2.1, none)) := by unfold ss_leave; simp only [hed]
    rw [e] at hK
    rw [r61]
    refine tv_b1 (fun h1 w1 => ?_)
    have a1 : tv_ag (fun q i => q = 400 ∧ i = 5) h h1 := by rw [w1]; exact tv_ag.rf.wI ⟨rfl, rfl⟩
    have m1 : md_M 20 (ss_f S) (ss_w S) V.1 V.2 own h1 := r63.ag a1 (fun q i y => by unfold md_rM md_rE md_rN at y; omega)
    refine md_ownMany m1 (hK h1 (r0.mk' a1 rfl ?_ (fun v hv => ⟨hv, rfl⟩) (fun v hv q i y => by unfold md_rM md_rE md_rN at y; omega) o2.2.1 (by omega) (by omega) ⟨?_, fun i hi => ?_⟩ ⟨?_, ?_, ?_⟩ ⟨?_, V.1, m1.1, m1.2.1⟩) (a1.mo (fun q i z => by unfold md_hi; omega)))
    · rw [a1.2 _ _ (by omega)]; exact r2
    · rw [a1.2 _ _ (by omega)]; exact r4.1
    · rw [a1.2 _ _ (by omega)]; exact r4.2 i hi
    · rw [a1.2 _ _ (by omega)]; exact r5.1
    · rw [a1.2 _ _ (by omega)]; exact r5.2.1
    · rw [a1.2 _ _ (by omega)]; exact r5.2.2
    · rw [w1, tv_wIe]
theorem md_editNow {f w own mi n : Nat} {V : sp_V} (k : md_M 20 f w V.1 V.2 own h) (hmi : h.1 400 6 = nI mi) (hn : n ≤ 3) {K : Int32 → tv_AH → Prop} (hK : K (nI (sp_edit V own mi n)) h) : tv_CI ad (d + 2) yX3_editNow [.ref (ad 400), .int (nI n)] h K := by
  unfold sp_edit at hK
  refine nX3_editNow _ h (tv_ne n 0 (fun z0 => tv_ne n 1 (fun z1 => tv_ne n 2 (fun z2 => ?_) (fun z2 => ?_)) (fun z1 => ⟨pk_in 20 22 (by omega), ?_⟩)) (fun z0 => ⟨pk_in 20 22 (by omega), ?_⟩))
  · rw [if_neg z0, if_neg z1, if_neg z2] at hK
    rw [hmi]; exact hK
  · rw [if_neg z0, if_neg z1, if_pos z2] at hK
    exact md_ownMany k hK
  · rw [if_neg z0, if_pos z1, k.2.2.2.2.1] at hK
    rw [k.2.2.1]; exact hK
  · rw [if_pos z0] at hK
    rw [k.1.1]; exact hK
theorem mt_edit {x : Int32} (r : md_rep S h) {K : Int32 → tv_AH → Prop} (hK : ∀ h', md_rep (ss_edit S x).2 h' → tv_ag md_hi h h' → K (ss_edit S x).1 h') : tv_CI ad (d + 3) yX3_edit [.ref (ad 400), .int x] h K := by
  have r0 := r
  obtain ⟨r1, r2, r3, r4, r5, r6⟩ := r
  unfold md_ed at r6
  refine nX3_edit _ h ?_
  cases hed : ss_ed S with
  | none =>
    rw [hed] at r6
    have e : ss_edit S x = (-103, S) := by unfold ss_edit; simp only [hed]
    rw [e] at hK
    rw [r6.1]
    exact tv_b0 (hK h r0 tv_ag.rf)
  | some t =>
    obtain ⟨V, own, mi⟩ := t
    rw [hed] at r6
    obtain ⟨r61, r62, r63⟩ := r6
    rw [r61]
    refine tv_b1 (md_rg (b := 3) rfl (by omega) (fun k hk ek evk => tv_c1 ?_) (fun evk => tv_c0 ?_))
    · have e : ss_edit S x = (nI (sp_edit V own mi k), S) := by unfold ss_edit; simp only [hed, evk]
      rw [e] at hK
      subst ek
      exact md_editNow r63 r62 hk (hK h r0 tv_ag.rf)
    · have e : ss_edit S x = (-102, S) := by unfold ss_edit; simp only [hed, evk]
      rw [e] at hK
      exact hK h r0 tv_ag.rf
end MDW
