/-! THE COMPONENT'S CALLS: the edit -/
theorem cp_rf_v {h : tv_AH} {a : Nat} (ha : a < 20) : cp_rf h a = h.2.2 1 a := by unfold cp_rf; rw [if_pos ha]
theorem cp_rf_d {h : tv_AH} : cp_rf h 20 = h.2.2 0 8 := rfl
theorem cp_rf_s {h : tv_AH} : cp_rf h 21 = h.2.2 0 12 := rfl
section CCC
variable {ad : Nat → Nat} {d c : Nat} {h h' : tv_AH} {S : sp_S}
theorem cp_rep.no (r : cp_rep S h) (he : ss_ed S = none) : h.1 0 9 = 0 := by
  have := r.2.2.2.2.2.2
  unfold cp_ed at this
  rw [he] at this
  exact this
theorem cp_rep.ed {V : sp_V} {own mi : Nat} (r : cp_rep S h) (he : ss_ed S = some (V, own, mi)) : h.1 0 9 = 1 ∧ h.1 0 10 = nI mi ∧ h.1 0 11 = nI own ∧ ct_V (ss_f S) (ss_w S) (h.2.2 0 8) V h := by
  have := r.2.2.2.2.2.2
  unfold cp_ed at this
  rw [he] at this
  exact this
theorem ss_eok.ed {V : sp_V} {own mi : Nat} {P : Nat → Nat} (k : ss_eok S P) (he : ss_ed S = some (V, own, mi)) : sp_vok (ss_f S) (ss_w S) (ss_md S) V ∧ own ≤ ss_md S ∧ mi ≤ ss_md S ∧ sp_plc (ss_f S) (ss_w S) P V := by
  unfold ss_eok at k
  rw [he] at k
  exact k
theorem cc_begin {v : Int32} (ok : ss_ok S c) (r : cp_rep S h) {K : Int32 → tv_AH → Prop} (hK : ∀ h', cp_rep (ss_begin S v).2 h' → cp_lo h h' → K (ss_begin S v).1 h') : tv_CI ad (d + 20) yX2_begin [.ref (ad 0), .int v] h K := by
  obtain ⟨o1, o2, o3, o4, o5, o6⟩ := id ok
  obtain ⟨r1, r2, r3, r4, r5, r6, r7⟩ := id r
  refine nX2_begin _ h (ct_isVersion (d := d + 18) (S := S) r2 ⟨o2.1, o2.2.1⟩ (fun n hn en ev => tv_b1 ?_) (fun ev => tv_b0 ?_))
  · cases hed : ss_ed S with
    | some t =>
      obtain ⟨V, own, mi⟩ := t
      have e : ss_begin S v = (-103, S) := by unfold ss_begin; simp only [ev, hed]
      rw [e] at hK
      rw [(r.ed hed).1]
      exact tv_c1 (hK h r cp_lo.rf)
    | none =>
      have e : ss_begin S v = (nI (ss_v S n).1.length, (S.1, ss_vs S, ss_pg S, S.2.2.2.1, some (ss_v S n, ss_md S, 0))) := by unfold ss_begin; simp only [ev, hed]
      rw [e] at hK
      rw [r.no hed]
      subst en
      have kn := r.v hn
      have vn := ok.v hn
      rw [tv_nc n]
      have nd := cp_vd r3 (show n < 20 by omega)
      refine tv_c0 ⟨pk_in n 20 (by omega), ct_copyAll (d := d) nd o1 kn vn.1 vn.2.1 vn.2.2.1 (fun h2 x2 a2 h3 w3 h4 w4 h5 w5 => ?_)⟩
      generalize hj : h.2.2 0 8 = j at *
      have e2 : h2.2.2 = h.2.2 := a2.1
      have m2 : h2.1 0 5 = nI (ss_md S) := by rw [a2.2.1 _ _ (fun z => by have := ct_rO_lt (ct_rT_O z); omega)]; exact r6.1
      have m4 : h4.1 0 5 = nI (ss_md S) := by rw [w4, tv_wIc (by omega), w3, tv_wIc (by omega)]; exact m2
      rw [m4] at w5
      have a5 : tv_agJ (fun q i => ct_rO j q i ∨ (q = 0 ∧ (i = 9 ∨ i = 10 ∨ i = 11))) (ct_rO j) h h5 := by
        rw [w5, w4, w3]
        exact (((a2.mo (fun q i z => Or.inl (ct_rT_O z)) (fun q i z => ct_rJ_O z)).wI (Or.inr ⟨rfl, Or.inl rfl⟩)).wI (Or.inr ⟨rfl, Or.inr (Or.inl rfl)⟩)).wI (Or.inr ⟨rfl, Or.inr (Or.inr rfl)⟩)
      have e5 : h5.2.2 = h.2.2 := a5.1
      have x5 : ct_V (ss_f S) (ss_w S) j (ss_v S n) h5 := by
        rw [w5, w4, w3]
        exact ((x2.lo (by omega)).lo (by omega)).lo (by omega)
      have no : ∀ q i, q < 16 → ¬ (q = 0 ∧ (i = 9 ∨ i = 10 ∨ i = 11)) → ¬ (ct_rO j q i ∨ (q = 0 ∧ (i = 9 ∨ i = 10 ∨ i = 11))) := fun q i z1 z2 z => z.elim (fun y => by have := ct_rO_lt y; omega) z2
      have e8 : h5.2.2 0 8 = j := by rw [e5]; exact hj
      rw [e8, x5.1.1]
      refine hK h5 ⟨⟨?_, ?_⟩, ?_, r3.cg e5, fun v hv => ?_, ⟨?_, fun i hi => ?_⟩, ⟨?_, ?_, ?_⟩, ?_⟩ (cp_lo.of a5 (fun q i z => z.elim (fun y => (ct_rO_lt y).2) (fun y => by omega)))
      · rw [a5.2.1 _ _ (no _ _ (by omega) (by omega))]; exact r1.1
      · rw [a5.2.1 _ _ (no _ _ (by omega) (by omega))]; exact r1.2
      · rw [a5.2.1 _ _ (no _ _ (by omega) (by omega))]; exact r2
      · change v < (ss_vs S).length at hv
        rw [e5]
        have nv : h.2.2 1 v ≠ j := by rw [← hj]; exact cp_vd r3 (by omega)
        refine ⟨(r.v hv).cut a5 nv (fun q i z => z.elim Or.inl (fun y => Or.inr (by omega))) (fun q i z => z), ?_⟩
        rw [a5.2.1 _ _ (fun y => y.elim (fun u => ct_rO_ne nv (show ct_rO (h.2.2 1 v) (tv_tp (h.2.2 1 v)) 14 by unfold ct_rO; omega) u) (fun u => by have := ct_tp (h.2.2 1 v); omega))]
        exact (r4 v hv).2
      · rw [a5.2.1 _ _ (no _ _ (by omega) (by omega))]; exact r5.1
      · rw [a5.2.1 _ _ (no _ _ (by omega) (by omega))]; exact r5.2 i hi
      · rw [a5.2.1 _ _ (no _ _ (by omega) (by omega))]; exact r6.1
      · rw [a5.2.1 _ _ (no _ _ (by omega) (by omega))]; exact r6.2.1
      · rw [a5.2.1 _ _ (no _ _ (by omega) (by omega))]; exact r6.2.2
      · show h5.1 0 9 = 1 ∧ h5.1 0 10 = nI 0 ∧ h5.1 0 11 = nI (ss_md S) ∧ ct_V (ss_f S) (ss_w S) (h5.2.2 0 8) (ss_v S n) h5
        refine ⟨?_, ?_, ?_, by rw [e8]; exact x5⟩
        · rw [w5, tv_wIc (by omega), w4, tv_wIc (by omega), w3, tv_wIe]
        · rw [w5, tv_wIc (by omega), w4, tv_wIe]; rfl
        · rw [w5, tv_wIe]
  · have e : ss_begin S v = (-101, S) := by unfold ss_begin; simp only [ev]
    rw [e] at hK
    exact hK h r cp_lo.rf
/-- the edit has other entries -/
theorem cp_redraft {E' : List (Nat × Nat)} {V : sp_V} {own mi : Nat} {h0 : tv_AH} (ok : ss_ok S c) (r : cp_rep S h0) (hed : ss_ed S = some (V, own, mi)) (hb : sp_eb E') (hs : sp_srt (ss_f S) (ss_w S) E') (e : ct_E (ss_f S) (ss_w S) (h0.2.2 0 12) E' h) (a0 : tv_ag (ct_rE (h0.2.2 0 12)) h0 h) {K : Int32 → tv_AH → Prop} (hK : ∀ h', cp_rep (ss_redo S V own mi E').2 h' → cp_lo h0 h' → K (ss_redo S V own mi E').1 h') : tv_CI ad (d + 20) yX2_redraft [.ref (ad 0)] h K := by
  obtain ⟨o1, o2, o3, o4, o5, P, o6, o7⟩ := id ok
  obtain ⟨r1, r2, r3, r4, r5, r6, r7⟩ := id r
  obtain ⟨k9, k10, k11, kx⟩ := r.ed hed
  obtain ⟨q1, q2, q3, q4⟩ := o7.ed hed
  have nds := cp_ds r3
  have e0 : h.2.2 = h0.2.2 := by rw [a0.1]
  have noE : ∀ i, ¬ ct_rE (h0.2.2 0 12) 0 i := fun i z => by have := ct_rO_lt (ct_rE_O z); omega
  refine nX2_redraft h ?_
  rw [e0, a0.2 _ _ (noE 11), a0.2 _ _ (noE 10), k11, k10]
  have e8 : ∀ h1 : tv_AH, h1.2.2 = h0.2.2 → h1.2.2 0 8 = h0.2.2 0 8 ∧ h1.2.2 0 12 = h0.2.2 0 12 := fun h1 z => by rw [z]; exact ⟨rfl, rfl⟩
  generalize hj : h0.2.2 0 12 = j at *
  have x0 : ct_V (ss_f S) (ss_w S) (h0.2.2 0 8) V h := kx.cut (a0.J (Q := fun _ _ => False)) nds (fun q i z => Or.inl (ct_rE_O z)) (fun q i z => z.elim)
  refine ct_editNodes (d := d) (md := ss_md S) o1 nds e hb hs x0 q1.1 q1.2.1 q1.2.2.1 (fun i hi => Nat.lt_trans (q1.2.2.2 i hi) (by omega)) (by omega) (by rw [a0.2 _ _ (noE 5)]; exact r6.1) (by omega) (fun h1 x1 m1 a1 h2 w2 h3 w3 h4 w4 => ?_)
  obtain ⟨P', b1, b2, b3, b4, b5⟩ := sp_edn_ok (E' := E') (own := own) o1 hb hs q1 q4
  have a01 : tv_agJ (fun q i => ct_rO j q i ∨ (q = 0 ∧ i = 5)) (ct_rO j) h0 h1 := (a0.J.mo (fun q i z => Or.inl (ct_rE_O z)) (fun q i z => z)).tr (a1.mo (fun q i z => ct_rS_O z) (fun q i z => ct_rJ_O z))
  rw [nI_add] at w2
  have a02 : tv_agJ (fun q i => ct_rO j q i ∨ (q = 0 ∧ (i = 5 ∨ i = 10))) (ct_rO j) h0 h2 := by
    rw [w2]
    exact (a01.mo (fun q i z => z.elim Or.inl (fun y => Or.inr ⟨y.1, Or.inl y.2⟩)) (fun q i z => z)).wI (Or.inr ⟨rfl, Or.inr rfl⟩)
  have e2 : h2.2.2 = h0.2.2 := a02.1
  have x2 : ct_V (ss_f S) (ss_w S) j (E', (sp_edn (ss_f S) (ss_w S) E' V.1 V.2 own (ss_md S)).1) h2 := by rw [w2]; exact x1.lo (by omega)
  rw [(e8 h2 e2).2] at w3
  rw [(e8 h2 e2).1] at w4
  have i4 : h4.1 = h2.1 := by rw [w4, w3]; rfl
  have j4 : h4.2.1 = h2.2.1 := by rw [w4, w3]; rfl
  have p1 : ∀ i, h4.2.2 1 i = h0.2.2 1 i := fun i => by
    rw [w4, tv_wR3, if_neg (by omega), w3, tv_wR3, if_neg (by omega), e2]
  have p8 : h4.2.2 0 8 = j := by rw [w4, tv_wR3, if_neg (by omega), w3, tv_wR3, if_pos ⟨rfl, rfl⟩]
  have p12 : h4.2.2 0 12 = h0.2.2 0 8 := by rw [w4, tv_wR3, if_pos ⟨rfl, rfl⟩]
  have kc : ∀ (j2 : Fin 22) (V2 : sp_V), ct_V (ss_f S) (ss_w S) j2 V2 h2 → ct_V (ss_f S) (ss_w S) j2 V2 h4 := fun j2 V2 y => y.cg (fun q i _ => by rw [i4]) (fun q i _ => by rw [j4])
  have no : ∀ q i, q < 16 → ¬ (q = 0 ∧ (i = 5 ∨ i = 10)) → h4.1 q i = h0.1 q i := fun q i z1 z2 => by
    rw [i4]
    exact a02.2.1 q i (fun z => z.elim (fun y => by have := ct_rO_lt y; omega) z2)
  rw [p8, (kc _ _ x2).1.1]
  refine hK h4 ⟨⟨?_, ?_⟩, ?_, ?_, fun v hv => ?_, ⟨?_, fun i hi => ?_⟩, ⟨?_, ?_, ?_⟩, ?_⟩ (fun q i z => ?_)
  · rw [no _ _ (by omega) (by omega)]; exact r1.1
  · rw [no _ _ (by omega) (by omega)]; exact r1.2
  · rw [no _ _ (by omega) (by omega)]; exact r2
  · refine r3.sw (x := 20) (y := 21) (by omega) (by omega) (fun a ha => ?_)
    by_cases c1 : a < 20
    · rw [if_neg (show ¬ a = 20 by omega), if_neg (show ¬ a = 21 by omega), cp_rf_v c1, cp_rf_v c1, p1]
    · by_cases c2 : a = 20
      · rw [if_pos c2, c2, cp_rf_d, cp_rf_s, p8]; exact hj.symm
      · have c3 : a = 21 := by omega
        rw [if_neg c2, if_pos c3, c3, cp_rf_d, cp_rf_s, p12]
  · change v < (ss_vs S).length at hv
    rw [p1]
    have nv : h0.2.2 1 v ≠ j := by rw [← hj]; exact cp_vs r3 (by omega)
    refine ⟨kc _ _ ((r.v hv).cut a02 nv (fun q i z => z.elim Or.inl (fun y => Or.inr (by omega))) (fun q i z => z)), ?_⟩
    rw [i4, a02.2.1 _ _ (fun y => y.elim (fun u => ct_rO_ne nv (show ct_rO (h0.2.2 1 v) (tv_tp (h0.2.2 1 v)) 14 by unfold ct_rO; omega) u) (fun u => by have := ct_tp (h0.2.2 1 v); omega))]
    exact (r4 v hv).2
  · rw [no _ _ (by omega) (by omega)]; exact r5.1
  · rw [no _ _ (by omega) (by omega)]; exact r5.2 i hi
  · rw [i4, w2, tv_wIc (by omega)]; exact m1
  · rw [no _ _ (by omega) (by omega)]; exact r6.2.1
  · rw [no _ _ (by omega) (by omega)]; exact r6.2.2
  · show h4.1 0 9 = 1 ∧ h4.1 0 10 = nI (mi + ((sp_edn (ss_f S) (ss_w S) E' V.1 V.2 own (ss_md S)).2 - ss_md S)) ∧ h4.1 0 11 = nI own ∧ ct_V (ss_f S) (ss_w S) (h4.2.2 0 8) (E', (sp_edn (ss_f S) (ss_w S) E' V.1 V.2 own (ss_md S)).1) h4
    refine ⟨by rw [no _ _ (by omega) (by omega)]; exact k9, by rw [i4, w2, tv_wIe], by rw [no _ _ (by omega) (by omega)]; exact k11, by rw [p8]; exact kc _ _ x2⟩
  · rw [i4]
    exact cp_lo.of a02 (fun q i z => z.elim (fun y => (ct_rO_lt y).2) (fun y => by omega)) q i z
theorem cc_set {x y : Int32} (ok : ss_ok S c) (r : cp_rep S h) {K : Int32 → tv_AH → Prop} (hK : ∀ h', cp_rep (ss_set S x y).2 h' → cp_lo h h' → K (ss_set S x y).1 h') : tv_CI ad (d + 21) yX2_set [.ref (ad 0), .int x, .int y] h K := by
  obtain ⟨o1, o2, o3, o4, o5, P, o6, o7⟩ := id ok
  have r3 := r.2.2.1
  refine nX2_set _ _ h ?_
  cases hed : ss_ed S with
  | none =>
    have e : ss_set S x y = (-103, S) := by unfold ss_set; simp only [hed]
    rw [e] at hK
    rw [r.no hed]
    exact tv_b0 (hK h r cp_lo.rf)
  | some t =>
    obtain ⟨V, own, mi⟩ := t
    obtain ⟨k9, k10, k11, kx⟩ := r.ed hed
    obtain ⟨q1, q2, q3, q4⟩ := o7.ed hed
    rw [k9]
    refine tv_b1 (ct_isKey (fun k hk ek evk => tv_c1 ?_) (fun evk => tv_c0 ?_))
    · refine ct_isValue (fun u hu eu evu => tv_b1 ?_) (fun evu => tv_b0 ?_)
      · have e : ss_set S x y = if V.1.length = 24 ∧ sp_fi V.1 k = none then (-104, S) else ss_redo S V own mi (sp_give (ss_ord S) V.1 k u) := by unfold ss_set; simp only [hed, evk, evu]
        rw [e] at hK
        subst ek eu
        refine ct_hasRoomFor (d := d + 18) kx.1 q1.1 (by omega) (fun hr => tv_b1 ?_) (fun z1 z2 => tv_b0 ?_)
        · rw [if_neg (fun y => by have := hr y.2; omega)] at hK
          have nds := cp_ds r3
          refine ct_copyEntries (d := d + 19) nds kx.1 q1.1.1 (fun h6 e6 a6 => ct_rankOf (d := d + 18) ((r.sc ok).rE a6) (by omega) ?_)
          have e66 : h6.2.2 = h.2.2 := by rw [a6.1]
          rw [e66]
          refine ct_give (d := d + 17) e6 q1.1 (by omega) rfl hr (fun h8 e8 a8 => ?_)
          exact cp_redraft ok r hed (sp_eb_give q1.1 (by omega) (by omega) hr) (sp_srt_give q1.1 q1.2.1 (by omega)) e8 (a6.tr a8) hK
        · rw [if_pos ⟨z1, z2⟩] at hK
          exact hK h r cp_lo.rf
      · have e : ss_set S x y = (-102, S) := by unfold ss_set; simp only [hed, evk, evu]
        rw [e] at hK
        exact hK h r cp_lo.rf
    · have e : ss_set S x y = (-102, S) := by unfold ss_set; simp only [hed, evk]
      rw [e] at hK
      exact hK h r cp_lo.rf
theorem cc_unset {x : Int32} (ok : ss_ok S c) (r : cp_rep S h) {K : Int32 → tv_AH → Prop} (hK : ∀ h', cp_rep (ss_unset S x).2 h' → cp_lo h h' → K (ss_unset S x).1 h') : tv_CI ad (d + 21) yX2_unset [.ref (ad 0), .int x] h K := by
  obtain ⟨o1, o2, o3, o4, o5, P, o6, o7⟩ := id ok
  have r3 := r.2.2.1
  refine nX2_unset _ h ?_
  cases hed : ss_ed S with
  | none =>
    have e : ss_unset S x = (-103, S) := by unfold ss_unset; simp only [hed]
    rw [e] at hK
    rw [r.no hed]
    exact tv_b0 (hK h r cp_lo.rf)
  | some t =>
    obtain ⟨V, own, mi⟩ := t
    obtain ⟨k9, k10, k11, kx⟩ := r.ed hed
    obtain ⟨q1, q2, q3, q4⟩ := o7.ed hed
    rw [k9]
    refine tv_b1 (ct_isKey (fun k hk ek evk => tv_b1 ?_) (fun evk => tv_b0 ?_))
    · have e : ss_unset S x = ss_redo S V own mi (sp_del V.1 k) := by unfold ss_unset; simp only [hed, evk]
      rw [e] at hK
      subst ek
      have nds := cp_ds r3
      refine ct_copyEntries (d := d + 19) nds kx.1 q1.1.1 (fun h6 e6 a6 => ?_)
      have e66 : h6.2.2 = h.2.2 := by rw [a6.1]
      rw [e66]
      refine ct_drop (d := d + 18) e6 q1.1 (by omega) (fun h8 e8 a8 => ?_)
      exact cp_redraft ok r hed (sp_eb_del q1.1) (sp_srt_del q1.2.1) e8 (a6.tr a8) hK
    · have e : ss_unset S x = (-102, S) := by unfold ss_unset; simp only [hed, evk]
      rw [e] at hK
      exact hK h r cp_lo.rf
theorem cc_leave (ok : ss_ok S c) (r : cp_rep S h) {K : Int32 → tv_AH → Prop} (hK : ∀ h', cp_rep (ss_leave S).2 h' → cp_lo h h' → K (ss_leave S).1 h') : tv_CI ad (d + 2) yX2_leave [.ref (ad 0)] h K := by
  obtain ⟨o1, o2, o3, o4, o5, P, o6, o7⟩ := id ok
  obtain ⟨r1, r2, r3, r4, r5, r6, r7⟩ := id r
  refine nX2_leave h ?_
  cases hed : ss_ed S with
  | none =>
    have e : ss_leave S = (-103, S) := by unfold ss_leave; simp only [hed]
    rw [e] at hK
    rw [r.no hed]
    exact tv_b0 (hK h r cp_lo.rf)
  | some t =>
    obtain ⟨V, own, mi⟩ := t
    obtain ⟨k9, k10, k11, kx⟩ := r.ed hed
    obtain ⟨q1, q2, q3, q4⟩ := o7.ed hed
    have e : ss_leave S = (nI (sp_owns V.2 own), (S.1, ss_vs S, ss_pg S, S.2.2.2.1, none)) := by unfold ss_leave; simp only [hed]
    rw [e] at hK
    rw [k9]
    refine tv_b1 (fun h1 w1 => ?_)
    have a : tv_ag (fun q i => q = 0 ∧ i = 9) h h1 := by rw [w1]; exact tv_ag.rf.wI ⟨rfl, rfl⟩
    have nP : ∀ q i, (q = 0 ∧ i = 9) → q < 16 := fun q i z => by omega
    have e1 : h1.2.2 = h.2.2 := by rw [a.1]
    have kv := cp_vp_low r a nP
    rw [e1, a.2 _ _ (by omega), k11]
    refine ct_nodesFrom (d := d) (V := V) (by rw [w1]; exact kx.lo (by omega)) q1.1 q1.2.2.1 (by omega) (fun i hi => Nat.lt_trans (q1.2.2.2 i hi) (by omega)) ?_
    exact hK h1 ⟨⟨by rw [a.2 _ _ (by omega)]; exact r1.1, by rw [a.2 _ _ (by omega)]; exact r1.2⟩, by rw [a.2 _ _ (by omega)]; exact r2, r3.cg e1, kv, r5.ag a (by omega) (fun i => by omega), ⟨by rw [a.2 _ _ (by omega)]; exact r6.1, by rw [a.2 _ _ (by omega)]; exact r6.2.1, by rw [a.2 _ _ (by omega)]; exact r6.2.2⟩, by show h1.1 0 9 = 0; rw [w1, tv_wIe]⟩ (cp_lo_low a nP)
theorem cc_seal (ok : ss_ok S c) (r : cp_rep S h) {K : Int32 → tv_AH → Prop} (hK : ∀ h', cp_rep (ss_seal S).2 h' → cp_lo h h' → K (ss_seal S).1 h') : tv_CI ad (d + 5) yX2_seal [.ref (ad 0)] h K := by
  obtain ⟨o1, o2, o3, o4, o5, P, o6, o7⟩ := id ok
  obtain ⟨r1, r2, r3, r4, r5, r6, r7⟩ := id r
  refine nX2_seal h ?_
  cases hed : ss_ed S with
  | none =>
    have e : ss_seal S = (-103, S) := by unfold ss_seal; simp only [hed]
    rw [e] at hK
    rw [r.no hed]
    exact tv_b0 (hK h r cp_lo.rf)
  | some t =>
    obtain ⟨V, own, mi⟩ := t
    obtain ⟨k9, k10, k11, kx⟩ := r.ed hed
    obtain ⟨q1, q2, q3, q4⟩ := o7.ed hed
    have e : ss_seal S = if (ss_vs S).length = 20 then (-104, S) else (nI (ss_vs S).length, (S.1, ss_vs S ++ [V], ss_pg S, (ss_md S, ss_rd S, ss_sl S + 1), none)) := by unfold ss_seal; simp only [hed]
    rw [e] at hK
    rw [k9]
    refine tv_b1 (ct_isFull r2 o2.2.1 (fun z => tv_c1 ?_) (fun z => tv_c0 ?_))
    · rw [if_pos z] at hK
      exact hK h r cp_lo.rf
    · rw [if_neg z] at hK
      have hv : (ss_vs S).length < 20 := by omega
      rw [r2, tv_nc (ss_vs S).length]
      refine ⟨pk_in _ 20 hv, pk_in _ 20 hv, fun h2 w2 h3 w3 h4 w4 h5 w5 => ?_⟩
      generalize hL : (ss_vs S).length = L at *
      generalize hj : h.2.2 0 8 = j at *
      have s4 : h4.1 0 7 = nI (ss_sl S) := by rw [w4, tv_wIc (by omega), w3, w2]; exact r6.2.2
      rw [s4, nI_1] at w5
      have i5 : ∀ q i, ¬ (q = 0 ∧ (i = 9 ∨ i = 7)) → h5.1 q i = h.1 q i := fun q i y => by
        rw [w5, tv_wIc (by omega), w4, tv_wIc (by omega), w3, w2]; rfl
      have j5 : h5.2.1 = h.2.1 := by rw [w5, w4, w3, w2]; rfl
      have e5 : h5.2.2 = h3.2.2 := by rw [w5, w4]; rfl
      have p1 : ∀ i, i ≠ L → h5.2.2 1 i = h.2.2 1 i := fun i hi => by
        rw [e5, w3, tv_wR3, if_neg (by omega), w2, tv_wR3, if_neg (by omega)]
      have pL : h5.2.2 1 L = j := by rw [e5, w3, tv_wR3, if_neg (by omega), w2, tv_wR3, if_pos ⟨rfl, rfl⟩]
      have p8 : h5.2.2 0 8 = h.2.2 1 L := by rw [e5, w3, tv_wR3, if_pos ⟨rfl, rfl⟩]
      have p12 : h5.2.2 0 12 = h.2.2 0 12 := by rw [e5, w3, tv_wR3, if_neg (by omega), w2, tv_wR3, if_neg (by omega)]
      have kc : ∀ (j2 : Fin 22) (V2 : sp_V), ct_V (ss_f S) (ss_w S) j2 V2 h → ct_V (ss_f S) (ss_w S) j2 V2 h5 := fun j2 V2 y => y.cg (fun q i u => i5 q i (fun g => by have := ct_rO_lt (ct_rT_O u); omega)) (fun q i _ => by rw [j5])
      have c5 : h5.1 0 1 = nI (ss_vs S).length := by rw [i5 _ _ (by omega), hL]; exact r2
      refine ct_addVersion (d := d) (f := ss_f S) (w := ss_w S) (vs := ss_vs S) (V := V) (md := ss_md S) (P := P) o1 c5 (by omega) (fun v hv2 => by rw [p1 v (by omega)]; exact kc _ _ (r.v hv2)) (fun v hv2 => ⟨o3 v (by omega), o6 v (by omega)⟩) (by rw [hL, pL]; exact kc _ _ kx) q1 q4 (by omega) (fun h6 c6 w6 a6 => ?_)
      rw [hL, pL] at a6
      rw [hL, pL] at w6
      rw [hL] at c6 ⊢
      have nj := ct_tp j
      have e6 : h6.2.2 = h5.2.2 := by rw [a6.1]
      have j6 : h6.2.1 = h5.2.1 := by rw [a6.1]
      have i6 : ∀ q i, q < 16 → ¬ (q = 0 ∧ (i = 9 ∨ i = 7 ∨ i = 1)) → h6.1 q i = h.1 q i := fun q i y1 y2 => by
        rw [a6.2 _ _ (by omega), i5 _ _ (by omega)]
      have kc6 : ∀ (j2 : Fin 22) (V2 : sp_V), ct_V (ss_f S) (ss_w S) j2 V2 h → ct_V (ss_f S) (ss_w S) j2 V2 h6 := fun j2 V2 y => (kc j2 V2 y).cg (fun q t g => a6.2 q t (fun u => by have := ct_tp j2; unfold ct_rT at g; omega)) (fun q t g => by rw [j6])
      refine hK h6 ⟨⟨?_, ?_⟩, ?_, ?_, ?_, ⟨?_, fun i hi => ?_⟩, ⟨?_, ?_, ?_⟩, ?_⟩ (fun q i y => ?_)
      · rw [i6 _ _ (by omega) (by omega)]; exact r1.1
      · rw [i6 _ _ (by omega) (by omega)]; exact r1.2
      · show h6.1 0 1 = nI (ss_vs S ++ [V]).length
        rw [List.length_append, List.length_singleton, hL]
        exact c6
      · refine r3.sw (x := L) (y := 20) (by omega) (by omega) (fun a ha => ?_)
        by_cases c0 : a = L
        · rw [if_pos c0, c0, cp_rf_v hv, cp_rf_d, e6, pL]; exact hj.symm
        · rw [if_neg c0]
          by_cases c1 : a < 20
          · rw [if_neg (show ¬ a = 20 by omega), cp_rf_v c1, cp_rf_v c1, e6, p1 a c0]
          · by_cases c2 : a = 20
            · rw [if_pos c2, c2, cp_rf_v hv, cp_rf_d, e6, p8]
            · have c3 : a = 21 := by omega
              rw [if_neg c2, c3, cp_rf_s, cp_rf_s, e6, p12]
      · intro v hv2
        change v < (ss_vs S ++ [V]).length at hv2
        rw [List.length_append, List.length_singleton, hL] at hv2
        show ct_V (ss_f S) (ss_w S) (h6.2.2 1 v) ((ss_vs S ++ [V]).getD v ([], [])) h6 ∧ h6.1 (tv_tp (h6.2.2 1 v)) 14 = nI (sp_nw (ss_vs S ++ [V]) v)
        rw [ss_v_add, e6, hL]
        by_cases y : v < L
        · rw [if_pos y, sp_nw_app' (by omega), p1 v (by omega)]
          refine ⟨kc6 _ _ (r.v (by omega)), ?_⟩
          have nv : h.2.2 1 v ≠ j := by rw [← hj]; exact cp_vd r3 (by omega)
          have := ct_ne nv
          have := ct_tp (h.2.2 1 v)
          rw [a6.2 _ _ (by omega), i5 _ _ (by omega)]
          exact (r4 v y).2
        · have : v = L := by omega
          subst this
          rw [if_neg y, if_pos rfl, pL]
          exact ⟨kc6 _ _ kx, w6⟩
      · rw [i6 _ _ (by omega) (by omega)]; exact r5.1
      · rw [i6 _ _ (by omega) (by omega)]; exact r5.2 i hi
      · rw [i6 _ _ (by omega) (by omega)]; exact r6.1
      · rw [i6 _ _ (by omega) (by omega)]; exact r6.2.1
      · show h6.1 0 7 = nI (ss_sl S + 1)
        rw [a6.2 _ _ (by omega), w5, tv_wIe]
      · show h6.1 0 9 = 0
        rw [a6.2 _ _ (by omega), w5, tv_wIc (by omega), w4, tv_wIe]
      · rw [a6.2 _ _ (by omega), i5 _ _ (by omega)]
theorem cc_editq {x : Int32} (ok : ss_ok S c) (r : cp_rep S h) {K : Int32 → tv_AH → Prop} (hK : K (ss_edit S x).1 h) : tv_CI ad (d + 2) yX2_edit [.ref (ad 0), .int x] h K := by
  obtain ⟨o1, o2, o3, o4, o5, P, o6, o7⟩ := id ok
  refine nX2_edit _ h ?_
  cases hed : ss_ed S with
  | none =>
    have e : ss_edit S x = (-103, S) := by unfold ss_edit; simp only [hed]
    rw [e] at hK
    rw [r.no hed]
    exact tv_b0 (hK)
  | some t =>
    obtain ⟨V, own, mi⟩ := t
    obtain ⟨k9, k10, k11, kx⟩ := r.ed hed
    obtain ⟨q1, q2, q3, q4⟩ := o7.ed hed
    have go : ∀ k, sp_rg x 3 = some k → K (nI (sp_edit V own mi k)) h := fun k evk => by
      have e : ss_edit S x = (nI (sp_edit V own mi k), S) := by unfold ss_edit; simp only [hed, evk]
      rw [e] at hK
      exact hK
    rw [k9, kx.1.1, kx.2.1.1, k10, k11]
    refine tv_b1 ⟨fun z => go 0 (sp_rg_t 0 (by omega) (by omega) z).2, fun z => ?_, fun z => ?_, fun z => go 3 (sp_rg_t 3 (by omega) (by omega) z).2, fun z => ?_⟩
    · have := go 1 (sp_rg_t 1 (by omega) (by omega) z).2
      rw [← q1.2.2.1]
      exact this
    · exact ct_nodesFrom (d := d) (V := V) kx q1.1 q1.2.2.1 (by omega) (fun i hi => Nat.lt_trans (q1.2.2.2 i hi) (by omega)) (go 2 (sp_rg_t 2 (by omega) (by omega) z).2)
    · have evk := sp_rg_o (b := 3) (by omega) z
      have e : ss_edit S x = (-102, S) := by unfold ss_edit; simp only [hed, evk]
      rw [e] at hK
      exact hK
end CCC
