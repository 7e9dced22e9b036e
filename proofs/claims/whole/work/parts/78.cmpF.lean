/-! THE COMPONENT HOLDS A STATE; versions made of versions -/
def cp_rf (h : tv_AH) (i : Nat) : Fin 22 := if i < 20 then h.2.2 1 i else if i = 20 then h.2.2 0 8 else h.2.2 0 12
/-- the trees differ -/
def cp_inj (h : tv_AH) : Prop := ∀ a b, a < 22 → b < 22 → cp_rf h a = cp_rf h b → a = b
theorem cp_vv {h : tv_AH} (r : cp_inj h) {a b : Nat} (ha : a < 20) (hb : b < 20) (n : a ≠ b) : h.2.2 1 a ≠ h.2.2 1 b := fun z => n (r a b (by omega) (by omega) (by unfold cp_rf; rw [if_pos ha, if_pos hb]; exact z))
theorem cp_vd {h : tv_AH} (r : cp_inj h) {a : Nat} (ha : a < 20) : h.2.2 1 a ≠ h.2.2 0 8 := fun z => by
  have := r a 20 (by omega) (by omega) (by unfold cp_rf; rw [if_pos ha, if_neg (by omega), if_pos rfl]; exact z)
  omega
theorem cp_vs {h : tv_AH} (r : cp_inj h) {a : Nat} (ha : a < 20) : h.2.2 1 a ≠ h.2.2 0 12 := fun z => by
  have := r a 21 (by omega) (by omega) (by unfold cp_rf; rw [if_pos ha, if_neg (by omega), if_neg (by omega)]; exact z)
  omega
theorem cp_ds {h : tv_AH} (r : cp_inj h) : h.2.2 0 8 ≠ h.2.2 0 12 := fun z => by
  have := r 20 21 (by omega) (by omega) (by unfold cp_rf; rw [if_neg (by omega), if_pos rfl, if_neg (by omega), if_neg (by omega)]; exact z)
  omega
theorem cp_inj.cg {h h' : tv_AH} (r : cp_inj h) (e : h'.2.2 = h.2.2) : cp_inj h' := by
  intro a b ha hb z
  refine r a b ha hb ?_
  unfold cp_rf at *
  rw [e] at z
  exact z
def cp_ed (S : sp_S) (h : tv_AH) : Prop := match ss_ed S with
  | none => h.1 0 9 = 0
  | some (V, own, mi) => h.1 0 9 = 1 ∧ h.1 0 10 = nI mi ∧ h.1 0 11 = nI own ∧ ct_V (ss_f S) (ss_w S) (h.2.2 0 8) V h
def cp_rep (S : sp_S) (h : tv_AH) : Prop :=
  (h.1 0 3 = nI (ss_f S) ∧ h.1 0 4 = nI (ss_w S)) ∧ h.1 0 1 = nI (ss_vs S).length ∧ cp_inj h ∧ (∀ v, v < (ss_vs S).length → ct_V (ss_f S) (ss_w S) (h.2.2 1 v) (ss_v S v) h ∧ h.1 (tv_tp (h.2.2 1 v)) 14 = nI (sp_nw (ss_vs S) v)) ∧ ct_pg (ss_pg S) h ∧ (h.1 0 5 = nI (ss_md S) ∧ h.1 0 6 = nI (ss_rd S) ∧ h.1 0 7 = nI (ss_sl S)) ∧ cp_ed S h
/-- the reference's cells have not changed -/
def cp_lo (h h' : tv_AH) : Prop := ∀ q i, 400 ≤ q → h'.1 q i = h.1 q i
theorem cp_lo.rf {h : tv_AH} : cp_lo h h := fun _ _ _ => rfl
theorem cp_lo.tr {h h' h'' : tv_AH} (a : cp_lo h h') (b : cp_lo h' h'') : cp_lo h h'' := fun q i z => (b q i z).trans (a q i z)
theorem cp_lo.of {P Q : Nat → Nat → Prop} {h h' : tv_AH} (a : tv_agJ P Q h h') (n : ∀ q i, P q i → q < 400) : cp_lo h h' := fun q i z => a.2.1 q i (fun y => by have := n q i y; omega)
theorem cp_lo.wI {h h' : tv_AH} {q i : Nat} {v : Int32} (a : cp_lo h h') (n : q < 400) : cp_lo h (tv_wI h' q i v) := fun q' i' z => by rw [tv_wIc (by omega)]; exact a q' i' z
theorem cp_lo.wR {h h' : tv_AH} {q i : Nat} {v : Fin 22} (a : cp_lo h h') : cp_lo h (tv_wR h' q i v) := fun q' i' z => a q' i' z
/-- the cells of tree j -/
def ct_rO (j : Fin 22) (q _i : Nat) : Prop := tv_tp j ≤ q ∧ q < tv_tp j + 16
section CPA
variable {ad : Nat → Nat} {d c f w : Nat} {h h' : tv_AH} {S : sp_S} {j j2 : Fin 22} {V : sp_V}
theorem ct_rO_ne (n : j2 ≠ j) {q i : Nat} (r : ct_rO j2 q i) : ¬ ct_rO j q i := by
  have n1 := ct_tp j2
  have n2 := ct_tp j
  have n3 := ct_ne n
  unfold ct_rO at *
  omega
theorem ct_rO_lt {q i : Nat} (r : ct_rO j q i) : 16 ≤ q ∧ q < 400 := by
  have n2 := ct_tp j
  unfold ct_rO at r
  omega
theorem ct_rT_O {q i : Nat} (r : ct_rT j q i) : ct_rO j q i := by unfold ct_rT at r; unfold ct_rO; omega
theorem ct_rE_O {q i : Nat} (r : ct_rE j q i) : ct_rO j q i := by unfold ct_rE at r; unfold ct_rO; omega
theorem ct_rJ_O {q i : Nat} (r : ct_rJ j q i) : ct_rO j q i := by unfold ct_rJ at r; unfold ct_rO; omega
theorem ct_rS_O {q i : Nat} (r : ct_rS j q i) : ct_rO j q i ∨ (q = 0 ∧ i = 5) := by unfold ct_rS ct_rN at r; unfold ct_rO; omega
/-- other trees, and cells that are no tree's -/
theorem ct_V.off {P Q : Nat → Nat → Prop} (x : ct_V f w j2 V h) (a : tv_agJ P Q h h') (nP : ∀ q i, P q i → ¬ ct_rO j2 q i) (nQ : ∀ q i, Q q i → ¬ ct_rO j2 q i) : ct_V f w j2 V h' := x.ag a (fun q i r z => nP q i z (ct_rT_O r)) (fun q i r z => nQ q i z (ct_rJ_O r))
theorem ct_V.cut {P Q : Nat → Nat → Prop} (x : ct_V f w j2 V h) (a : tv_agJ P Q h h') (n : j2 ≠ j) (nP : ∀ q i, P q i → ct_rO j q i ∨ q < 16) (nQ : ∀ q i, Q q i → ct_rO j q i) : ct_V f w j2 V h' := x.off a (fun q i z y => (nP q i z).elim (fun u => ct_rO_ne n y u) (fun u => by have := ct_rO_lt y; omega)) (fun q i z y => ct_rO_ne n y (nQ q i z))
theorem ct_V.lo {q i : Nat} {v : Int32} (x : ct_V f w j2 V h) (n : q < 16) : ct_V f w j2 V (tv_wI h q i v) := x.off (P := fun a _ => a < 16) (Q := fun _ _ => False) (tv_agJ.rf.wI n) (fun a b z y => by have := ct_rO_lt y; omega) (fun a b z => z.elim)
theorem cp_rep.v {v : Nat} (r : cp_rep S h) (hv : v < (ss_vs S).length) : ct_V (ss_f S) (ss_w S) (h.2.2 1 v) (ss_v S v) h := (r.2.2.2.1 v hv).1
theorem ss_ok.v {v : Nat} (ok : ss_ok S c) (hv : v < (ss_vs S).length) : sp_vok (ss_f S) (ss_w S) (ss_md S) (ss_v S v) := ok.2.2.1 v hv
theorem cp_ed.cg {P Q : Nat → Nat → Prop} (k : cp_ed S h) (a : tv_agJ P Q h h') (n9 : ¬ P 0 9) (n10 : ¬ P 0 10) (n11 : ¬ P 0 11) (nP : (ss_ed S).isSome → ∀ q i, P q i → ¬ ct_rO (h.2.2 0 8) q i) (nQ : (ss_ed S).isSome → ∀ q i, Q q i → ¬ ct_rO (h.2.2 0 8) q i) : cp_ed S h' := by
  unfold cp_ed at k ⊢
  cases he : ss_ed S with
  | none =>
    rw [he] at k
    simp only at k ⊢
    rw [a.2.1 _ _ n9]; exact k
  | some t =>
    obtain ⟨V, own, mi⟩ := t
    rw [he] at k nP nQ
    obtain ⟨k1, k2, k3, k4⟩ := k
    refine ⟨by rw [a.2.1 _ _ n9]; exact k1, by rw [a.2.1 _ _ n10]; exact k2, by rw [a.2.1 _ _ n11]; exact k3, ?_⟩
    rw [a.1]
    exact k4.off a (nP rfl) (nQ rfl)
theorem sp_twoV_map {n : Nat} {two : Option Nat} : sp_twoV (ss_v S n) (two.map (ss_v S)) = ss_v S (two.getD n) := by
  cases two with
  | none => rfl
  | some m => rfl
/-- a new version is added -/
theorem cp_add {E' : List (Nat × Nat)} {n : Nat} {two : Option Nat} {h0 : tv_AH} (ok : ss_ok S c) (r : cp_rep S h0) (hv : (ss_vs S).length < 20) (hn : n < (ss_vs S).length) (ht : ∀ m, two = some m → m < (ss_vs S).length) (hb : sp_eb E') (hs : sp_srt (ss_f S) (ss_w S) E') (e : ct_E (ss_f S) (ss_w S) (h0.2.2 1 (ss_vs S).length) E' h) (a0 : tv_ag (ct_rE (h0.2.2 1 (ss_vs S).length)) h0 h) {K : Int32 → tv_AH → Prop} (hK : ∀ h', cp_rep (ss_add S E' (ss_v S n) (two.map (ss_v S))).2 h' → cp_lo h0 h' → K (ss_add S E' (ss_v S n) (two.map (ss_v S))).1 h') : tv_CV ad (d + 19) yX2_shareNodes [.ref (ad 0), .ref (ad (tv_tp (h0.2.2 1 (ss_vs S).length))), .ref (ad (tv_tp (h0.2.2 1 n))), .ref (ad (tv_tp (h0.2.2 1 (two.getD n))))] h (fun h1 => tv_CI ad (d + 19) yX2_addVersion [.ref (ad 0)] h1 (fun r3 h2 => K r3 h2)) := by
  have ok0 := ok
  have r0 := r
  obtain ⟨o1, o2, o3, o4, o5, P, o6, o7⟩ := ok
  obtain ⟨r1, r2, r3, r4, r5, r6, r7⟩ := r
  have hmn : two.getD n < (ss_vs S).length := by
    cases two with
    | none => exact hn
    | some m => exact ht m rfl
  have n1 := cp_vv r3 (show n < 20 by omega) hv (by omega)
  have n2 := cp_vv r3 (show two.getD n < 20 by omega) hv (by omega)
  generalize hj : h0.2.2 1 (ss_vs S).length = j at *
  have a0' : tv_agJ (fun q i => ct_rO j q i ∨ (q = 0 ∧ i = 5)) (ct_rO j) h0 h := a0.J.mo (fun q i z => Or.inl (ct_rE_O z)) (fun q i z => z)
  have cutP : ∀ q i, (ct_rO j q i ∨ (q = 0 ∧ i = 5)) → ct_rO j q i ∨ q < 16 := fun q i z => z.elim Or.inl (fun y => Or.inr (by omega))
  have v1 := ok0.v hn
  have v2 := ok0.v hmn
  refine ct_shareNodes (d := d) (V1 := ss_v S n) (two := two.map (ss_v S)) (md := ss_md S) o1 n1 n2 e hb hs ((r0.v hn).cut a0' n1 cutP (fun q i z => z)) (by rw [sp_twoV_map]; exact (r0.v hmn).cut a0' n2 cutP (fun q i z => z)) v1.1 v1.2.1 v1.2.2.1 (by rw [sp_twoV_map]; exact v2.1) (by rw [sp_twoV_map]; exact v2.2.1) (by rw [sp_twoV_map]; exact v2.2.2.1) (by rw [a0.2 _ _ (fun z => by have := ct_rO_lt (ct_rE_O z); omega)]; exact r6.1) (by omega) (fun h1 x1 m1 l1 a1 => ?_)
  obtain ⟨P', b1, b2, b3, b4, b5⟩ := sp_new_ok (E' := E') (two := two.map (ss_v S)) o1 hb hs v1 (o6 n hn) (fun V z => by
    cases two with
    | none => cases z
    | some m =>
      simp only [Option.map_some, Option.some.injEq] at z
      subst z
      exact ⟨v2, o6 _ hmn⟩)
  have a01 : tv_agJ (fun q i => ct_rO j q i ∨ (q = 0 ∧ i = 5)) (ct_rO j) h0 h1 := a0'.tr (a1.mo (fun q i z => ct_rS_O z) (fun q i z => ct_rJ_O z))
  have e01 : h1.2.2 = h0.2.2 := a01.1
  have kv : ∀ v, v < (ss_vs S).length → ct_V (ss_f S) (ss_w S) (h0.2.2 1 v) (ss_v S v) h1 := fun v hv2 => (r0.v hv2).cut a01 (by rw [← hj]; exact cp_vv r3 (by omega) hv (by omega)) cutP (fun q i z => z)
  have c1 : h1.1 0 1 = nI (ss_vs S).length := by rw [a01.2.1 _ _ (fun z => z.elim (fun y => by have := ct_rO_lt y; omega) (fun y => by omega))]; exact r2
  refine ct_addVersion (d := d + 15) (f := ss_f S) (w := ss_w S) (vs := ss_vs S) (V := (E', (sp_new (ss_f S) (ss_w S) E' (ss_v S n) (two.map (ss_v S)) (ss_md S)).1)) (md := (sp_new (ss_f S) (ss_w S) E' (ss_v S n) (two.map (ss_v S)) (ss_md S)).2) (P := P') o1 c1 hv (fun v hv2 => by rw [e01]; exact kv v hv2) (fun v hv2 => ⟨(o3 v hv2).mo b2, (o6 v hv2).cg (o3 v hv2) b1⟩) (by rw [e01, hj]; exact x1) b4 b5 (by omega) (fun h2 c2 w2 a2 => ?_)
  rw [e01, hj] at a2
  rw [e01, hj] at w2
  have a02 : tv_agJ (fun q i => ct_rO j q i ∨ (q = 0 ∧ (i = 5 ∨ i = 1))) (ct_rO j) h0 h2 := (a01.mo (fun q i z => z.elim Or.inl (fun y => Or.inr ⟨y.1, Or.inl y.2⟩)) (fun q i z => z)).tr (a2.J.mo (fun q i z => z.elim (fun y => Or.inl (by unfold ct_rO; omega)) (fun y => Or.inr ⟨y.1, Or.inr y.2⟩)) (fun q i z => z))
  have cutP2 : ∀ q i, (ct_rO j q i ∨ (q = 0 ∧ (i = 5 ∨ i = 1))) → ct_rO j q i ∨ q < 16 := fun q i z => z.elim Or.inl (fun y => Or.inr (by omega))
  have e02 : h2.2.2 = h0.2.2 := a02.1
  have no : ∀ q i, q < 16 → ¬ (q = 0 ∧ (i = 5 ∨ i = 1)) → ¬ (ct_rO j q i ∨ (q = 0 ∧ (i = 5 ∨ i = 1))) := fun q i z1 z2 z => z.elim (fun y => by have := ct_rO_lt y; omega) z2
  have x2 : ct_V (ss_f S) (ss_w S) j (E', (sp_new (ss_f S) (ss_w S) E' (ss_v S n) (two.map (ss_v S)) (ss_md S)).1) h2 := by
    have nj := ct_tp j
    exact x1.cg (fun q t y => a2.2 q t (fun z => by unfold ct_rT at y; omega)) (fun q t y => by rw [a2.1])
  refine hK h2 ⟨⟨?_, ?_⟩, ?_, r3.cg e02, ?_, ⟨?_, fun i hi => ?_⟩, ⟨?_, ?_, ?_⟩, ?_⟩ (cp_lo.of a02 (fun q i z => z.elim (fun y => (ct_rO_lt y).2) (fun y => by omega)))
  · rw [a02.2.1 _ _ (no _ _ (by omega) (by omega))]; exact r1.1
  · rw [a02.2.1 _ _ (no _ _ (by omega) (by omega))]; exact r1.2
  · show h2.1 0 1 = nI (ss_vs S ++ [_]).length
    rw [List.length_append, List.length_singleton]
    exact c2
  · intro v hv2
    change v < (ss_vs S ++ [_]).length at hv2
    rw [List.length_append, List.length_singleton] at hv2
    show ct_V (ss_f S) (ss_w S) (h2.2.2 1 v) ((ss_vs S ++ [_]).getD v ([], [])) h2 ∧ h2.1 (tv_tp (h2.2.2 1 v)) 14 = nI (sp_nw (ss_vs S ++ [_]) v)
    rw [ss_v_add, e02]
    by_cases z : v < (ss_vs S).length
    · rw [if_pos z, sp_nw_app' z]
      have nv : h0.2.2 1 v ≠ j := by rw [← hj]; exact cp_vv r3 (by omega) hv (by omega)
      refine ⟨(r0.v z).cut a02 nv cutP2 (fun q i z => z), ?_⟩
      rw [a02.2.1 _ _ (fun y => y.elim (fun u => ct_rO_ne nv (show ct_rO (h0.2.2 1 v) (tv_tp (h0.2.2 1 v)) 14 by unfold ct_rO; omega) u) (fun u => by have := ct_tp (h0.2.2 1 v); omega))]
      exact (r4 v z).2
    · have : v = (ss_vs S).length := by omega
      subst this
      rw [if_neg z, if_pos rfl, hj]
      exact ⟨x2, w2⟩
  · rw [a02.2.1 _ _ (no _ _ (by omega) (by omega))]; exact r5.1
  · rw [a02.2.1 _ _ (no _ _ (by omega) (by omega))]; exact r5.2 i hi
  · rw [a2.2 _ _ (by have := ct_tp j; omega)]; exact m1
  · rw [a02.2.1 _ _ (no _ _ (by omega) (by omega))]; exact r6.2.1
  · rw [a02.2.1 _ _ (no _ _ (by omega) (by omega))]; exact r6.2.2
  · have nd : h0.2.2 0 8 ≠ j := by rw [← hj]; exact fun z => cp_vd r3 hv z.symm
    exact r7.cg a02 (no _ _ (by omega) (by omega)) (no _ _ (by omega) (by omega)) (no _ _ (by omega) (by omega)) (fun _ q i z y => (cutP2 q i z).elim (fun u => ct_rO_ne nd y u) (fun u => by have := ct_rO_lt y; omega)) (fun _ q i z y => ct_rO_ne nd y z)
end CPA
