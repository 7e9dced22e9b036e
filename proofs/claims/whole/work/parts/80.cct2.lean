/-! THE COMPONENT'S CALLS: the page, hashes, the edit -/
theorem sp_rg_t {x : Int32} {b : Nat} (k : Nat) (hk : k ≤ b) (hb : b < 2 ^ 31) (h : x.toInt = (k : Int)) : x = nI k ∧ sp_rg x b = some k := by
  have e : x = nI k := Int32.toInt_inj.mp (by rw [nI_toInt (by omega)]; exact h)
  exact ⟨e, by rw [e]; exact sp_rg_in hk hb⟩
theorem sp_rg_o {x : Int32} {b : Nat} (hb : b < 2 ^ 31) (h : x.toInt < 0 ∨ ((b + 1 : Nat) : Int) ≤ x.toInt) : sp_rg x b = none := by
  refine sp_rg_no (fun p => ?_)
  have p1 := Int32.le_iff_toInt_le.mp p.1
  have p2 := Int32.le_iff_toInt_le.mp p.2
  rw [nI_toInt hb] at p2
  have : (0 : Int32).toInt = 0 := by decide
  omega
theorem cp_inj.sw {h h' : tv_AH} (r : cp_inj h) {x y : Nat} (hx : x < 22) (hy : y < 22) (e : ∀ a, a < 22 → cp_rf h' a = cp_rf h (if a = x then y else if a = y then x else a)) : cp_inj h' := by
  intro a b ha hb z
  rw [e a ha, e b hb] at z
  have l : ∀ t, t < 22 → (if t = x then y else if t = y then x else t) < 22 := fun t ht => by
    split
    · exact hy
    · split
      · exact hx
      · exact ht
  have := r _ _ (l a ha) (l b hb) z
  split at this <;> split at this <;> (try split at this) <;> (try split at this) <;> omega
section CCB
variable {ad : Nat → Nat} {d c : Nat} {h h' : tv_AH} {S : sp_S} {P : Nat → Nat → Prop}
theorem cp_vp_low (r : cp_rep S h) (a : tv_ag P h h') (nP : ∀ q i, P q i → q < 16) : ∀ v, v < (ss_vs S).length → ct_V (ss_f S) (ss_w S) (h'.2.2 1 v) (ss_v S v) h' ∧ h'.1 (tv_tp (h'.2.2 1 v)) 14 = nI (sp_nw (ss_vs S) v) := by
  intro v hv
  have e : h'.2.2 = h.2.2 := by rw [a.1]
  rw [e]
  refine ⟨(r.v hv).off (a.J (Q := fun _ _ => False)) (fun q i z y => by have := nP q i z; have := ct_rO_lt y; omega) (fun q i z => z.elim), ?_⟩
  rw [a.2 _ _ (fun z => by have := nP _ _ z; have := ct_tp (h.2.2 1 v); omega)]
  exact (r.2.2.2.1 v hv).2
theorem cp_ed_low (k : cp_ed S h) (a : tv_ag P h h') (nP : ∀ q i, P q i → q < 16) (n9 : ¬ P 0 9) (n10 : ¬ P 0 10) (n11 : ¬ P 0 11) : cp_ed S h' := k.cg (a.J (Q := fun _ _ => False)) n9 n10 n11 (fun _ q i z y => by have := nP q i z; have := ct_rO_lt y; omega) (fun _ q i z => z.elim)
theorem cp_lo_low (a : tv_ag P h h') (nP : ∀ q i, P q i → q < 16) : cp_lo h h' := fun q i z => a.2 q i (fun y => by have := nP q i y; omega)
/-- cells of the page that no call reads before it writes them -/
theorem cp_rep.rP (r : cp_rep S h) (a : tv_ag ct_rP h h') : cp_rep S h' := by
  have nP : ∀ q i, ct_rP q i → q < 16 := fun q i z => by unfold ct_rP at z; omega
  have no : ∀ i, ¬ ct_rP 0 i := fun i z => by unfold ct_rP at z; omega
  obtain ⟨r1, r2, r3, r4, r5, r6, r7⟩ := id r
  exact ⟨⟨by rw [a.2 _ _ (no _)]; exact r1.1, by rw [a.2 _ _ (no _)]; exact r1.2⟩, by rw [a.2 _ _ (no _)]; exact r2, r3.cg (by rw [a.1]), cp_vp_low r a nP, r5.ag a (by unfold ct_rP; omega) (fun i => by unfold ct_rP; omega), ⟨by rw [a.2 _ _ (no _)]; exact r6.1, by rw [a.2 _ _ (no _)]; exact r6.2.1, by rw [a.2 _ _ (no _)]; exact r6.2.2⟩, cp_ed_low r7 a nP (no _) (no _) (no _)⟩
theorem cc_letter {x : Int32} (ok : ss_ok S c) (r : cp_rep S h) {K : Int32 → tv_AH → Prop} (hK : ∀ h', cp_rep (ss_letter S x).2 h' → cp_lo h h' → K (ss_letter S x).1 h') : tv_CI ad (d + 1) yX2_letter [.ref (ad 0), .int x] h K := by
  obtain ⟨o1, o2, o3, o4, o5, o6⟩ := ok
  obtain ⟨r1, r2, r3, r4, r5, r6, r7⟩ := id r
  refine nX2_letter _ h ?_
  cases hx : sp_rg x 126 with
  | none =>
    have e : ss_letter S x = (-102, S) := by unfold ss_letter; simp only [hx]
    rw [e] at hK
    have k0 := hK h r cp_lo.rf
    refine ⟨fun _ => k0, fun z => ⟨fun z2 => ?_, fun _ => k0⟩⟩
    exact absurd ⟨Int32.le_trans (by decide) (Int32.not_lt.mp z), z2⟩ (sp_rg_none hx)
  | some k =>
    obtain ⟨k1, k2⟩ := sp_rg_some (by omega) hx
    subst k2
    by_cases k3 : k < 32
    · have e : ss_letter S (nI k) = (-102, S) := by unfold ss_letter; simp only [hx]; rw [if_pos k3]
      rw [e] at hK
      exact ⟨fun _ => hK h r cp_lo.rf, fun z => absurd (nI_lt k3 (by omega)) z⟩
    · refine ⟨fun z => absurd ((nI_ltI (b := 32) (by omega) (by omega)).mp z) k3, fun _ => ⟨fun _ => ?_, fun z => absurd (nI_le k1 (by omega)) z⟩⟩
      rw [r5.1]
      refine pk_lt (ss_pg S).length 60 (fun q => ?_) (fun q => ?_)
      · have e : ss_letter S (nI k) = (nI ((ss_pg S).length + 1), (S.1, ss_vs S, ss_pg S ++ [k], S.2.2.2.1, ss_ed S)) := by unfold ss_letter; simp only [hx]; rw [if_neg k3, if_neg (by omega)]
        rw [e] at hK
        refine ⟨pk_in _ 60 q, fun h1 w1 h2 w2 => ?_⟩
        rw [tv_nc (ss_pg S).length] at w1
        have e1 : h1.1 2 1 = nI (ss_pg S).length := by rw [w1, tv_wIc (by omega)]; exact r5.1
        rw [e1, nI_1] at w2
        have e2 : h2.1 2 1 = nI ((ss_pg S).length + 1) := by rw [w2, tv_wIe]
        rw [e2]
        have a : tv_ag (fun q i => (q = 3 ∧ i = (ss_pg S).length) ∨ (q = 2 ∧ i = 1)) h h2 := by
          rw [w2, w1]
          exact (tv_ag.rf.wI (Or.inl ⟨rfl, rfl⟩)).wI (Or.inr ⟨rfl, rfl⟩)
        have nP : ∀ q i, ((q = 3 ∧ i = (ss_pg S).length) ∨ (q = 2 ∧ i = 1)) → q < 16 := fun q i z => by omega
        have kv := cp_vp_low r a nP
        have ke := cp_ed_low r7 a nP (by omega) (by omega) (by omega)
        refine hK h2 ⟨⟨by rw [a.2 _ _ (by omega)]; exact r1.1, by rw [a.2 _ _ (by omega)]; exact r1.2⟩, by rw [a.2 _ _ (by omega)]; exact r2, r3.cg (by rw [a.1]), kv, ⟨?_, fun i hi => ?_⟩, ⟨by rw [a.2 _ _ (by omega)]; exact r6.1, by rw [a.2 _ _ (by omega)]; exact r6.2.1, by rw [a.2 _ _ (by omega)]; exact r6.2.2⟩, ke⟩ (cp_lo_low a nP)
        · show h2.1 2 1 = nI (ss_pg S ++ [k]).length
          rw [List.length_append, List.length_singleton]; exact e2
        · change i < (ss_pg S ++ [k]).length at hi
          rw [List.length_append, List.length_singleton] at hi
          show h2.1 3 i = nI ((ss_pg S ++ [k]).getD i 0)
          have eg : (ss_pg S ++ [k]).getD i 0 = if i < (ss_pg S).length then (ss_pg S).getD i 0 else k := by
            simp only [List.getD_eq_getElem?_getD, List.getElem?_append]
            by_cases z : i < (ss_pg S).length
            · simp [z]
            · have : i = (ss_pg S).length := by omega
              subst this
              simp
          rw [eg]
          by_cases z : i < (ss_pg S).length
          · rw [if_pos z, a.2 _ _ (by omega)]; exact r5.2 i z
          · have : i = (ss_pg S).length := by omega
            subst this
            rw [if_neg z, w2, tv_wIc (by omega), w1, tv_wIe]
      · have e : ss_letter S (nI k) = (-104, S) := by unfold ss_letter; simp only [hx]; rw [if_neg k3, if_pos (by omega)]
        rw [e] at hK
        exact hK h r cp_lo.rf
theorem cc_blank (r : cp_rep S h) {K : Int32 → tv_AH → Prop} (hK : ∀ h', cp_rep (ss_blank S).2 h' → cp_lo h h' → K (ss_blank S).1 h') : tv_CI ad (d + 1) yX2_blank [.ref (ad 0)] h K := by
  obtain ⟨r1, r2, r3, r4, r5, r6, r7⟩ := id r
  refine nX2_blank h (fun h1 w1 => ?_)
  rw [r5.1]
  have a : tv_ag (fun q i => q = 2 ∧ i = 1) h h1 := by rw [w1]; exact tv_ag.rf.wI ⟨rfl, rfl⟩
  have nP : ∀ q i, (q = 2 ∧ i = 1) → q < 16 := fun q i z => by omega
  have kv := cp_vp_low r a nP
  have ke := cp_ed_low r7 a nP (by omega) (by omega) (by omega)
  exact hK h1 ⟨⟨by rw [a.2 _ _ (by omega)]; exact r1.1, by rw [a.2 _ _ (by omega)]; exact r1.2⟩, by rw [a.2 _ _ (by omega)]; exact r2, r3.cg (by rw [a.1]), kv, ⟨by rw [w1, tv_wIe]; rfl, fun i hi => absurd hi (Nat.not_lt_zero i)⟩, ⟨by rw [a.2 _ _ (by omega)]; exact r6.1, by rw [a.2 _ _ (by omega)]; exact r6.2.1, by rw [a.2 _ _ (by omega)]; exact r6.2.2⟩, ke⟩ (cp_lo_low a nP)
theorem cc_fault (ok : ss_ok S c) (r : cp_rep S h) {K : Int32 → tv_AH → Prop} (hK : ∀ h', cp_rep (ss_fault S).2 h' → cp_lo h h' → K (ss_fault S).1 h') : tv_CI ad (d + 3) yX2_fault [.ref (ad 0)] h K := by
  refine nX2_fault h (ct_scan (d := d) ok.2.2.2.1.1 ok.2.2.2.1.2 r.2.2.2.2.1 (fun h1 m1 a1 => ?_))
  exact hK h1 (r.rP a1) (cp_lo_low a1 (fun q i z => by unfold ct_rP at z; omega))
theorem cc_hash {x : Int32} (ok : ss_ok S c) (r : cp_rep S h) {K : Int32 → tv_AH → Prop} (hK : ∀ h', cp_rep (ss_hash S x).2 h' → cp_lo h h' → K (ss_hash S x).1 h') : tv_CI ad (d + 2) yX2_hash [.ref (ad 0), .int x] h K := by
  refine nX2_hash _ h (ct_isKey (fun k hk ek evk => tv_c1 ?_) (fun evk => tv_c0 ?_))
  · have e : ss_hash S x = (nI (sp_hash (ss_f S) (ss_w S) k), S) := by unfold ss_hash; simp only [evk]
    rw [e] at hK
    subst ek
    exact ct_hashOf (r.sc ok) (by omega) (hK h r cp_lo.rf)
  · have e : ss_hash S x = (-102, S) := by unfold ss_hash; simp only [evk]
    rw [e] at hK
    exact hK h r cp_lo.rf
theorem ct_V0 {f w f' w' : Nat} {j : Fin 22} (x : ct_V f w j ([], []) h) : ct_V f' w' j ([], []) h := by
  have e : ∀ f w, sp_N f w [] = [] := fun f w => sp_lay_nil (Nat.le_refl _)
  refine ⟨⟨x.1.1, fun i hi => absurd hi (Nat.not_lt_zero i)⟩, ⟨?_, fun i hi => ?_, fun t ht => absurd ht (Nat.not_lt_zero t)⟩, fun i hi => absurd hi (Nat.not_lt_zero i)⟩
  · have := x.2.1.1
    rw [e] at this ⊢
    exact this
  · rw [e] at hi
    exact absurd hi (Nat.not_lt_zero i)
theorem cc_scheme {x y : Int32} (ok : ss_ok S c) (r : cp_rep S h) {K : Int32 → tv_AH → Prop} (hK : ∀ h', cp_rep (ss_scheme S x y).2 h' → cp_lo h h' → K (ss_scheme S x y).1 h') : tv_CI ad (d + 1) yX2_scheme [.ref (ad 0), .int x, .int y] h K := by
  obtain ⟨o1, o2, o3, o4, o5, o6⟩ := ok
  obtain ⟨r1, r2, r3, r4, r5, r6, r7⟩ := id r
  refine nX2_scheme _ _ h ?_
  have out : ss_scheme S x y = (-102, S) → K (-102) h := fun e => by
    rw [e] at hK
    exact hK h r cp_lo.rf
  refine ⟨fun z => out ?_, fun z => ⟨fun z2 => out ?_, fun z2 => ?_⟩⟩
  · unfold ss_scheme
    cases hx : sp_rg x 65535 with
    | none => rfl
    | some f =>
      obtain ⟨k1, k2⟩ := sp_rg_some (by omega) hx
      subst k2
      have f0 : f = 0 := by
        have := (nI_ltI (b := 1) (by omega) (by omega)).mp z
        omega
      simp only
      rw [if_pos (by rw [f0])]
  · unfold ss_scheme
    rw [sp_rg_no (fun p => absurd p.2 (Int32.not_le.mpr z2))]
  · obtain ⟨f, f1, f2, f3⟩ := sp_rg_ex (x := x) (b := 65535) (by omega) (fun q => z (Int32.lt_trans q (by decide))) (Int32.not_lt.mp z2)
    subst f2
    rw [show nI f &&& 1 = nI (f % 2) from pk_andN (by omega) 1 (by decide)]
    have hm2 : f % 2 < 2 := Nat.mod_lt _ (by omega)
    refine tv_ne (f % 2) 0 (fun q => ?_) (fun q => out ?_)
    · refine ⟨fun z => out ?_, fun z => ⟨fun z2 => ?_, fun z2 => out ?_⟩⟩
      · unfold ss_scheme
        simp only [f3]
        rw [if_neg q]
        cases hy : sp_rg y 30 with
        | none => rfl
        | some w =>
          obtain ⟨k1, k2⟩ := sp_rg_some (by omega) hy
          subst k2
          have := (nI_ltI (b := 3) (by omega) (by omega)).mp z
          simp only
          rw [if_pos this]
      · obtain ⟨w, w1, w2, w3⟩ := sp_rg_ex (x := y) (b := 30) (by omega) (fun q => z (Int32.lt_trans q (by decide))) z2
        subst w2
        have hw : ¬ w < 3 := fun q => z (nI_lt (b := 3) q (by omega))
        have e : ss_scheme S (nI f) (nI w) = (nI ((ss_vs S).length - 1), ((f, w), (ss_vs S).take 1, ss_pg S, S.2.2.2.1, none)) := by
          unfold ss_scheme
          simp only [f3, w3]
          rw [if_neg q, if_neg hw]
        rw [e] at hK
        intro h1 e1 h2 e2 h3 e3 h4 e4
        have x2 : h2.1 0 1 = nI (ss_vs S).length := by rw [e2, tv_wIc (by omega), e1, tv_wIc (by omega)]; exact r2
        rw [x2, show (1 : Int32) = nI 1 from rfl, pk_sub o2.1]
        have a : tv_ag (fun q i => q = 0 ∧ (i = 3 ∨ i = 4 ∨ i = 1 ∨ i = 9)) h h4 := by
          rw [e4, e3, e2, e1]
          exact (((tv_ag.rf.wI ⟨rfl, Or.inl rfl⟩).wI ⟨rfl, Or.inr (Or.inl rfl)⟩).wI ⟨rfl, Or.inr (Or.inr (Or.inl rfl))⟩).wI ⟨rfl, Or.inr (Or.inr (Or.inr rfl))⟩
        have nP : ∀ q i, (q = 0 ∧ (i = 3 ∨ i = 4 ∨ i = 1 ∨ i = 9)) → q < 16 := fun q i z => by omega
        have l1 : ((ss_vs S).take 1).length = 1 := by rw [List.length_take]; omega
        refine hK h4 ⟨⟨?_, ?_⟩, ?_, r3.cg (by rw [a.1]), fun v hv => ?_, r5.ag a (by omega) (fun i => by omega), ⟨by rw [a.2 _ _ (by omega)]; exact r6.1, by rw [a.2 _ _ (by omega)]; exact r6.2.1, by rw [a.2 _ _ (by omega)]; exact r6.2.2⟩, ?_⟩ (cp_lo_low a nP)
        · rw [e4, tv_wIc (by omega), e3, tv_wIc (by omega), e2, tv_wIc (by omega), e1, tv_wIe]
        · rw [e4, tv_wIc (by omega), e3, tv_wIc (by omega), e2, tv_wIe]
        · show h4.1 0 1 = nI ((ss_vs S).take 1).length
          rw [l1, e4, tv_wIc (by omega), e3, tv_wIe]
          rfl
        · change v < ((ss_vs S).take 1).length at hv
          rw [l1] at hv
          have v0 : v = 0 := by omega
          subst v0
          have k0 := cp_vp_low r a nP 0 (by omega)
          rw [o2.2.2] at k0
          show ct_V f w (h4.2.2 1 0) (((ss_vs S).take 1).getD 0 ([], [])) h4 ∧ h4.1 (tv_tp (h4.2.2 1 0)) 14 = nI (sp_nw ((ss_vs S).take 1) 0)
          have e0 : ((ss_vs S).take 1).getD 0 ([], []) = ss_v S 0 := by
            unfold ss_v
            simp only [List.getD_eq_getElem?_getD, List.getElem?_take]
            rw [if_pos (by omega)]
          rw [e0, o2.2.2, sp_nw_take (by omega)]
          exact ⟨ct_V0 k0.1, k0.2⟩
        · show h4.1 0 9 = 0
          rw [e4, tv_wIe]
      · unfold ss_scheme
        simp only [f3]
        rw [if_neg q, sp_rg_no (fun p => z2 p.2)]
    · unfold ss_scheme
      simp only [f3]
      rw [if_pos q]
theorem cc_forget (ok : ss_ok S c) (r : cp_rep S h) {K : Int32 → tv_AH → Prop} (hK : ∀ h', cp_rep (ss_forget S).2 h' → cp_lo h h' → K (ss_forget S).1 h') : tv_CI ad (d + 1) yX2_forget [.ref (ad 0)] h K := by
  obtain ⟨o1, o2, o3, o4, o5, o6⟩ := ok
  obtain ⟨r1, r2, r3, r4, r5, r6, r7⟩ := id r
  refine nX2_forget h ?_
  rw [r2]
  unfold ss_forget at hK
  refine pk_lt 1 (ss_vs S).length (fun q h1 w1 => ?_) (fun q => ?_)
  · rw [if_neg (by omega)] at hK
    rw [show (1 : Int32) = nI 1 from rfl, pk_sub o2.1] at w1
    have e1 : h1.1 0 1 = nI ((ss_vs S).length - 1) := by rw [w1, tv_wIe]
    rw [e1]
    have a : tv_ag (fun q i => q = 0 ∧ i = 1) h h1 := by rw [w1]; exact tv_ag.rf.wI ⟨rfl, rfl⟩
    have nP : ∀ q i, (q = 0 ∧ i = 1) → q < 16 := fun q i z => by omega
    have l1 : ((ss_vs S).take ((ss_vs S).length - 1)).length = (ss_vs S).length - 1 := by rw [List.length_take]; omega
    have ke := cp_ed_low r7 a nP (by omega) (by omega) (by omega)
    refine hK h1 ⟨⟨by rw [a.2 _ _ (by omega)]; exact r1.1, by rw [a.2 _ _ (by omega)]; exact r1.2⟩, ?_, r3.cg (by rw [a.1]), fun v hv => ?_, r5.ag a (by omega) (fun i => by omega), ⟨by rw [a.2 _ _ (by omega)]; exact r6.1, by rw [a.2 _ _ (by omega)]; exact r6.2.1, by rw [a.2 _ _ (by omega)]; exact r6.2.2⟩, ke⟩ (cp_lo_low a nP)
    · show h1.1 0 1 = nI ((ss_vs S).take ((ss_vs S).length - 1)).length
      rw [l1]; exact e1
    · change v < ((ss_vs S).take ((ss_vs S).length - 1)).length at hv
      rw [l1] at hv
      have k0 := cp_vp_low r a nP v (by omega)
      show ct_V (ss_f S) (ss_w S) (h1.2.2 1 v) (((ss_vs S).take ((ss_vs S).length - 1)).getD v ([], [])) h1 ∧ h1.1 (tv_tp (h1.2.2 1 v)) 14 = nI (sp_nw ((ss_vs S).take ((ss_vs S).length - 1)) v)
      have e0 : ((ss_vs S).take ((ss_vs S).length - 1)).getD v ([], []) = ss_v S v := by
        unfold ss_v
        simp only [List.getD_eq_getElem?_getD, List.getElem?_take]
        rw [if_pos (by omega)]
      rw [e0, sp_nw_take hv]
      exact k0
  · rw [if_pos (by omega)] at hK
    exact hK h r cp_lo.rf
end CCB
