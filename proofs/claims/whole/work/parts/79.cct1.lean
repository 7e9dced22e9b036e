/-! THE COMPONENT'S CALLS: put, remove, both, chosen -/
section CCA
variable {ad : Nat → Nat} {d c : Nat} {h : tv_AH} {S : sp_S}
theorem cp_rep.sc (r : cp_rep S h) (ok : ss_ok S c) : ct_sc (ss_f S) (ss_w S) h := ⟨r.1.1, r.1.2, ok.1⟩
theorem ct_sc.rE {f w : Nat} {j : Fin 22} {h' : tv_AH} (s : ct_sc f w h) (a : tv_ag (ct_rE j) h h') : ct_sc f w h' := by
  have no : ∀ i, ¬ ct_rE j 0 i := fun i z => by have := ct_rO_lt (ct_rE_O z); omega
  exact ⟨by rw [a.2 _ _ (no 3)]; exact s.1, by rw [a.2 _ _ (no 4)]; exact s.2.1, s.2.2⟩
theorem cc_put {v x y : Int32} (ok : ss_ok S c) (r : cp_rep S h) {K : Int32 → tv_AH → Prop} (hK : ∀ h', cp_rep (ss_put S v x y).2 h' → cp_lo h h' → K (ss_put S v x y).1 h') : tv_CI ad (d + 20) yX2_put [.ref (ad 0), .int v, .int x, .int y] h K := by
  have r0 := r
  have ok0 := ok
  obtain ⟨o1, o2, o3, o4, o5, o6⟩ := ok
  obtain ⟨r1, r2, r3, r4, r5, r6⟩ := r
  refine nX2_put _ _ _ h (ct_isVersion (d := d + 18) (S := S) r2 ⟨o2.1, o2.2.1⟩ (fun n hn en ev => tv_b1 ?_) (fun ev => tv_b0 ?_))
  · refine ct_isKey (fun k hk ek evk => tv_c1 ?_) (fun evk => tv_c0 ?_)
    · refine ct_isValue (fun u hu eu evu => tv_b1 ?_) (fun evu => tv_b0 ?_)
      · have e : ss_put S v x y = if (ss_vs S).length = 20 ∨ ((ss_v S n).1.length = 24 ∧ sp_fi (ss_v S n).1 k = none) then (-104, S) else ss_add S (sp_give (ss_ord S) (ss_v S n).1 k u) (ss_v S n) none := by
          unfold ss_put
          simp only [ev, evk, evu]
        rw [e] at hK
        subst en ek eu
        have kn := r0.v hn
        have vn := ok0.v hn
        rw [tv_nc n]
        refine ⟨pk_in n 20 (by omega), ct_isFull r2 o2.2.1 (fun z => tv_b1 ?_) (fun z => tv_b0 ?_)⟩
        · rw [if_pos (Or.inl z)] at hK
          exact hK h r0 cp_lo.rf
        · refine ct_hasRoomFor (d := d + 17) kn.1 vn.1 (by omega) (fun hr => tv_b1 ?_) (fun z1 z2 => tv_b0 ?_)
          · rw [if_neg (fun y => by
              rcases y with y | y
              · exact z y
              · have := hr y.2; omega)] at hK
            have hv : (ss_vs S).length < 20 := by omega
            rw [r2, tv_nc (ss_vs S).length]
            refine ⟨pk_in _ 20 hv, ?_⟩
            have nn := cp_vv r3 (show n < 20 by omega) hv (by omega)
            refine ct_copyEntries (d := d + 18) nn kn.1 vn.1.1 (fun h6 e6 a6 => ct_rankOf (d := d + 17) ((r0.sc ok0).rE a6) (by omega) (ct_give (d := d + 16) e6 vn.1 (by omega) rfl hr (fun h8 e8 a8 => ?_)))
            exact cp_add (two := none) ok0 r0 hv hn (fun m z => absurd z (by simp)) (sp_eb_give vn.1 (by omega) (by omega) hr) (sp_srt_give vn.1 vn.2.1 (by omega)) e8 (a6.tr a8) hK
          · rw [if_pos (Or.inr ⟨z1, z2⟩)] at hK
            exact hK h r0 cp_lo.rf
      · have e : ss_put S v x y = (-102, S) := by unfold ss_put; simp only [ev, evk, evu]
        rw [e] at hK
        exact hK h r0 cp_lo.rf
    · have e : ss_put S v x y = (-102, S) := by unfold ss_put; simp only [ev, evk]
      rw [e] at hK
      exact hK h r0 cp_lo.rf
  · have e : ss_put S v x y = (-101, S) := by unfold ss_put; simp only [ev]
    rw [e] at hK
    exact hK h r0 cp_lo.rf
theorem cc_remove {v x : Int32} (ok : ss_ok S c) (r : cp_rep S h) {K : Int32 → tv_AH → Prop} (hK : ∀ h', cp_rep (ss_remove S v x).2 h' → cp_lo h h' → K (ss_remove S v x).1 h') : tv_CI ad (d + 20) yX2_remove [.ref (ad 0), .int v, .int x] h K := by
  have r0 := r
  have ok0 := ok
  obtain ⟨o1, o2, o3, o4, o5, o6⟩ := ok
  obtain ⟨r1, r2, r3, r4, r5, r6⟩ := r
  refine nX2_remove _ _ h (ct_isVersion (d := d + 18) (S := S) r2 ⟨o2.1, o2.2.1⟩ (fun n hn en ev => tv_b1 ?_) (fun ev => tv_b0 ?_))
  · refine ct_isKey (fun k hk ek evk => tv_b1 ?_) (fun evk => tv_b0 ?_)
    · have e : ss_remove S v x = if (ss_vs S).length = 20 then (-104, S) else ss_add S (sp_del (ss_v S n).1 k) (ss_v S n) none := by
        unfold ss_remove
        simp only [ev, evk]
      rw [e] at hK
      subst en ek
      have kn := r0.v hn
      have vn := ok0.v hn
      rw [tv_nc n]
      refine ct_isFull r2 o2.2.1 (fun z => tv_c1 ?_) (fun z => tv_c0 ?_)
      · rw [if_pos z] at hK
        exact hK h r0 cp_lo.rf
      · rw [if_neg z] at hK
        have hv : (ss_vs S).length < 20 := by omega
        rw [r2, tv_nc (ss_vs S).length]
        refine ⟨pk_in n 20 (by omega), pk_in _ 20 hv, ?_⟩
        have nn := cp_vv r3 (show n < 20 by omega) hv (by omega)
        refine ct_copyEntries (d := d + 18) nn kn.1 vn.1.1 (fun h6 e6 a6 => ct_drop (d := d + 17) e6 vn.1 (by omega) (fun h8 e8 a8 => ?_))
        exact cp_add (two := none) ok0 r0 hv hn (fun m z => absurd z (by simp)) (sp_eb_del vn.1) (sp_srt_del vn.2.1) e8 (a6.tr a8) hK
    · have e : ss_remove S v x = (-102, S) := by unfold ss_remove; simp only [ev, evk]
      rw [e] at hK
      exact hK h r0 cp_lo.rf
  · have e : ss_remove S v x = (-101, S) := by unfold ss_remove; simp only [ev]
    rw [e] at hK
    exact hK h r0 cp_lo.rf
theorem cc_chosen {v x y : Int32} (ok : ss_ok S c) (r : cp_rep S h) {K : Int32 → tv_AH → Prop} (hK : ∀ h', cp_rep (ss_chosen S v x y).2 h' → cp_lo h h' → K (ss_chosen S v x y).1 h') : tv_CI ad (d + 20) yX2_chosen [.ref (ad 0), .int v, .int x, .int y] h K := by
  have r0 := r
  have ok0 := ok
  obtain ⟨o1, o2, o3, o4, o5, o6⟩ := ok
  obtain ⟨r1, r2, r3, r4, r5, r6⟩ := r
  refine nX2_chosen _ _ _ h (ct_isVersion (d := d + 18) (S := S) r2 ⟨o2.1, o2.2.1⟩ (fun n hn en ev => tv_b1 ?_) (fun ev => tv_b0 ?_))
  · have out : sp_rg x 999 = none → K (-102) h := fun z => by
      have e : ss_chosen S v x y = (-102, S) := by unfold ss_chosen; simp only [ev, z]
      rw [e] at hK
      exact hK h r0 cp_lo.rf
    refine ⟨fun z => ?_, fun z => ⟨fun z2 => ?_, fun z2 => ?_⟩⟩
    · cases hx : sp_rg x 999 with
      | none => exact out hx
      | some b =>
        obtain ⟨b1, b2⟩ := sp_rg_some (by omega) hx
        subst b2
        have b0 : b = 0 := by
          have := (nI_ltI (b := 1) (by omega) (by omega)).mp z
          omega
        have e : ss_chosen S v (nI b) y = (-102, S) := by unfold ss_chosen; simp only [ev, hx]; rw [if_pos b0]
        rw [e] at hK
        exact hK h r0 cp_lo.rf
    · refine out (sp_rg_no (fun q => ?_))
      have := q.2
      exact absurd this (Int32.not_le.mpr z2)
    · obtain ⟨b, b1, b2, b3⟩ := sp_rg_ex (x := x) (b := 999) (by omega) (fun q => z (Int32.lt_trans q (by decide))) (Int32.not_lt.mp z2)
      subst b2
      have b0 : b ≠ 0 := fun q => z (by rw [q]; decide)
      have out2 : sp_rg y (b - 1) = none → K (-102) h := fun q => by
        have e : ss_chosen S v (nI b) y = (-102, S) := by unfold ss_chosen; simp only [ev, b3, b0, if_false, q]
        rw [e] at hK
        exact hK h r0 cp_lo.rf
      refine ⟨fun q => out2 (sp_rg_no (fun p => absurd q (Int32.not_lt.mpr p.1))), fun q => ⟨fun q2 => ?_, fun q2 => ?_⟩⟩
      · obtain ⟨u, u1, u2⟩ := nI_of q
        subst u2
        have ub : u < b := (nI_ltI u1 (by omega)).mp q2
        have hu : sp_rg (nI u) (b - 1) = some u := sp_rg_in (by omega) (by omega)
        have e : ss_chosen S v (nI b) (nI u) = if (ss_vs S).length = 20 then (-104, S) else ss_add S ((ss_v S n).1.filter (fun e => e.2 % b == u)) (ss_v S n) none := by
          unfold ss_chosen
          simp only [ev, b3, b0, if_false, hu]
        rw [e] at hK
        subst en
        have kn := r0.v hn
        have vn := ok0.v hn
        rw [tv_nc n]
        refine ct_isFull r2 o2.2.1 (fun z => tv_c1 ?_) (fun z => tv_c0 ?_)
        · rw [if_pos z] at hK
          exact hK h r0 cp_lo.rf
        · rw [if_neg z] at hK
          have hv : (ss_vs S).length < 20 := by omega
          rw [r2, tv_nc (ss_vs S).length]
          refine ⟨pk_in n 20 (by omega), pk_in _ 20 hv, ?_⟩
          have nn := cp_vv r3 (show n < 20 by omega) hv (by omega)
          refine ct_choose (d := d + 17) nn kn.1 vn.1 b0 (by omega) (by omega) (fun h8 e8 a8 => ?_)
          exact cp_add (two := none) ok0 r0 hv hn (fun m z => absurd z (by simp)) (sp_eb_filter vn.1) (sp_srt_filter vn.2.1) e8 a8 hK
      · refine out2 (sp_rg_no (fun p => q2 ?_))
        obtain ⟨u, u1, u2⟩ := nI_of q
        subst u2
        exact (nI_ltI u1 (by omega)).mpr (by have := (nI_leI u1 (by omega)).mp p.2; omega)
  · have e : ss_chosen S v x y = (-101, S) := by unfold ss_chosen; simp only [ev]
    rw [e] at hK
    exact hK h r0 cp_lo.rf
theorem cc_both {v u x : Int32} (ok : ss_ok S c) (r : cp_rep S h) {K : Int32 → tv_AH → Prop} (hK : ∀ h', cp_rep (ss_both S v u x).2 h' → cp_lo h h' → K (ss_both S v u x).1 h') : tv_CI ad (d + 20) yX2_both [.ref (ad 0), .int v, .int u, .int x] h K := by
  have r0 := r
  have ok0 := ok
  obtain ⟨o1, o2, o3, o4, o5, o6⟩ := ok
  obtain ⟨r1, r2, r3, r4, r5, r6⟩ := r
  refine nX2_both _ _ _ h (ct_isVersion (d := d + 18) (S := S) r2 ⟨o2.1, o2.2.1⟩ (fun n hn en ev => tv_c1 ?_) (fun ev => tv_c0 ?_))
  · refine ct_isVersion (d := d + 18) (S := S) r2 ⟨o2.1, o2.2.1⟩ (fun m hm em evm => tv_b1 ?_) (fun evm => tv_b0 ?_)
    · have out : sp_rg x 2 = none → K (-102) h := fun z => by
        have e : ss_both S v u x = (-102, S) := by unfold ss_both; simp only [ev, evm, z]
        rw [e] at hK
        exact hK h r0 cp_lo.rf
      refine ⟨fun z => out (sp_rg_no (fun p => absurd z (Int32.not_lt.mpr p.1))), fun z => ⟨fun z2 => ?_, fun z2 => out (sp_rg_no (fun p => z2 p.2))⟩⟩
      obtain ⟨how, w1, w2, w3⟩ := sp_rg_ex (x := x) (b := 2) (by omega) z z2
      have e : ss_both S v u x = if (ss_vs S).length = 20 ∨ (how = 0 ∧ 24 < (ss_v S n).1.length + (ss_v S m).1.length - sp_inb (ss_v S n).1 (ss_v S m).1) then (-104, S) else ss_add S (sp_bth (ss_ord S) (ss_v S n).1 (ss_v S m).1 how) (ss_v S n) (some (ss_v S m)) := by
        unfold ss_both
        simp only [ev, evm, w3]
      rw [e] at hK
      subst en em w2
      have kn := r0.v hn
      have vn := ok0.v hn
      have km := r0.v hm
      have vm := ok0.v hm
      have sym := sp_inb_sym vn.2.1 vm.2.1
      have ile := sp_inb_le (ss_v S n).1 (ss_v S m).1
      have nl := vn.1.1
      have ml := vm.1.1
      rw [tv_nc n, tv_nc m]
      refine ⟨pk_in n 20 (by omega), pk_in m 20 (by omega), ct_keysAlsoIn (d := d + 17) kn.1 km.1 vn.1 vm.1 (ct_isFull r2 o2.2.1 (fun z => tv_b1 ?_) (fun z => tv_b0 ?_))⟩
      · rw [if_pos (Or.inl z)] at hK
        exact hK h r0 cp_lo.rf
      · have hv : (ss_vs S).length < 20 := by omega
        have nn := cp_vv r3 (show n < 20 by omega) hv (by omega)
        have nm := cp_vv r3 (show m < 20 by omega) hv (by omega)
        have go : ¬ (how = 0 ∧ 24 < (ss_v S n).1.length + (ss_v S m).1.length - sp_inb (ss_v S n).1 (ss_v S m).1) → tv_Wp ad RX2 cX2_both 8 (some .int) (d + 19) (tv_pI K) 89 [(0, .ref (ad 0)), (3, .int (nI how)), (4, .ref (ad (tv_tp (h.2.2 1 n)))), (5, .ref (ad (tv_tp (h.2.2 1 m))))] [] h := by
          intro hno
          rw [if_neg (fun y => y.elim z hno)] at hK
          have hr : how = 0 → (ss_v S n).1.length + (ss_v S m).1.length - sp_inb (ss_v S m).1 (ss_v S n).1 ≤ 24 := fun y => by rw [← sym]; omega
          have bok := sp_bth_ok (f := ss_f S) (w := ss_w S) (how := how) vn.1 vn.2.1 vm.1 hr
          refine bX2_both_89 _ _ _ h ?_
          rw [r2, tv_nc (ss_vs S).length]
          refine ⟨pk_in _ 20 hv, ?_⟩
          have fin : ∀ h1, ct_E (ss_f S) (ss_w S) (h.2.2 1 (ss_vs S).length) (sp_bth (sp_ord (ss_f S) (ss_w S)) (ss_v S n).1 (ss_v S m).1 how) h1 → tv_ag (ct_rE (h.2.2 1 (ss_vs S).length)) h h1 → tv_Wp ad RX2 cX2_both 8 (some .int) (d + 19) (tv_pI K) 135 [(0, .ref (ad 0)), (4, .ref (ad (tv_tp (h.2.2 1 n)))), (5, .ref (ad (tv_tp (h.2.2 1 m)))), (7, .ref (ad (tv_tp (h.2.2 1 (ss_vs S).length))))] [] h1 := by
            intro h1 e1 a1
            refine bX2_both_135 _ _ _ h1 ?_
            exact cp_add (two := some m) ok0 r0 hv hn (fun m2 z => by cases z; exact hm) bok.1 bok.2 e1 a1 hK
          refine tv_ne how 0 (fun q => tv_ne how 1 (fun q2 => ?_) (fun q2 => ?_)) (fun q => ?_)
          · exact ct_select (d := d + 17) (how := how) nn nm kn.1 km.1 vn.1 vm.1 (by omega) (by rw [if_neg q2]) fin
          · exact ct_select (d := d + 17) (how := how) nn nm kn.1 km.1 vn.1 vm.1 (by omega) (by rw [if_pos q2]) fin
          · subst q
            exact ct_unite (d := d + 15) nn nm kn.1 km.1 vn.1 vm.1 (hr rfl) fin
        refine tv_ne how 0 (fun q => go (fun y => q y.1)) (fun q => ?_)
        rw [kn.1.1, km.1.1, nI_add, pk_sub (by omega)]
        refine pk_le ((ss_v S n).1.length + (ss_v S m).1.length - sp_inb (ss_v S n).1 (ss_v S m).1) 24 (fun p => go (fun y => by omega)) (fun p => ?_)
        rw [if_pos (Or.inr ⟨q, p⟩)] at hK
        exact hK h r0 cp_lo.rf
    · have e : ss_both S v u x = (-101, S) := by unfold ss_both; simp only [ev, evm]
      rw [e] at hK
      exact hK h r0 cp_lo.rf
  · have e : ss_both S v u x = (-101, S) := by unfold ss_both; simp only [ev]
    rw [e] at hK
    exact hK h r0 cp_lo.rf
end CCA
