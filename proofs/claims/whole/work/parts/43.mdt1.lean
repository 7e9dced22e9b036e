/-! THE REFERENCE: versions made of versions -/
section MDU
variable {ad : Nat → Nat} {d c : Nat} {h : tv_AH} {S : sp_S}
theorem md_rep.v {n : Nat} (r : md_rep S h) (hn : n < (ss_vs S).length) : md_M n (ss_f S) (ss_w S) (ss_v S n).1 (ss_v S n).2 (2 ^ 30) h := r.2.2.1 n hn
theorem mt_put {v x y : Int32} (ok : ss_ok S c) (r : md_rep S h) {K : Int32 → tv_AH → Prop} (hK : ∀ h', md_rep (ss_put S v x y).2 h' → tv_ag md_hi h h' → K (ss_put S v x y).1 h') : tv_CI ad (d + 7) yX3_put [.ref (ad 400), .int v, .int x, .int y] h K := by
  have r0 := r
  have ok0 := ok
  obtain ⟨o1, o2, o3, o4, o5, o6⟩ := ok
  obtain ⟨r1, r2, r3, r4, r5, r6⟩ := r
  refine nX3_put _ _ _ h (md_isVersion (S := S) r2 ⟨o2.1, o2.2.1⟩ (fun n hn en ev => tv_b1 ?_) (fun ev => tv_b0 ?_))
  · refine md_rg (b := 4095) rfl (by omega) (fun k hk ek evk => tv_c1 ?_) (fun evk => tv_c0 ?_)
    · refine md_rg (b := 999) rfl (by omega) (fun u hu eu evu => tv_b1 ?_) (fun evu => tv_b0 ?_)
      · have e : ss_put S v x y = if (ss_vs S).length = 20 ∨ ((ss_v S n).1.length = 24 ∧ sp_fi (ss_v S n).1 k = none) then (-104, S) else ss_add S (sp_give (ss_ord S) (ss_v S n).1 k u) (ss_v S n) none := by
          unfold ss_put
          simp only [ev, evk, evu]
        rw [e] at hK
        subst en ek eu
        have kn := r3 n hn
        have hl := kn.2.1.1
        have go : ¬ ((ss_vs S).length = 20 ∨ ((ss_v S n).1.length = 24 ∧ sp_fi (ss_v S n).1 k = none)) → tv_CV ad (d + 6) yX3_copyTo [.ref (ad 400), .int 21, .int (nI n)] h (fun h4 => tv_CV ad (d + 6) yX3_give [.ref (ad 400), .int 21, .int (nI k), .int (nI u)] h4 (fun h5 => tv_CV ad (d + 6) yX3_tellNew [.ref (ad 400), .int (nI n), .int (-1)] h5 (fun h6 => tv_CI ad (d + 6) yX3_keepNew [.ref (ad 400), .int 21] h6 (fun r10 h7 => K r10 h7)))) := by
          intro hno
          rw [if_neg hno] at hK
          refine md_copyTo (m := 21) (m' := n) (by omega) (by omega) (by omega) kn.1 kn.2.1 (fun h4 e4 a4 => ?_)
          have s4 := r1.ag a4 md_rE_400 md_rE_400
          have hr : sp_fi (ss_v S n).1 k = none → (ss_v S n).1.length < 24 := fun z => by
            rcases Nat.lt_or_ge (ss_v S n).1.length 24 with q | q
            · exact q
            · exact absurd (Or.inr ⟨by omega, z⟩) hno
          refine md_give (m := 21) (by omega) s4 e4 kn.2.1 (by omega) (by omega) hr (fun h5 e5 a5 => ?_)
          exact md_add (two := none) ok0 r0 (by omega) hn (fun m z => absurd z (by simp)) (sp_eb_give kn.2.1 (by omega) (by omega) hr) e5 (a4.tr a5) hK
        rw [r2, tv_nc n, kn.1.1]
        refine pk_eq (ss_vs S).length 20 (fun z => ?_) (fun z => ⟨pk_in n 22 (by omega), tv_ne (ss_v S n).1.length 24 (fun z2 => go (fun q => ?_)) (fun z2 => ?_)⟩)
        · rw [if_pos (Or.inl z)] at hK
          exact hK h r0 tv_ag.rf
        · omega
        · refine md_placeOf (by omega) kn.1 kn.2.1 (by omega) ?_
          unfold sp_ix
          cases hf : sp_fi (ss_v S n).1 k with
          | some i =>
            have := (sp_fi_some hf).1
            refine ⟨fun _ => go (fun q => ?_), fun q => absurd q (tv_m1 (by omega))⟩
            rcases q with q | q
            · exact z q
            · rw [hf] at q; cases q.2
          | none =>
            refine ⟨fun q => absurd rfl q, fun _ => ?_⟩
            rw [if_pos (Or.inr ⟨z2, hf⟩)] at hK
            exact hK h r0 tv_ag.rf
      · have e : ss_put S v x y = (-102, S) := by unfold ss_put; simp only [ev, evk, evu]
        rw [e] at hK
        exact hK h r0 tv_ag.rf
    · have e : ss_put S v x y = (-102, S) := by unfold ss_put; simp only [ev, evk]
      rw [e] at hK
      exact hK h r0 tv_ag.rf
  · have e : ss_put S v x y = (-101, S) := by unfold ss_put; simp only [ev]
    rw [e] at hK
    exact hK h r0 tv_ag.rf
theorem mt_remove {v x : Int32} (ok : ss_ok S c) (r : md_rep S h) {K : Int32 → tv_AH → Prop} (hK : ∀ h', md_rep (ss_remove S v x).2 h' → tv_ag md_hi h h' → K (ss_remove S v x).1 h') : tv_CI ad (d + 7) yX3_remove [.ref (ad 400), .int v, .int x] h K := by
  have r0 := r
  have ok0 := ok
  obtain ⟨o1, o2, o3, o4, o5, o6⟩ := ok
  obtain ⟨r1, r2, r3, r4, r5, r6⟩ := r
  refine nX3_remove _ _ h (md_isVersion (S := S) r2 ⟨o2.1, o2.2.1⟩ (fun n hn en ev => tv_b1 ?_) (fun ev => tv_b0 ?_))
  · refine md_rg (b := 4095) rfl (by omega) (fun k hk ek evk => tv_b1 ?_) (fun evk => tv_b0 ?_)
    · have e : ss_remove S v x = if (ss_vs S).length = 20 then (-104, S) else ss_add S (sp_del (ss_v S n).1 k) (ss_v S n) none := by
        unfold ss_remove
        simp only [ev, evk]
      rw [e] at hK
      subst en ek
      have kn := r3 n hn
      rw [r2]
      refine tv_ne (ss_vs S).length 20 (fun z => ?_) (fun z => ?_)
      · rw [if_neg z] at hK
        refine md_copyTo (m := 21) (m' := n) (by omega) (by omega) (by omega) kn.1 kn.2.1 (fun h4 e4 a4 => ?_)
        refine md_takeFrom (m := 21) (by omega) e4 kn.2.1 (by omega) (fun h5 e5 a5 => ?_)
        exact md_add (two := none) ok0 r0 (by omega) hn (fun m z => absurd z (by simp)) (sp_eb_del kn.2.1) e5 (a4.tr a5) hK
      · rw [if_pos z] at hK
        exact hK h r0 tv_ag.rf
    · have e : ss_remove S v x = (-102, S) := by unfold ss_remove; simp only [ev, evk]
      rw [e] at hK
      exact hK h r0 tv_ag.rf
  · have e : ss_remove S v x = (-101, S) := by unfold ss_remove; simp only [ev]
    rw [e] at hK
    exact hK h r0 tv_ag.rf
theorem mt_chosen {v x y : Int32} (ok : ss_ok S c) (r : md_rep S h) {K : Int32 → tv_AH → Prop} (hK : ∀ h', md_rep (ss_chosen S v x y).2 h' → tv_ag md_hi h h' → K (ss_chosen S v x y).1 h') : tv_CI ad (d + 7) yX3_chosen [.ref (ad 400), .int v, .int x, .int y] h K := by
  have r0 := r
  have ok0 := ok
  obtain ⟨o1, o2, o3, o4, o5, o6⟩ := ok
  obtain ⟨r1, r2, r3, r4, r5, r6⟩ := r
  refine nX3_chosen _ _ _ h (md_isVersion (S := S) r2 ⟨o2.1, o2.2.1⟩ (fun n hn en ev => tv_b1 ?_) (fun ev => tv_b0 ?_))
  · refine md_within ?_
    cases evk : sp_rg x 999 with
    | none =>
      have e : ss_chosen S v x y = (-102, S) := by unfold ss_chosen; simp only [ev, evk]
      rw [e] at hK
      rw [if_neg]
      · exact tv_c0 (hK h r0 tv_ag.rf)
      · intro q
        have h0 : (0 : Int32) ≤ x := Int32.le_trans (by decide) q.1
        exact sp_rg_none evk ⟨h0, q.2⟩
    | some b =>
      obtain ⟨b1, b2⟩ := sp_rg_some (by omega) evk
      by_cases hb0 : b = 0
      · have e : ss_chosen S v x y = (-102, S) := by unfold ss_chosen; simp only [ev, evk, hb0, if_true]
        rw [e] at hK
        rw [if_neg]
        · exact tv_c0 (hK h r0 tv_ag.rf)
        · intro q
          rw [b2, hb0] at q
          exact absurd q.1 (by decide)
      · rw [if_pos ⟨by rw [b2, show (1 : Int32) = nI 1 from rfl]; exact nI_le (by omega) (by omega), by rw [b2]; exact (show nI b ≤ nI 999 from nI_le b1 (by decide))⟩]
        refine tv_c1 (md_rg (b := b - 1) (by rw [b2, show (1 : Int32) = nI 1 from rfl, pk_sub (by omega)]) (by omega) (fun u hu eu evu => tv_b1 ?_) (fun evu => tv_b0 ?_))
        · have e : ss_chosen S v x y = if (ss_vs S).length = 20 then (-104, S) else ss_add S ((ss_v S n).1.filter (fun e => e.2 % b == u)) (ss_v S n) none := by
            unfold ss_chosen
            simp only [ev, evk, hb0, if_false, evu]
          rw [e] at hK
          subst en b2 eu
          have kn := r3 n hn
          have hl := kn.2.1.1
          have hs := (o3 n hn).2.1
          rw [r2]
          refine tv_ne (ss_vs S).length 20 (fun z => ⟨pk_in 21 22 (by omega), fun h4 w4 => ?_⟩) (fun z => ?_)
          · rw [if_neg z] at hK
            generalize hE : (ss_v S n).1 = E at *
            have H : ∀ t k (h5 : tv_AH), k + t = E.length → md_E 21 ((E.take k).filter (fun e => e.2 % b == u)) h5 → tv_ag (md_rE 21) h h5 → tv_Wp ad RX3 cX3_chosen 5 (some .int) (d + 6) (tv_pI K) 59 [(0, .ref (ad 400)), (1, .int (nI n)), (2, .int (nI b)), (3, .int (nI u)), (4, .int (nI k))] [] h5 := by
              intro t
              induction t with
              | zero =>
                intro k h5 hk e5 a5
                have kn5 := kn.ag a5 (fun q i z => by unfold md_rM md_rE md_rN at z; unfold md_rE; omega)
                refine bX3_chosen_59 _ _ _ _ h5 ?_
                rw [tv_nc n, kn5.1.1]
                refine ⟨pk_in n 22 (by omega), pk_le E.length k (fun _ => ?_) (fun q => absurd q (by omega))⟩
                rw [show k = E.length by omega, List.take_length] at e5
                exact md_add (two := none) ok0 r0 (by omega) hn (fun m z => absurd z (by simp)) (sp_eb_filter kn.2.1) e5 a5 hK
              | succ t ih =>
                intro k h5 hk e5 a5
                have kn5 := kn.ag a5 (fun q i z => by unfold md_rM md_rE md_rN at z; unfold md_rE; omega)
                have s5 := r1.ag a5 md_rE_400 md_rE_400
                refine bX3_chosen_59 _ _ _ _ h5 ?_
                rw [tv_nc n, kn5.1.1]
                refine ⟨pk_in n 22 (by omega), pk_le E.length k (fun q => absurd q (by omega)) (fun q => ?_)⟩
                refine md_valueAt (by omega) (by omega) ?_
                rw [(kn5.1.2 k q).2]
                have bv := kn.2.1.2 k q
                refine ⟨fun z => hb0 ((nI_eq (by omega) (by omega)).mp z), ?_⟩
                rw [pk_rem (by omega) (by omega) (by omega), nI_1]
                have hml : sp_v E k % b < b := Nat.mod_lt _ (by omega)
                have hf := sp_take_f (p := fun e => e.2 % b == u) q
                refine tv_ne (sp_v E k % b) u (fun z => ?_) (fun z => ?_)
                · rw [if_neg (by simpa using z), List.append_nil] at hf
                  exact ih (k + 1) h5 (by omega) (by rw [hf]; exact e5) a5
                · refine md_keyAt (by omega) (by omega) ?_
                  rw [(kn5.1.2 k q).1]
                  refine md_valueAt (by omega) (by omega) ?_
                  rw [(kn5.1.2 k q).2]
                  rw [if_pos (by simpa using z)] at hf
                  have hlt := sp_pre_lt (p := fun e => e.2 % b == u) hs q
                  have hlen : ((E.take k).filter (fun e => e.2 % b == u)).length ≤ k := Nat.le_trans (List.length_filter_le _ _) (by rw [List.length_take]; omega)
                  refine md_give (m := 21) (by omega) s5 e5 (sp_eb_sub kn.2.1 (by omega) (fun e he => List.mem_of_mem_take (List.mem_filter.mp he).1)) bv.1 bv.2 (fun _ => by omega) (fun h6 e6 a6 => ?_)
                  rw [sp_give_app hlt] at e6
                  exact ih (k + 1) h6 (by omega) (by rw [hf]; exact e6) (a5.tr a6)
            refine H E.length 0 h4 (by omega) ?_ (by rw [w4]; exact tv_ag.rf.wI (Or.inl ⟨rfl, rfl⟩))
            rw [w4]
            exact ⟨tv_wIe, fun i hi => absurd hi (by simp)⟩
          · rw [if_pos z] at hK
            exact hK h r0 tv_ag.rf
        · have e : ss_chosen S v x y = (-102, S) := by unfold ss_chosen; simp only [ev, evk, hb0, if_false, evu]
          rw [e] at hK
          exact hK h r0 tv_ag.rf
  · have e : ss_chosen S v x y = (-101, S) := by unfold ss_chosen; simp only [ev]
    rw [e] at hK
    exact hK h r0 tv_ag.rf
end MDU
