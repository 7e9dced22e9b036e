/-! THE REFERENCE: two versions -/
section MDV
variable {ad : Nat → Nat} {d c : Nat} {h : tv_AH} {S : sp_S}
theorem sp_cnt {α : Type} {p : α → Bool} {L : List α} {k : Nat} (hk : k < L.length) : ((L.take (k + 1)).filter p).length = ((L.take k).filter p).length + (if p L[k] then 1 else 0) := by
  rw [List.take_succ_eq_append_getElem hk, List.filter_append, List.length_append]
  by_cases c : p L[k] = true
  · simp [c]
  · simp [c]
theorem sp_flt2 {α : Type} (p q : α → Bool) (h : ∀ a, q a = !p a) : ∀ L : List α, (L.filter q).length + (L.filter p).length = L.length
  | [] => rfl
  | a :: L => by
    have ih := sp_flt2 p q h L
    have ha := h a
    by_cases c : p a = true
    · rw [c] at ha
      simp only [List.filter_cons, c, ha, if_true, List.length_cons]
      simp only [Bool.not_true, Bool.false_eq_true, if_false]
      omega
    · have c' : p a = false := by simpa using c
      rw [c'] at ha
      simp only [List.filter_cons, c', ha, List.length_cons]
      simp only [Bool.not_false, Bool.false_eq_true, if_false, if_true, List.length_cons]
      omega
theorem sp_cnt_le {α : Type} {p : α → Bool} {L : List α} {k : Nat} : ((L.take k).filter p).length ≤ k := Nat.le_trans (List.length_filter_le _ _) (by rw [List.length_take]; omega)
theorem md_inBoth {n m f w own own' : Nat} {E F : List (Nat × Nat)} {ids ids' : List Nat} (hn : n < 22) (hm : m < 22) (kn : md_M n f w E ids own h) (km : md_M m f w F ids' own' h) {K : Int32 → tv_AH → Prop} (hK : K (nI (sp_inb E F)) h) : tv_CI ad (d + 3) yX3_inBoth [.ref (ad 400), .int (nI n), .int (nI m)] h K := by
  have hl := kn.2.1.1
  have hl' := km.2.1.1
  refine nX3_inBoth _ _ h ?_
  have H : ∀ t k, k + t = E.length → tv_Wp ad RX3 cX3_inBoth 5 (some .int) (d + 2) (tv_pI K) 5 [(0, .ref (ad 400)), (1, .int (nI n)), (2, .int (nI m)), (3, .int (nI ((E.take k).filter (fun e => (sp_fi F e.1).isSome)).length)), (4, .int (nI k))] [] h := by
    intro t
    induction t with
    | zero =>
      intro k hk
      refine bX3_inBoth_5 _ _ _ _ h ?_
      rw [tv_nc n, kn.1.1]
      refine ⟨pk_in n 22 hn, pk_le E.length k (fun _ => ?_) (fun q => absurd q (by omega))⟩
      rw [show k = E.length by omega, List.take_length]
      exact hK
    | succ t ih =>
      intro k hk
      refine bX3_inBoth_5 _ _ _ _ h ?_
      rw [tv_nc n, kn.1.1]
      refine ⟨pk_in n 22 hn, pk_le E.length k (fun q => absurd q (by omega)) (fun q => ?_)⟩
      refine md_keyAt hn (by omega) ?_
      rw [(kn.1.2 k q).1]
      refine md_placeOf hm km.1 km.2.1 (kn.2.1.2 k q).1 ?_
      have hc := sp_cnt (p := fun e => (sp_fi F e.1).isSome) q
      rw [sp_kg q] at hc
      unfold sp_ix
      cases hf : sp_fi F (sp_k E k) with
      | some i =>
        have := (sp_fi_some hf).1
        simp only [hf, Option.isSome_some, if_true] at hc
        refine ⟨fun _ => ?_, fun z => absurd z (tv_m1 (by omega))⟩
        rw [nI_1, nI_1, ← hc]
        exact ih (k + 1) (by omega)
      | none =>
        simp only [hf, Option.isSome_none] at hc
        refine ⟨fun z => absurd rfl z, fun _ => ?_⟩
        rw [show (0 : Int32) = nI 0 from rfl, nI_add, nI_1]
        simp only [Bool.false_eq_true, if_false] at hc
        rw [← hc]
        exact ih (k + 1) (by omega)
  exact H E.length 0 (by omega)
/-- what layBoth lays -/
theorem md_layBoth {n m f w own own' how : Nat} {E F : List (Nat × Nat)} {ids ids' : List Nat} (hn : n < 20) (hm : m < 20) (s : md_sc f w h) (kn : md_M n f w E ids own h) (km : md_M m f w F ids' own' h) (hs : sp_srt f w E) (hhow : how ≤ 2) (hr : how = 0 → E.length + F.length - sp_inb F E ≤ 24) {K : tv_AH → Prop} (hK : ∀ h', md_E 21 (sp_bth (sp_ord f w) E F how) h' → sp_eb (sp_bth (sp_ord f w) E F how) → tv_ag (md_rE 21) h h' → K h') : tv_CV ad (d + 4) yX3_layBoth [.ref (ad 400), .int (nI n), .int (nI m), .int (nI how)] h K := by
  have hl := kn.2.1.1
  have hl' := km.2.1.1
  refine nX3_layBoth _ _ _ h ⟨pk_in 21 22 (by omega), fun h1 w1 => ?_⟩
  have pz : ∀ {h5 : tv_AH}, tv_ag (md_rE 21) h h5 → md_M n f w E ids own h5 ∧ md_M m f w F ids' own' h5 ∧ md_sc f w h5 := fun a => ⟨kn.ag a (fun q i z => by unfold md_rM md_rE md_rN at z; unfold md_rE; omega), km.ag a (fun q i z => by unfold md_rM md_rE md_rN at z; unfold md_rE; omega), s.ag a md_rE_400 md_rE_400⟩
  -- the second loop
  have H2 : ∀ t k (h5 : tv_AH) (A : List (Nat × Nat)), k + t = F.length → how = 0 → A = ((F.take k).filter (fun e => (sp_fi E e.1).isNone)).foldl (fun A e => sp_give (sp_ord f w) A e.1 e.2) E → A.length ≤ E.length + ((F.take k).filter (fun e => (sp_fi E e.1).isNone)).length → sp_eb A → md_E 21 A h5 → tv_ag (md_rE 21) h h5 → tv_Wp ad RX3 cX3_layBoth 6 none (d + 3) (tv_pV K) 93 [(0, .ref (ad 400)), (1, .int (nI n)), (2, .int (nI m)), (3, .int (nI how)), (4, .int (nI k))] [] h5 := by
    intro t
    induction t with
    | zero =>
      intro k h5 A hk h0 hA hAl hAb e5 a5
      obtain ⟨kn5, km5, s5⟩ := pz a5
      refine bX3_layBoth_93 _ _ _ _ h5 ?_
      rw [tv_nc m, km5.1.1]
      refine ⟨pk_in m 22 (by omega), pk_le F.length k (fun _ => ?_) (fun q => absurd q (by omega))⟩
      rw [show k = F.length by omega, List.take_length] at hA
      have hb : sp_bth (sp_ord f w) E F how = A := by unfold sp_bth; rw [if_pos h0, hA]
      rw [hb] at hK
      exact hK h5 e5 hAb a5
    | succ t ih =>
      intro k h5 A hk h0 hA hAl hAb e5 a5
      obtain ⟨kn5, km5, s5⟩ := pz a5
      refine bX3_layBoth_93 _ _ _ _ h5 ?_
      rw [tv_nc m, km5.1.1]
      refine ⟨pk_in m 22 (by omega), pk_le F.length k (fun q => absurd q (by omega)) (fun q => tv_ne how 0 (fun z => absurd h0 z) (fun _ => ?_))⟩
      refine md_keyAt (by omega) (by omega) ?_
      rw [(km5.1.2 k q).1]
      have bk := km.2.1.2 k q
      refine md_placeOf (by omega) kn5.1 kn.2.1 bk.1 ?_
      have hf := sp_take_f (p := fun e => (sp_fi E e.1).isNone) q
      unfold sp_ix
      cases hfe : sp_fi E (sp_k F k) with
      | some i =>
        have := (sp_fi_some hfe).1
        simp only [hfe, Option.isNone_some, Bool.false_eq_true, if_false, List.append_nil] at hf
        refine ⟨fun _ => ?_, fun z => absurd z (tv_m1 (by omega))⟩
        rw [nI_1]
        exact ih (k + 1) h5 A (by omega) h0 (by rw [hf]; exact hA) (by rw [hf]; exact hAl) hAb e5 a5
      | none =>
        simp only [hfe, Option.isNone_none, if_true] at hf
        refine ⟨fun z => absurd rfl z, fun _ => ?_⟩
        refine md_keyAt (by omega) (by omega) ?_
        rw [(km5.1.2 k q).1]
        refine md_valueAt (by omega) (by omega) ?_
        rw [(km5.1.2 k q).2]
        -- room: what is missing of F fits
        have hcnt : ((F.take (k + 1)).filter (fun e => (sp_fi E e.1).isNone)).length + sp_inb F E ≤ F.length := by
          have h1 : ((F.take (k + 1)).filter (fun e => (sp_fi E e.1).isNone)).length ≤ (F.filter (fun e => (sp_fi E e.1).isNone)).length := (List.Sublist.filter _ (List.take_sublist _ _)).length_le
          have h2 : (F.filter (fun e => (sp_fi E e.1).isNone)).length + sp_inb F E = F.length := by
            unfold sp_inb
            exact sp_flt2 (fun e => (sp_fi E e.1).isSome) (fun e => (sp_fi E e.1).isNone) (fun e => by cases sp_fi E e.1 <;> rfl) F
          omega
        have hr0 := hr h0
        have hlA : A.length < 24 := by
          rw [hf, List.length_append, List.length_singleton] at hcnt
          omega
        refine md_give (m := 21) (by omega) s5 e5 hAb bk.1 bk.2 (fun _ => hlA) (fun h6 e6 a6 => ?_)
        rw [nI_1]
        refine ih (k + 1) h6 (sp_give (sp_ord f w) A (sp_k F k) (sp_v F k)) (by omega) h0 ?_ ?_ (sp_eb_give hAb bk.1 bk.2 (fun _ => hlA)) e6 (a5.tr a6)
        · rw [hf, List.foldl_append, ← hA]
          rfl
        · rw [hf, List.length_append, List.length_singleton]
          have : (sp_give (sp_ord f w) A (sp_k F k) (sp_v F k)).length ≤ A.length + 1 := by
            unfold sp_give
            split
            · simp only [List.length_set]; omega
            · rw [sp_ins_len (sp_pos_le _ _ _ _)]; omega
          omega
  -- the first loop
  have H1 : ∀ t k (h5 : tv_AH), k + t = E.length → md_E 21 ((E.take k).filter (fun e => if how = 0 then true else if how = 1 then (sp_fi F e.1).isSome else (sp_fi F e.1).isNone)) h5 → tv_ag (md_rE 21) h h5 → tv_Wp ad RX3 cX3_layBoth 6 none (d + 3) (tv_pV K) 11 [(0, .ref (ad 400)), (1, .int (nI n)), (2, .int (nI m)), (3, .int (nI how)), (4, .int (nI k))] [] h5 := by
    intro t
    induction t with
    | zero =>
      intro k h5 hk e5 a5
      obtain ⟨kn5, km5, s5⟩ := pz a5
      refine bX3_layBoth_11 _ _ _ _ h5 ?_
      rw [tv_nc n, kn5.1.1]
      refine ⟨pk_in n 22 (by omega), pk_le E.length k (fun _ => ?_) (fun q => absurd q (by omega))⟩
      rw [show k = E.length by omega, List.take_length] at e5
      by_cases h0 : how = 0
      · subst h0
        have ef : E.filter (fun e => if (0 : Nat) = 0 then true else if (0 : Nat) = 1 then (sp_fi F e.1).isSome else (sp_fi F e.1).isNone) = E := by simp
        rw [ef] at e5
        exact H2 F.length 0 h5 E (by omega) rfl (by simp) (by simp) kn.2.1 e5 a5
      · have hb : sp_bth (sp_ord f w) E F how = E.filter (fun e => if how = 0 then true else if how = 1 then (sp_fi F e.1).isSome else (sp_fi F e.1).isNone) := by
          unfold sp_bth
          rw [if_neg h0]
          by_cases h1 : how = 1
          · simp [h1]
          · simp [h0, h1]
        rw [← hb] at e5
        have ebb : sp_eb (sp_bth (sp_ord f w) E F how) := by rw [hb]; exact sp_eb_filter kn.2.1
        refine bX3_layBoth_93 _ _ _ _ h5 ?_
        rw [tv_nc m, km5.1.1]
        refine ⟨pk_in m 22 (by omega), pk_le F.length 0 (fun _ => hK h5 e5 ebb a5) (fun _ => tv_ne how 0 (fun _ => hK h5 e5 ebb a5) (fun z => absurd z h0))⟩
    | succ t ih =>
      intro k h5 hk e5 a5
      obtain ⟨kn5, km5, s5⟩ := pz a5
      refine bX3_layBoth_11 _ _ _ _ h5 ?_
      rw [tv_nc n, kn5.1.1]
      refine ⟨pk_in n 22 (by omega), pk_le E.length k (fun q => absurd q (by omega)) (fun q => ?_)⟩
      refine md_keyAt (by omega) (by omega) ?_
      rw [(kn5.1.2 k q).1]
      have bk := kn.2.1.2 k q
      refine md_placeOf (by omega) km5.1 km.2.1 bk.1 ?_
      generalize hp : (fun e : Nat × Nat => if how = 0 then true else if how = 1 then (sp_fi F e.1).isSome else (sp_fi F e.1).isNone) = p at *
      have hf := sp_take_f (p := p) q
      have skip : p (sp_k E k, sp_v E k) = false → tv_Wp ad RX3 cX3_layBoth 6 none (d + 3) (tv_pV K) 84 [(0, .ref (ad 400)), (1, .int (nI n)), (2, .int (nI m)), (3, .int (nI how)), (4, .int (nI k))] [] h5 := by
        intro hpf
        rw [hpf] at hf
        simp only [Bool.false_eq_true, if_false, List.append_nil] at hf
        refine bX3_layBoth_84 _ _ _ _ h5 ?_
        rw [nI_1]
        exact ih (k + 1) h5 (by omega) (by rw [hf]; exact e5) a5
      have put : p (sp_k E k, sp_v E k) = true → tv_CI ad (d + 3) yX3_keyAt [.ref (ad 400), .int (nI n), .int (nI k)] h5 (fun r2 h1 => tv_CI ad (d + 3) yX3_valueAt [.ref (ad 400), .int (nI n), .int (nI k)] h1 (fun r3 h2 => tv_CV ad (d + 3) yX3_give [.ref (ad 400), .int 21, .int r2, .int r3] h2 (fun h3 => tv_Wp ad RX3 cX3_layBoth 6 none (d + 3) (tv_pV K) 84 [(0, .ref (ad 400)), (1, .int (nI n)), (2, .int (nI m)), (3, .int (nI how)), (4, .int (nI k))] [] h3))) := by
        intro hpt
        rw [hpt] at hf
        simp only [if_true] at hf
        refine md_keyAt (by omega) (by omega) ?_
        rw [(kn5.1.2 k q).1]
        refine md_valueAt (by omega) (by omega) ?_
        rw [(kn5.1.2 k q).2]
        have hlt := sp_pre_lt (p := p) hs q
        have hlen : ((E.take k).filter p).length ≤ k := sp_cnt_le
        refine md_give (m := 21) (by omega) s5 e5 (sp_eb_sub kn.2.1 (by omega) (fun e he => List.mem_of_mem_take (List.mem_filter.mp he).1)) bk.1 bk.2 (fun _ => by omega) (fun h6 e6 a6 => ?_)
        rw [sp_give_app hlt] at e6
        refine bX3_layBoth_84 _ _ _ _ h6 ?_
        rw [nI_1]
        exact ih (k + 1) h6 (by omega) (by rw [hf]; exact e6) (a5.tr a6)
      have hpv : p (sp_k E k, sp_v E k) = (if how = 0 then true else if how = 1 then (sp_fi F (sp_k E k)).isSome else (sp_fi F (sp_k E k)).isNone) := by rw [← hp]
      unfold sp_ix
      cases hfe : sp_fi F (sp_k E k) with
      | some i =>
        have := (sp_fi_some hfe).1
        rw [hfe] at hpv
        refine ⟨fun z => absurd z (tv_m1 (by omega)), fun _ => ?_⟩
        refine bX3_layBoth_43 _ _ _ _ _ h5 (pk_eq how 0 (fun z => put (by rw [hpv, if_pos z])) (fun z => tv_ne how 1 (fun z1 => ?_) (fun z1 => ?_)))
        · exact tv_b1 (skip (by rw [hpv, if_neg z, if_neg z1]; rfl))
        · exact ⟨fun y => absurd rfl y, fun _ => put (by rw [hpv, if_neg z, if_pos z1]; rfl)⟩
      | none =>
        rw [hfe] at hpv
        refine ⟨fun _ => ?_, fun z => absurd rfl z⟩
        refine bX3_layBoth_43 _ _ _ _ _ h5 (pk_eq how 0 (fun z => put (by rw [hpv, if_pos z])) (fun z => tv_ne how 1 (fun z1 => ?_) (fun z1 => ?_)))
        · exact tv_b0 (put (by rw [hpv, if_neg z, if_neg z1]; rfl))
        · exact ⟨fun _ => skip (by rw [hpv, if_neg z, if_pos z1]; rfl), fun y => absurd y (by decide)⟩
  refine H1 E.length 0 h1 (by omega) ?_ (by rw [w1]; exact tv_ag.rf.wI (Or.inl ⟨rfl, rfl⟩))
  rw [w1]
  exact ⟨tv_wIe, fun i hi => absurd hi (by simp)⟩
theorem mt_both {v u x : Int32} (ok : ss_ok S c) (r : md_rep S h) (hsym : ∀ n m, n < (ss_vs S).length → m < (ss_vs S).length → sp_inb (ss_v S n).1 (ss_v S m).1 = sp_inb (ss_v S m).1 (ss_v S n).1) {K : Int32 → tv_AH → Prop} (hK : ∀ h', md_rep (ss_both S v u x).2 h' → tv_ag md_hi h h' → K (ss_both S v u x).1 h') : tv_CI ad (d + 7) yX3_both [.ref (ad 400), .int v, .int u, .int x] h K := by
  have r0 := r
  have ok0 := ok
  obtain ⟨o1, o2, o3, o4, o5, o6⟩ := ok
  obtain ⟨r1, r2, r3, r4, r5, r6⟩ := r
  refine nX3_both _ _ _ h (md_isVersion (S := S) r2 ⟨o2.1, o2.2.1⟩ (fun n hn en ev => tv_c1 ?_) (fun ev => tv_c0 ?_))
  · refine md_isVersion (S := S) r2 ⟨o2.1, o2.2.1⟩ (fun m hm em evm => tv_b1 ?_) (fun evm => tv_b0 ?_)
    · refine md_rg (b := 2) rfl (by omega) (fun how hh eh evh => tv_b1 ?_) (fun evh => tv_b0 ?_)
      · have e : ss_both S v u x = if (ss_vs S).length = 20 ∨ (how = 0 ∧ 24 < (ss_v S n).1.length + (ss_v S m).1.length - sp_inb (ss_v S n).1 (ss_v S m).1) then (-104, S) else ss_add S (sp_bth (ss_ord S) (ss_v S n).1 (ss_v S m).1 how) (ss_v S n) (some (ss_v S m)) := by
          unfold ss_both
          simp only [ev, evm, evh]
        rw [e] at hK
        subst en em eh
        have kn := r3 n hn
        have km := r3 m hm
        have hl := kn.2.1.1
        have hl' := km.2.1.1
        have go : ¬ ((ss_vs S).length = 20 ∨ (how = 0 ∧ 24 < (ss_v S n).1.length + (ss_v S m).1.length - sp_inb (ss_v S n).1 (ss_v S m).1)) → tv_CV ad (d + 6) yX3_layBoth [.ref (ad 400), .int (nI n), .int (nI m), .int (nI how)] h (fun h4 => tv_CV ad (d + 6) yX3_tellNew [.ref (ad 400), .int (nI n), .int (nI m)] h4 (fun h5 => tv_CI ad (d + 6) yX3_keepNew [.ref (ad 400), .int 21] h5 (fun r9 h6 => K r9 h6))) := by
          intro hno
          rw [if_neg hno] at hK
          refine md_layBoth (by omega) (by omega) r1 kn km (o3 n hn).2.1 hh (fun z => ?_) (fun h4 e4 b4 a4 => ?_)
          · rw [← hsym n m hn hm]
            omega
          · exact md_add (two := some m) ok0 r0 (by omega) hn (fun m' z => by cases z; exact hm) b4 e4 a4 hK
        rw [r2, tv_nc n, tv_nc m, kn.1.1, km.1.1]
        refine pk_eq (ss_vs S).length 20 (fun z => ?_) (fun z => tv_ne how 0 (fun z2 => go (fun q => by omega)) (fun z2 => ⟨pk_in n 22 (by omega), pk_in m 22 (by omega), ?_⟩))
        · rw [if_pos (Or.inl z)] at hK
          exact hK h r0 tv_ag.rf
        · refine md_inBoth (by omega) (by omega) kn km ?_
          have hle : sp_inb (ss_v S n).1 (ss_v S m).1 ≤ (ss_v S n).1.length := List.length_filter_le _ _
          rw [nI_add, pk_sub (by omega)]
          refine pk_le ((ss_v S n).1.length + (ss_v S m).1.length - sp_inb (ss_v S n).1 (ss_v S m).1) 24 (fun q => go (fun y => by omega)) (fun q => ?_)
          rw [if_pos (Or.inr ⟨z2, q⟩)] at hK
          exact hK h r0 tv_ag.rf
      · have e : ss_both S v u x = (-102, S) := by unfold ss_both; simp only [ev, evm, evh]
        rw [e] at hK
        exact hK h r0 tv_ag.rf
    · have e : ss_both S v u x = (-101, S) := by unfold ss_both; simp only [ev, evm]
      rw [e] at hK
      exact hK h r0 tv_ag.rf
  · have e : ss_both S v u x = (-101, S) := by unfold ss_both; simp only [ev]
    rw [e] at hK
    exact hK h r0 tv_ag.rf
end MDV
