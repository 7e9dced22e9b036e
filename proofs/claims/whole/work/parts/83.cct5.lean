/-! THE COMPONENT'S CALLS: the digest -/
theorem sp_mix_s {g : Nat → Int32} {z : Int64} {k : Nat} : ((List.range (k + 1)).map g).foldl sp_mix z = sp_mix (((List.range k).map g).foldl sp_mix z) (g k) := by
  rw [List.range_succ, List.map_append, List.foldl_append]
  rfl
theorem sp_mix_r {F : Nat → List Int32} {z : Int64} {k : Nat} : ((List.range (k + 1)).flatMap F).foldl sp_mix z = (F k).foldl sp_mix (((List.range k).flatMap F).foldl sp_mix z) := by
  rw [List.range_succ, List.flatMap_append, List.foldl_append]
  simp only [List.flatMap_cons, List.flatMap_nil, List.append_nil]
theorem sp_mix_n {N : List sp_nd} {F : sp_nd → List Int32} {z : Int64} {k : Nat} (hk : k < N.length) : ((N.take (k + 1)).flatMap F).foldl sp_mix z = (F (sp_n N k)).foldl sp_mix (((N.take k).flatMap F).foldl sp_mix z) := by
  rw [List.take_succ_eq_append_getElem hk, List.flatMap_append, List.foldl_append, sp_n_get hk]
  simp only [List.flatMap_cons, List.flatMap_nil, List.append_nil]
section CCE
variable {ad : Nat → Nat} {d c : Nat} {h h' : tv_AH} {S : sp_S}
theorem ss_ver_in {n : Nat} (hn : n < (ss_vs S).length) (h20 : (ss_vs S).length ≤ 20) : ss_ver S (nI n) = some n := sp_rg_in (by omega) (by omega)
theorem ct_joined {z : Int64} {x : Int32} {K : Int64 → tv_AH → Prop} (hK : K (sp_mix z x) h) : tv_CJ ad (d + 1) yX2_joined [.long z, .int x] h K := nX2_joined _ _ h hK
theorem ct_digestOfVersion {v : Nat} {z : Int64} (ok : ss_ok S c) (r : cp_rep S h) (hv : v < (ss_vs S).length) {K : Int64 → tv_AH → Prop} (hK : K ((sp_dgv S v).foldl sp_mix z) h) : tv_CJ ad (d + 4) yX2_digestOfVersion [.ref (ad 0), .long z, .int (nI v)] h K := by
  have o2 := ok.2.1
  have kn := r.v hv
  have vn := ok.v hv
  have n96 := sp_N_len (f := ss_f S) (w := ss_w S) vn.1.1
  have n24 := vn.1.1
  have ev := ss_ver_in hv o2.2.1
  refine nX2_digestOfVersion _ _ h ?_
  unfold sp_dgv at hK
  rw [List.foldl_append, List.foldl_append, List.foldl_append] at hK
  -- from the entries on
  have C : ∀ t i, i + t = (ss_v S v).1.length → tv_Wp ad RX2 cX2_digestOfVersion 9 (some .long) (d + 3) (tv_pJ K) 93 [(0, .ref (ad 0)), (3, .int (nI v)), (4, .long (((List.range i).flatMap (fun i => (List.range 3).map (sp_entry (ss_f S) (ss_w S) (ss_v S v).1 i))).foldl sp_mix (((sp_N (ss_f S) (ss_w S) (ss_v S v).1).flatMap (fun x => (List.range 5).map (sp_node (ss_f S) (ss_w S) (ss_v S v).1 x))).foldl sp_mix (((List.range 6).map (sp_about (ss_f S) (ss_w S) (ss_v S v).1)).foldl sp_mix z)))), (6, .ref (ad (tv_tp (h.2.2 1 v)))), (7, .int (nI i))] [] h := by
    generalize (((sp_N (ss_f S) (ss_w S) (ss_v S v).1).flatMap (fun x => (List.range 5).map (sp_node (ss_f S) (ss_w S) (ss_v S v).1 x))).foldl sp_mix (((List.range 6).map (sp_about (ss_f S) (ss_w S) (ss_v S v).1)).foldl sp_mix z)) = z2 at hK ⊢
    intro t
    induction t with
    | zero =>
      intro i hi
      refine bX2_digestOfVersion_93 _ _ _ _ h ?_
      rw [kn.1.1]
      refine pk_le (ss_v S v).1.length i (fun _ => ?_) (fun q => absurd q (by omega))
      rw [show i = (ss_v S v).1.length by omega]
      refine tv_ne v 0 (fun q => ?_) (fun q => ?_)
      · rw [if_neg q] at hK
        rw [show nI v - 1 = nI (v - 1) from pk_sub (show 1 ≤ v by omega)]
        refine cc_shared (d := d) ok r (ct_joined (d := d + 2) ?_)
        have e : (ss_shared S (nI v) (nI (v - 1))).1 = nI (sp_shr (ss_v S v).2 (ss_v S (v - 1)).2) := by
          unfold ss_shared
          rw [ev, ss_ver_in (show v - 1 < (ss_vs S).length by omega) o2.2.1]
        rw [e]
        exact hK
      · rw [if_pos q] at hK
        exact hK
    | succ t ih =>
      intro i hi
      have hil : i < (ss_v S v).1.length := by omega
      refine bX2_digestOfVersion_93 _ _ _ _ h ?_
      rw [kn.1.1]
      refine pk_le (ss_v S v).1.length i (fun q => absurd q (by omega)) (fun _ => ?_)
      have ihn := ih (i + 1) (by omega)
      rw [sp_mix_r] at ihn
      generalize ((List.range i).flatMap (fun i => (List.range 3).map (sp_entry (ss_f S) (ss_w S) (ss_v S v).1 i))).foldl sp_mix z2 = z3 at ihn ⊢
      have I : ∀ u k, k + u = 3 → tv_Wp ad RX2 cX2_digestOfVersion 9 (some .long) (d + 3) (tv_pJ K) 106 [(0, .ref (ad 0)), (3, .int (nI v)), (4, .long (((List.range k).map (sp_entry (ss_f S) (ss_w S) (ss_v S v).1 i)).foldl sp_mix z3)), (6, .ref (ad (tv_tp (h.2.2 1 v)))), (7, .int (nI i)), (8, .int (nI k))] [] h := by
        intro u
        induction u with
        | zero =>
          intro k hk
          refine bX2_digestOfVersion_106 _ _ _ _ _ h (pk_lt 2 k (fun _ => ?_) (fun q => absurd q (by omega)))
          rw [show k = 3 by omega, nI_1]
          exact ihn
        | succ u ih2 =>
          intro k hk
          refine bX2_digestOfVersion_106 _ _ _ _ _ h (pk_lt 2 k (fun q => absurd q (by omega)) (fun _ => ?_))
          refine cc_entry (d := d + 1) ok r (ct_joined (d := d + 2) ?_)
          have e : (ss_entry S (nI v) (nI i) (nI k)).1 = sp_entry (ss_f S) (ss_w S) (ss_v S v).1 i k := by
            unfold ss_entry
            simp only [ev, sp_rg_in (show k ≤ 2 by omega) (by omega)]
            rw [if_pos ⟨nI_pos' (by omega), nI_lt hil (by omega)⟩, tv_nc i]
          rw [e, nI_1, ← sp_mix_s]
          exact ih2 (k + 1) (by omega)
      exact I 3 0 (by omega)
  have B : ∀ t i, i + t = (sp_N (ss_f S) (ss_w S) (ss_v S v).1).length → tv_Wp ad RX2 cX2_digestOfVersion 9 (some .long) (d + 3) (tv_pJ K) 43 [(0, .ref (ad 0)), (3, .int (nI v)), (4, .long ((((sp_N (ss_f S) (ss_w S) (ss_v S v).1).take i).flatMap (fun x => (List.range 5).map (sp_node (ss_f S) (ss_w S) (ss_v S v).1 x))).foldl sp_mix (((List.range 6).map (sp_about (ss_f S) (ss_w S) (ss_v S v).1)).foldl sp_mix z))), (6, .ref (ad (tv_tp (h.2.2 1 v)))), (7, .int (nI i))] [] h := by
    have C0 := C (ss_v S v).1.length 0 (by omega)
    clear C hK
    generalize ((List.range 6).map (sp_about (ss_f S) (ss_w S) (ss_v S v).1)).foldl sp_mix z = z1 at C0 ⊢
    intro t
    induction t with
    | zero =>
      intro i hi
      refine bX2_digestOfVersion_43 _ _ _ _ h ?_
      rw [kn.2.1.1]
      refine pk_le (sp_N (ss_f S) (ss_w S) (ss_v S v).1).length i (fun _ => ?_) (fun q => absurd q (by omega))
      rw [show i = (sp_N (ss_f S) (ss_w S) (ss_v S v).1).length by omega, List.take_length]
      exact C0
    | succ t ih =>
      intro i hi
      have hil : i < (sp_N (ss_f S) (ss_w S) (ss_v S v).1).length := by omega
      refine bX2_digestOfVersion_43 _ _ _ _ h ?_
      rw [kn.2.1.1]
      refine pk_le (sp_N (ss_f S) (ss_w S) (ss_v S v).1).length i (fun q => absurd q (by omega)) (fun _ => ?_)
      have ihn := ih (i + 1) (by omega)
      rw [sp_mix_n hil] at ihn
      generalize (((sp_N (ss_f S) (ss_w S) (ss_v S v).1).take i).flatMap (fun x => (List.range 5).map (sp_node (ss_f S) (ss_w S) (ss_v S v).1 x))).foldl sp_mix z1 = z3 at ihn ⊢
      have I : ∀ u k, k + u = 5 → tv_Wp ad RX2 cX2_digestOfVersion 9 (some .long) (d + 3) (tv_pJ K) 56 [(0, .ref (ad 0)), (3, .int (nI v)), (4, .long (((List.range k).map (sp_node (ss_f S) (ss_w S) (ss_v S v).1 (sp_n (sp_N (ss_f S) (ss_w S) (ss_v S v).1) i))).foldl sp_mix z3)), (6, .ref (ad (tv_tp (h.2.2 1 v)))), (7, .int (nI i)), (8, .int (nI k))] [] h := by
        intro u
        induction u with
        | zero =>
          intro k hk
          refine bX2_digestOfVersion_56 _ _ _ _ _ h (pk_lt 4 k (fun _ => ?_) (fun q => absurd q (by omega)))
          rw [show k = 5 by omega, nI_1]
          exact ihn
        | succ u ih2 =>
          intro k hk
          refine bX2_digestOfVersion_56 _ _ _ _ _ h (pk_lt 4 k (fun q => absurd q (by omega)) (fun _ => ?_))
          refine cc_node (d := d + 1) ok r (ct_joined (d := d + 2) ?_)
          have e : (ss_node S (nI v) (nI i) (nI k)).1 = sp_node (ss_f S) (ss_w S) (ss_v S v).1 (sp_n (sp_N (ss_f S) (ss_w S) (ss_v S v).1) i) k := by
            unfold ss_node
            simp only [ev, sp_rg_in (show k ≤ 4 by omega) (by omega)]
            rw [if_pos ⟨nI_pos' (by omega), nI_lt hil (by omega)⟩, tv_nc i]
          rw [e, nI_1, ← sp_mix_s]
          exact ih2 (k + 1) (by omega)
      exact I 5 0 (by omega)
  have B0 := B (sp_N (ss_f S) (ss_w S) (ss_v S v).1).length 0 (by omega)
  clear B C hK
  rw [List.take_zero, List.flatMap_nil, List.foldl_nil, show nI 0 = 0 from rfl] at B0
  have A : ∀ u k, k + u = 6 → tv_Wp ad RX2 cX2_digestOfVersion 9 (some .long) (d + 3) (tv_pJ K) 6 [(0, .ref (ad 0)), (3, .int (nI v)), (4, .long (((List.range k).map (sp_about (ss_f S) (ss_w S) (ss_v S v).1)).foldl sp_mix z)), (6, .int (nI k))] [] h := by
    intro u
    induction u with
    | zero =>
      intro k hk
      refine bX2_digestOfVersion_6 _ _ _ h (pk_lt 5 k (fun _ => ?_) (fun q => absurd q (by omega)))
      rw [show k = 6 by omega, tv_nc v]
      exact ⟨pk_in v 20 (by omega), B0⟩
    | succ u ih2 =>
      intro k hk
      refine bX2_digestOfVersion_6 _ _ _ h (pk_lt 5 k (fun q => absurd q (by omega)) (fun _ => ?_))
      refine cc_about (d := d + 1) ok r (ct_joined (d := d + 2) ?_)
      have e : (ss_about S (nI v) (nI k)).1 = sp_about (ss_f S) (ss_w S) (ss_v S v).1 k := by
        unfold ss_about
        simp only [ev, sp_rg_in (show k ≤ 5 by omega) (by omega)]
      rw [e, nI_1, ← sp_mix_s]
      exact ih2 (k + 1) (by omega)
  exact A 6 0 (by omega)
theorem cc_digest (ok : ss_ok S c) (r : cp_rep S h) {K : Int64 → tv_AH → Prop} (hK : K (ss_digest S) h) : tv_CJ ad (d + 5) yX2_digest [.ref (ad 0)] h K := by
  have o2 := ok.2.1
  have o4 := ok.2.2.2.1
  have r5 := r.2.2.2.2.1
  refine nX2_digest h ?_
  unfold ss_digest sp_dgs at hK
  rw [List.foldl_append, List.foldl_append, List.foldl_append] at hK
  have D : ∀ z, K (((List.range 9).map (fun k => nI (sp_count S k))).foldl sp_mix z) h → tv_Wp ad RX2 cX2_digest 4 (some .long) (d + 4) (tv_pJ K) 92 [(0, .ref (ad 0)), (1, .long z), (3, .int 0)] [] h := by
    intro z hz
    have I : ∀ u k, k + u = 9 → tv_Wp ad RX2 cX2_digest 4 (some .long) (d + 4) (tv_pJ K) 92 [(0, .ref (ad 0)), (1, .long (((List.range k).map (fun k => nI (sp_count S k))).foldl sp_mix z)), (3, .int (nI k))] [] h := by
      intro u
      induction u with
      | zero =>
        intro k hk
        refine bX2_digest_92 _ _ h (pk_lt 8 k (fun _ => ?_) (fun q => absurd q (by omega)))
        rw [show k = 9 by omega]
        exact hz
      | succ u ih =>
        intro k hk
        refine bX2_digest_92 _ _ h (pk_lt 8 k (fun q => absurd q (by omega)) (fun _ => ?_))
        refine cc_count (d := d + 2) ok r (ct_joined (d := d + 3) ?_)
        have e : (ss_count S (nI k)).1 = nI (sp_count S k) := by
          unfold ss_count
          simp only [sp_rg_in (show k ≤ 8 by omega) (by omega)]
        rw [e, nI_1]
        have := ih (k + 1) (by omega)
        rw [sp_mix_s] at this
        exact this
    exact I 9 0 (by omega)
  have P : ∀ z, K (((List.range 9).map (fun k => nI (sp_count S k))).foldl sp_mix (((ss_pg S).map nI).foldl sp_mix z)) h → tv_Wp ad RX2 cX2_digest 4 (some .long) (d + 4) (tv_pJ K) 59 [(0, .ref (ad 0)), (1, .long z), (3, .int 0)] [] h := by
    intro z hz
    have I : ∀ u k, k + u = (ss_pg S).length → tv_Wp ad RX2 cX2_digest 4 (some .long) (d + 4) (tv_pJ K) 59 [(0, .ref (ad 0)), (1, .long ((((ss_pg S).take k).map nI).foldl sp_mix z)), (3, .int (nI k))] [] h := by
      intro u
      induction u with
      | zero =>
        intro k hk
        refine bX2_digest_59 _ _ h ?_
        rw [r5.1]
        refine pk_le (ss_pg S).length k (fun _ => ?_) (fun q => absurd q (by omega))
        rw [show k = (ss_pg S).length by omega, List.take_length]
        exact D _ hz
      | succ u ih =>
        intro k hk
        have hk2 : k < (ss_pg S).length := by omega
        refine bX2_digest_59 _ _ h ?_
        rw [r5.1, tv_nc k, r5.2 k hk2]
        refine pk_le (ss_pg S).length k (fun q => absurd q (by omega)) (fun _ => ⟨pk_in k 60 (by omega), ct_joined (d := d + 3) ?_⟩)
        have := ih (k + 1) (by omega)
        rw [List.take_succ_eq_append_getElem hk2, List.map_append, List.foldl_append] at this
        have eg : (ss_pg S).getD k 0 = (ss_pg S)[k] := by simp [List.getD_eq_getElem?_getD, hk2]
        rw [eg, nI_1]
        exact this
    exact I (ss_pg S).length 0 (by omega)
  have H : ∀ t v, v + t = (ss_vs S).length → tv_Wp ad RX2 cX2_digest 4 (some .long) (d + 4) (tv_pJ K) 6 [(0, .ref (ad 0)), (1, .long (((List.range v).flatMap (sp_dgv S)).foldl sp_mix 1579)), (3, .int (nI v))] [] h := by
    intro t
    induction t with
    | zero =>
      intro v hv
      refine bX2_digest_6 _ _ h ?_
      rw [r.2.1]
      refine pk_le (ss_vs S).length v (fun _ => ?_) (fun q => absurd q (by omega))
      rw [show v = (ss_vs S).length by omega]
      generalize ((List.range (ss_vs S).length).flatMap (sp_dgv S)).foldl sp_mix 1579 = z1 at hK ⊢
      cases hed : ss_ed S with
      | none =>
        rw [hed] at hK
        rw [r.no hed]
        exact tv_c0 (P _ hK)
      | some tt =>
        obtain ⟨V, own, mi⟩ := tt
        rw [hed] at hK
        rw [(r.ed hed).1]
        refine tv_c1 ?_
        have I : ∀ u k, k + u = 4 → tv_Wp ad RX2 cX2_digest 4 (some .long) (d + 4) (tv_pJ K) 36 [(0, .ref (ad 0)), (1, .long (((List.range k).map (fun k => nI (sp_edit V own mi k))).foldl sp_mix z1)), (3, .int (nI k))] [] h := by
          intro u
          induction u with
          | zero =>
            intro k hk
            refine bX2_digest_36 _ _ h (pk_lt 3 k (fun _ => ?_) (fun q => absurd q (by omega)))
            rw [show k = 4 by omega]
            exact P _ hK
          | succ u ih =>
            intro k hk
            refine bX2_digest_36 _ _ h (pk_lt 3 k (fun q => absurd q (by omega)) (fun _ => ?_))
            have e : (ss_edit S (nI k)) = (nI (sp_edit V own mi k), S) := by
              unfold ss_edit
              simp only [hed, sp_rg_in (show k ≤ 3 by omega) (by omega)]
            refine cc_editq (d := d + 2) ok r ?_
            rw [e]
            refine ct_joined (d := d + 3) ?_
            rw [nI_1]
            have := ih (k + 1) (by omega)
            rw [sp_mix_s] at this
            exact this
        exact I 4 0 (by omega)
    | succ t ih =>
      intro v hv
      refine bX2_digest_6 _ _ h ?_
      rw [r.2.1]
      refine pk_le (ss_vs S).length v (fun q => absurd q (by omega)) (fun _ => ?_)
      refine ct_digestOfVersion (d := d) ok r (by omega) ?_
      rw [nI_1, ← sp_mix_r]
      exact ih (v + 1) (by omega)
  exact H (ss_vs S).length 0 (by omega)
end CCE
