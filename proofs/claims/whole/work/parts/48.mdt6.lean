/-! THE REFERENCE: counts and the digest -/
section MDZ
variable {ad : Nat → Nat} {d c : Nat} {h : tv_AH} {S : sp_S}
/-- numbers of version v that no earlier version has -/
theorem sp_all_take (L : List Nat) (n : Nat) : (List.range (n + 1)).all (fun e => L.getD e 0 == 0) = ((List.range n).all (fun e => L.getD e 0 == 0) && L.getD n 0 == 0) := by
  rw [List.range_succ, List.all_append]
  simp
def sp_isn (vs : List sp_V) (v x : Nat) : Bool := (List.range v).all (fun e => !((vs.getD e ([], [])).2.contains x))
theorem sp_isn_s (vs : List sp_V) (v x : Nat) : sp_isn vs (v + 1) x = (sp_isn vs v x && !((vs.getD v ([], [])).2.contains x)) := by
  unfold sp_isn
  rw [List.range_succ, List.all_append]
  simp
theorem sp_isn_f {vs : List sp_V} {v x : Nat} : ∀ {n : Nat}, v ≤ n → sp_isn vs v x = false → sp_isn vs n x = false
  | 0, h, e => by rw [show v = 0 by omega] at e; exact e
  | n + 1, h, e => by
    by_cases z : v = n + 1
    · rw [z] at e; exact e
    · rw [sp_isn_s, sp_isn_f (by omega) e, Bool.false_and]
theorem sp_nw_eq (vs : List sp_V) (v : Nat) : sp_nw vs v = ((vs.getD v ([], [])).2.filter (fun i => sp_isn vs v i)).length := rfl
theorem sp_nw_le {vs : List sp_V} {v : Nat} (h : (vs.getD v ([], [])).2.length ≤ 96) : sp_nw vs v ≤ 96 := by
  rw [sp_nw_eq]
  exact Nat.le_trans (List.length_filter_le _ _) h
theorem md_allNodes (hv : h.1 400 4 = nI (ss_vs S).length) (hl : (ss_vs S).length ≤ 20) (km : ∀ v, v < (ss_vs S).length → md_M v (ss_f S) (ss_w S) (ss_v S v).1 (ss_v S v).2 (2 ^ 30) h) {K : Int32 → tv_AH → Prop} (hK : K (nI (sp_all (ss_vs S))) h) : tv_CI ad (d + 2) yX3_allNodes [.ref (ad 400)] h K := by
  refine nX3_allNodes h ?_
  have hnl : ∀ v, v < (ss_vs S).length → (ss_v S v).2.length ≤ 96 := fun v hv2 => by
    have := (km v hv2).2.2.2.2.1
    have := sp_N_len (f := ss_f S) (w := ss_w S) (km v hv2).2.1.1
    omega
  have H : ∀ t v, v + t = (ss_vs S).length → tv_Wp ad RX3 cX3_allNodes 6 (some .int) (d + 1) (tv_pI K) 4 [(0, .ref (ad 400)), (1, .int (nI ((List.range v).map (sp_nw (ss_vs S))).sum)), (2, .int (nI v))] [] h := by
    intro t
    induction t with
    | zero =>
      intro v hvt
      refine bX3_allNodes_4 _ _ h ?_
      rw [hv]
      refine pk_le (ss_vs S).length v (fun _ => ?_) (fun q => absurd q (by omega))
      rw [show v = (ss_vs S).length by omega]
      exact hK
    | succ t ih =>
      intro v hvt
      refine bX3_allNodes_4 _ _ h ?_
      rw [hv]
      refine pk_le (ss_vs S).length v (fun q => absurd q (by omega)) (fun q => ?_)
      have kv := km v q
      have hlv := hnl v q
      have hlN := kv.2.2.2.2.1
      generalize hb : ((List.range v).map (sp_nw (ss_vs S))).sum = b
      have N : ∀ u k, k + u = (ss_v S v).2.length → tv_Wp ad RX3 cX3_allNodes 6 (some .int) (d + 1) (tv_pI K) 14 [(0, .ref (ad 400)), (1, .int (nI (b + (((ss_v S v).2.take k).filter (fun i => sp_isn (ss_vs S) v i)).length))), (2, .int (nI v)), (3, .int (nI k))] [] h := by
        intro u
        induction u with
        | zero =>
          intro k hk
          refine bX3_allNodes_14 _ _ _ h ?_
          rw [tv_nc v, kv.2.2.1]
          refine ⟨pk_in v 22 (by omega), pk_le (sp_N (ss_f S) (ss_w S) (ss_v S v).1).length k (fun _ => ?_) (fun q => absurd q (by omega))⟩
          rw [nI_1]
          have hn := ih (v + 1) (by omega)
          rw [List.range_succ, List.map_append, List.sum_append, hb] at hn
          rw [show k = (ss_v S v).2.length by omega, List.take_length]
          simp only [List.map_cons, List.map_nil, List.sum_cons, List.sum_nil, Nat.add_zero] at hn
          exact hn
        | succ u ihu =>
          intro k hk
          have hkl : k < (ss_v S v).2.length := by omega
          refine bX3_allNodes_14 _ _ _ h ?_
          rw [tv_nc v, kv.2.2.1]
          refine ⟨pk_in v 22 (by omega), pk_le (sp_N (ss_f S) (ss_w S) (ss_v S v).1).length k (fun q => absurd q (by omega)) (fun q2 => ?_)⟩
          have hid : (ss_v S v).2[k] = sp_id (ss_v S v).2 k := by simp [sp_id, List.getD_eq_getElem?_getD, hkl]
          have hc := sp_cnt (p := fun i => sp_isn (ss_vs S) v i) hkl
          rw [hid] at hc
          have hx := kv.2.2.2.2.2.1 k hkl
          generalize hxx : sp_id (ss_v S v).2 k = x at hc hx
          have fin : tv_Wp ad RX3 cX3_allNodes 6 (some .int) (d + 1) (tv_pI K) 14 [(0, .ref (ad 400)), (1, .int (nI (b + ((((ss_v S v).2.take k).filter (fun i => sp_isn (ss_vs S) v i)).length + if sp_isn (ss_vs S) v x = true then 1 else 0)))), (2, .int (nI v)), (3, .int (nI (k + 1)))] [] h := by
            have := ihu (k + 1) (by omega)
            rw [hc] at this
            exact this
          have e1 : ∀ z : Int32, z = (if sp_isn (ss_vs S) v x then 1 else 0) → ((z = 0 → tv_Wp ad RX3 cX3_allNodes 6 (some .int) (d + 1) (tv_pI K) 14 [(0, .ref (ad 400)), (1, .int (nI (b + (((ss_v S v).2.take k).filter (fun i => sp_isn (ss_vs S) v i)).length) + 0)), (2, .int (nI v)), (3, .int (nI k + 1))] [] h) ∧ (¬ z = 0 → tv_Wp ad RX3 cX3_allNodes 6 (some .int) (d + 1) (tv_pI K) 14 [(0, .ref (ad 400)), (1, .int (nI (b + (((ss_v S v).2.take k).filter (fun i => sp_isn (ss_vs S) v i)).length) + 1)), (2, .int (nI v)), (3, .int (nI k + 1))] [] h)) := by
            intro z hz
            by_cases y : sp_isn (ss_vs S) v x = true
            · rw [if_pos y] at hz fin
              rw [hz]
              refine tv_c1 ?_
              rw [nI_1, nI_1, Nat.add_assoc]
              exact fin
            · rw [if_neg y] at hz fin
              rw [hz]
              refine tv_c0 ?_
              rw [nI_1, show (0 : Int32) = nI 0 from rfl, nI_add, Nat.add_assoc]
              exact fin
          have L : ∀ n e (z : Int32), e + n = v → z = (if sp_isn (ss_vs S) e x then 1 else 0) → tv_Wp ad RX3 cX3_allNodes 6 (some .int) (d + 1) (tv_pI K) 30 [(0, .ref (ad 400)), (1, .int (nI (b + (((ss_v S v).2.take k).filter (fun i => sp_isn (ss_vs S) v i)).length))), (2, .int (nI v)), (3, .int (nI k)), (4, .int z), (5, .int (nI e))] [] h := by
            intro n
            induction n with
            | zero =>
              intro e z he hz
              have : e = v := by omega
              subst this
              exact bX3_allNodes_30 _ _ _ _ _ h (pk_le e e (fun _ => e1 z hz) (fun y => absurd y (by omega)))
            | succ n ihn =>
              intro e z he hz
              refine bX3_allNodes_30 _ _ _ _ _ h (pk_le v e (fun y => absurd y (by omega)) (fun y => ⟨fun y0 => ?_, fun y0 => ?_⟩))
              · have hf : sp_isn (ss_vs S) e x = false := by
                  cases u : sp_isn (ss_vs S) e x with
                  | false => rfl
                  | true => rw [hz, u, if_pos rfl] at y0; exact absurd y0 (by decide)
                have hfv := sp_isn_f (n := v) (by omega) hf
                exact e1 z (by rw [y0, hfv]; rfl)
              · have ht : sp_isn (ss_vs S) e x = true := Classical.byContradiction fun u => y0 (by rw [hz, if_neg u])
                have hs := sp_isn_s (ss_vs S) e x
                rw [ht, Bool.true_and] at hs
                rw [tv_96, tv_nc (96 * v + k), (kv.2.2.2.2.2.2 k hkl).1, hxx]
                refine ⟨pk_in (96 * v + k) 2112 (by omega), md_hasNode (by omega) (km e (by omega)) hx ?_⟩
                rw [nI_1]
                by_cases yc : (ss_v S e).2.contains x = true
                · rw [if_pos yc]
                  refine tv_b1 (ihn (e + 1) 0 (by omega) ?_)
                  rw [hs]
                  change _ = if (!(ss_v S e).2.contains x) = true then _ else _
                  rw [yc]; rfl
                · rw [if_neg yc]
                  refine tv_b0 (ihn (e + 1) 1 (by omega) ?_)
                  rw [hs]
                  change _ = if (!(ss_v S e).2.contains x) = true then _ else _
                  have yc2 : (ss_v S e).2.contains x = false := by simpa using yc
                  rw [yc2]; rfl
          exact L v 0 1 (by omega) rfl
      exact N (ss_v S v).2.length 0 (by omega)
  exact H (ss_vs S).length 0 (by omega)
theorem md_howMany {k : Nat} (ok : ss_ok S c) (r : md_rep S h) (hk : k ≤ 8) {K : Int32 → tv_AH → Prop} (hK : K (nI (sp_count S k)) h) : tv_CI ad (d + 3) yX3_howMany [.ref (ad 400), .int (nI k)] h K := by
  obtain ⟨r1, r2, r3, r4, r5, r6⟩ := r
  refine nX3_howMany _ h ?_
  rw [nI_toInt (show k < 2 ^ 31 by omega)]
  unfold sp_count at hK
  refine ⟨fun z => ?_, fun z => ?_, fun z => ?_, fun z => ?_, fun z => ?_, fun z => ?_, fun z => ?_, fun z => ?_, fun z => ?_, fun z => absurd z (by omega)⟩
  · rw [if_pos (by omega)] at hK
    rw [r2]; exact hK
  · rw [if_neg (by omega), if_pos (by omega)] at hK
    rw [r5.1]; exact hK
  · rw [if_neg (by omega), if_neg (by omega), if_pos (by omega)] at hK
    exact md_allNodes r2 ok.2.1.2.1 r3 hK
  · rw [if_neg (by omega), if_neg (by omega), if_neg (by omega), if_pos (by omega)] at hK
    rw [r4.1]; exact hK
  · rw [if_neg (by omega), if_neg (by omega), if_neg (by omega), if_neg (by omega), if_pos (by omega)] at hK
    rw [r5.2.1]; exact hK
  · rw [if_neg (by omega), if_neg (by omega), if_neg (by omega), if_neg (by omega), if_neg (by omega), if_pos (by omega)] at hK
    rw [r5.2.2]; exact hK
  · rw [if_neg (by omega), if_neg (by omega), if_neg (by omega), if_neg (by omega), if_neg (by omega), if_neg (by omega), if_pos (by omega)] at hK
    unfold md_ed at r6
    cases hed : ss_ed S with
    | none =>
      rw [hed] at r6 hK
      rw [r6.1]
      exact tv_c0 hK
    | some t =>
      obtain ⟨V, own, mi⟩ := t
      rw [hed] at r6 hK
      rw [r6.1]
      exact tv_c1 hK
  · rw [if_neg (by omega), if_neg (by omega), if_neg (by omega), if_neg (by omega), if_neg (by omega), if_neg (by omega), if_neg (by omega), if_pos (by omega)] at hK
    rw [r1.1]; exact hK
  · rw [if_neg (by omega), if_neg (by omega), if_neg (by omega), if_neg (by omega), if_neg (by omega), if_neg (by omega), if_neg (by omega), if_neg (by omega)] at hK
    rw [r1.2.1]; exact hK
theorem mt_count {x : Int32} (ok : ss_ok S c) (r : md_rep S h) {K : Int32 → tv_AH → Prop} (hK : ∀ h', md_rep (ss_count S x).2 h' → tv_ag md_hi h h' → K (ss_count S x).1 h') : tv_CI ad (d + 4) yX3_count [.ref (ad 400), .int x] h K := by
  refine nX3_count _ h ?_
  cases evx : sp_rg x 8 with
  | some k =>
    obtain ⟨k1, k2⟩ := sp_rg_some (by omega) evx
    have e : ss_count S x = (nI (sp_count S k), S) := by unfold ss_count; simp only [evx]
    rw [e] at hK
    subst k2
    exact md_howMany ok r k1 (hK h r tv_ag.rf)
  | none =>
    have e : ss_count S x = (-102, S) := by unfold ss_count; simp only [evx]
    rw [e] at hK
    have hn := sp_rg_none evx
    have hr : x.toInt < 0 ∨ 9 ≤ x.toInt := by
      rcases Int.lt_or_le x.toInt 0 with z | z
      · exact Or.inl z
      · refine Or.inr ?_
        rcases Int.lt_or_le x.toInt 9 with y | y
        · exact absurd ⟨by rw [Int32.le_iff_toInt_le]; exact z, by rw [Int32.le_iff_toInt_le, nI_toInt (by omega)]; omega⟩ hn
        · exact y
    refine nX3_howMany _ h ⟨fun z => ?_, fun z => ?_, fun z => ?_, fun z => ?_, fun z => ?_, fun z => ?_, fun z => ?_, fun z => ?_, fun z => ?_, fun _ => hK h r tv_ag.rf⟩ <;> exact absurd z (by omega)
/-- the reference's digest: a value joined -/
theorem md_mix {x : Int64} {K : tv_AH → Prop} (hK : K (tv_wJ h 400 33 (31 * h.2.1 400 33 + x))) : tv_CV ad (d + 1) yX3_mix [.ref (ad 400), .long x] h K := by
  refine nX3_mix _ h (fun h1 w1 => ?_)
  rw [w1]; exact hK
/-- the heaps differ in the digest alone -/
def md_dg (h h' : tv_AH) : Prop := h'.1 = h.1 ∧ h'.2.2 = h.2.2 ∧ ∀ q, q ≠ 400 → h'.2.1 q = h.2.1 q
theorem md_dg.rf : md_dg h h := ⟨rfl, rfl, fun _ _ => rfl⟩
theorem md_dg.w {h' : tv_AH} {x : Int64} (k : md_dg h h') : md_dg h (tv_wJ h' 400 33 x) := ⟨k.1, k.2.1, fun q n => by rw [tv_wJn _ _ _ _ n]; exact k.2.2 q n⟩
theorem md_rep.dg {h' : tv_AH} (r : md_rep S h) (k : md_dg h h') : md_rep S h' := by
  have e : h'.1 = h.1 := k.1
  obtain ⟨r1, r2, r3, r4, r5, r6⟩ := r
  refine ⟨?_, ?_, fun v hv => (r3 v hv).cg (fun q i _ => by rw [e]), ?_, ?_, ?_⟩
  · unfold md_sc at *; rw [e]; exact r1
  · rw [e]; exact r2
  · rw [e]; exact r4
  · rw [e]; exact r5
  · unfold md_ed at *
    cases hed : ss_ed S with
    | none =>
      rw [hed] at r6
      obtain ⟨q1, E0, q2, q3⟩ := r6
      exact ⟨by rw [e]; exact q1, E0, q2.cg q3.1 (fun q i _ => by rw [e]), q3⟩
    | some t =>
      obtain ⟨V, own, mi⟩ := t
      rw [hed] at r6
      exact ⟨by rw [e]; exact r6.1, by rw [e]; exact r6.2.1, r6.2.2.cg (fun q i _ => by rw [e])⟩
theorem md_mixVersion {v : Nat} {z : Int64} (ok : ss_ok S c) (r : md_rep S h) (hz : h.2.1 400 33 = z) (hv : v < (ss_vs S).length) {K : tv_AH → Prop} (hK : ∀ h', md_dg h h' → h'.2.1 400 33 = (sp_dgv S v).foldl sp_mix z → K h') : tv_CV ad (d + 5) yX3_mixVersion [.ref (ad 400), .int (nI v)] h K := by
  have hl := ok.2.1.2.1
  have mixed : ∀ {h1 : tv_AH} {y : Int64} {x : Int32} {K1 : tv_AH → Prop}, h1.2.1 400 33 = y → (∀ h2, md_dg h1 h2 → h2.2.1 400 33 = sp_mix y x → K1 h2) → tv_CV ad (d + 4) yX3_mix [.ref (ad 400), .long (Int32.toInt64 x)] h1 K1 := by
    intro h1 y x K1 hy hk
    refine md_mix (hk _ md_dg.rf.w ?_)
    rw [tv_wJ2, if_pos ⟨rfl, rfl⟩, hy]
    rfl
  have trd : ∀ {a b e : tv_AH}, md_dg a b → md_dg b e → md_dg a e := fun p q => ⟨q.1.trans p.1, q.2.1.trans p.2.1, fun u n => (q.2.2 u n).trans (p.2.2 u n)⟩
  refine nX3_mixVersion _ h ?_
  unfold sp_dgv at hK
  generalize hA1 : (List.range 6).map (sp_about (ss_f S) (ss_w S) (ss_v S v).1) = A1 at hK
  generalize hA2 : (sp_N (ss_f S) (ss_w S) (ss_v S v).1).flatMap (fun x => (List.range 5).map (sp_node (ss_f S) (ss_w S) (ss_v S v).1 x)) = A2 at hK
  generalize hA3 : (List.range (ss_v S v).1.length).flatMap (fun i => (List.range 3).map (sp_entry (ss_f S) (ss_w S) (ss_v S v).1 i)) = A3 at hK
  generalize hA4 : (if v = 0 then [] else [nI (sp_shr (ss_v S v).2 (ss_v S (v - 1)).2)]) = A4 at hK
  rw [List.foldl_append, List.foldl_append, List.foldl_append] at hK
  have kv0 := r.2.2.1 v hv
  have hN96 := sp_N_len (f := ss_f S) (w := ss_w S) kv0.2.1.1
  have h24 := kv0.2.1.1
  -- entries
  have ent : ∀ t k (h1 : tv_AH), k + t = 3 * (ss_v S v).1.length → md_dg h h1 → h1.2.1 400 33 = ((List.range k).map (fun j => sp_entry (ss_f S) (ss_w S) (ss_v S v).1 (j / 3) (j % 3))).foldl sp_mix (A2.foldl sp_mix (A1.foldl sp_mix z)) → tv_Wp ad RX3 cX3_mixVersion 3 none (d + 4) (tv_pV K) 63 [(0, .ref (ad 400)), (1, .int (nI v)), (2, .int (nI k))] [] h1 := by
    have flat : (List.range (3 * (ss_v S v).1.length)).map (fun j => sp_entry (ss_f S) (ss_w S) (ss_v S v).1 (j / 3) (j % 3)) = A3 := by
      rw [← hA3]
      generalize (ss_v S v).1.length = L
      induction L with
      | zero => rfl
      | succ L ih =>
        rw [List.range_succ (n := L), List.flatMap_append, ← ih, show 3 * (L + 1) = 3 * L + 3 by omega, List.range_add, List.map_append]
        congr 1
        simp only [List.map_map, List.flatMap_cons, List.flatMap_nil, List.append_nil]
        apply List.map_congr_left
        intro j hj
        have := List.mem_range.mp hj
        simp only [Function.comp]
        rw [show (3 * L + j) / 3 = L by omega, show (3 * L + j) % 3 = j by omega]
    intro t
    induction t with
    | zero =>
      intro k h1 hk dg he
      have r1 := r.dg dg
      have kv := r1.2.2.1 v hv
      refine bX3_mixVersion_63 _ _ h1 ?_
      rw [tv_nc v, kv.1.1, show (3 : Int32) = nI 3 from rfl, pk_mul]
      refine ⟨pk_in v 22 (by omega), pk_le (3 * (ss_v S v).1.length) k (fun _ => ?_) (fun q => absurd q (by omega))⟩
      rw [show k = 3 * (ss_v S v).1.length by omega, flat] at he
      refine pk_le v 0 (fun q => ?_) (fun q => ?_)
      · rw [if_pos (by omega)] at hA4
        rw [← hA4] at hK
        exact hK h1 dg he
      · rw [if_neg (by omega)] at hA4
        rw [← hA4] at hK
        rw [show (1 : Int32) = nI 1 from rfl, pk_sub (by omega)]
        refine md_sharedNow (by omega) (by omega) kv (r1.2.2.1 (v - 1) (by omega)) (mixed he (fun h2 d2 e2 => ?_))
        exact hK h2 (trd dg d2) e2
    | succ t ih =>
      intro k h1 hk dg he
      have r1 := r.dg dg
      have kv := r1.2.2.1 v hv
      refine bX3_mixVersion_63 _ _ h1 ?_
      rw [tv_nc v, kv.1.1, show (3 : Int32) = nI 3 from rfl, pk_mul]
      refine ⟨pk_in v 22 (by omega), pk_le (3 * (ss_v S v).1.length) k (fun q => absurd q (by omega)) (fun q => ?_)⟩
      rw [pk_rem (by omega) (by omega) (by omega), pk_div (by omega) (by omega) (by omega)]
      refine md_entryNow (by omega) kv (by omega) (by omega) (mixed he (fun h2 d2 e2 => ?_))
      rw [nI_1]
      refine ih (k + 1) h2 (by omega) (trd dg d2) ?_
      rw [List.range_succ, List.map_append, List.foldl_append]
      exact e2
  -- nodes
  have nod : ∀ t k (h1 : tv_AH), k + t = 5 * (sp_N (ss_f S) (ss_w S) (ss_v S v).1).length → md_dg h h1 → h1.2.1 400 33 = ((List.range k).map (fun j => sp_node (ss_f S) (ss_w S) (ss_v S v).1 (sp_n (sp_N (ss_f S) (ss_w S) (ss_v S v).1) (j / 5)) (j % 5))).foldl sp_mix (A1.foldl sp_mix z) → tv_Wp ad RX3 cX3_mixVersion 3 none (d + 4) (tv_pV K) 27 [(0, .ref (ad 400)), (1, .int (nI v)), (2, .int (nI k))] [] h1 := by
    have flat : (List.range (5 * (sp_N (ss_f S) (ss_w S) (ss_v S v).1).length)).map (fun j => sp_node (ss_f S) (ss_w S) (ss_v S v).1 (sp_n (sp_N (ss_f S) (ss_w S) (ss_v S v).1) (j / 5)) (j % 5)) = A2 := by
      rw [← hA2]
      generalize hNN : sp_N (ss_f S) (ss_w S) (ss_v S v).1 = N
      have key : ∀ L, L ≤ N.length → (List.range (5 * L)).map (fun j => sp_node (ss_f S) (ss_w S) (ss_v S v).1 (sp_n N (j / 5)) (j % 5)) = (N.take L).flatMap (fun x => (List.range 5).map (sp_node (ss_f S) (ss_w S) (ss_v S v).1 x)) := by
        intro L
        induction L with
        | zero => intro _; rfl
        | succ L ih =>
          intro hL
          rw [List.take_succ_eq_append_getElem (by omega), List.flatMap_append, ← ih (by omega), show 5 * (L + 1) = 5 * L + 5 by omega, List.range_add, List.map_append]
          congr 1
          simp only [List.map_map, List.flatMap_cons, List.flatMap_nil, List.append_nil]
          apply List.map_congr_left
          intro j hj
          have := List.mem_range.mp hj
          simp only [Function.comp]
          rw [show (5 * L + j) / 5 = L by omega, show (5 * L + j) % 5 = j by omega, sp_n_get (by omega)]
      rw [key N.length (Nat.le_refl _), List.take_length]
    intro t
    induction t with
    | zero =>
      intro k h1 hk dg he
      have r1 := r.dg dg
      have kv := r1.2.2.1 v hv
      refine bX3_mixVersion_27 _ _ h1 ?_
      rw [tv_nc v, kv.2.2.1, show (5 : Int32) = nI 5 from rfl, pk_mul]
      refine ⟨pk_in v 22 (by omega), pk_le (5 * (sp_N (ss_f S) (ss_w S) (ss_v S v).1).length) k (fun _ => ?_) (fun q => absurd q (by omega))⟩
      rw [show k = 5 * (sp_N (ss_f S) (ss_w S) (ss_v S v).1).length by omega, flat] at he
      exact ent (3 * (ss_v S v).1.length) 0 h1 (by omega) dg he
    | succ t ih =>
      intro k h1 hk dg he
      have r1 := r.dg dg
      have kv := r1.2.2.1 v hv
      refine bX3_mixVersion_27 _ _ h1 ?_
      rw [tv_nc v, kv.2.2.1, show (5 : Int32) = nI 5 from rfl, pk_mul]
      refine ⟨pk_in v 22 (by omega), pk_le (5 * (sp_N (ss_f S) (ss_w S) (ss_v S v).1).length) k (fun q => absurd q (by omega)) (fun q => ?_)⟩
      rw [pk_rem (by omega) (by omega) (by omega), pk_div (by omega) (by omega) (by omega)]
      refine md_nodeNow (by omega) r1.1 kv (by omega) (by omega) (mixed he (fun h2 d2 e2 => ?_))
      rw [nI_1]
      refine ih (k + 1) h2 (by omega) (trd dg d2) ?_
      rw [List.range_succ, List.map_append, List.foldl_append]
      exact e2
  -- figures
  have abo : ∀ t k (h1 : tv_AH), k + t = 6 → md_dg h h1 → h1.2.1 400 33 = ((List.range k).map (sp_about (ss_f S) (ss_w S) (ss_v S v).1)).foldl sp_mix z → tv_Wp ad RX3 cX3_mixVersion 3 none (d + 4) (tv_pV K) 2 [(0, .ref (ad 400)), (1, .int (nI v)), (2, .int (nI k))] [] h1 := by
    intro t
    induction t with
    | zero =>
      intro k h1 hk dg he
      have : k = 6 := by omega
      subst this
      rw [hA1] at he
      exact bX3_mixVersion_2 _ _ h1 (pk_le 6 6 (fun _ => nod (5 * (sp_N (ss_f S) (ss_w S) (ss_v S v).1).length) 0 h1 (by omega) dg he) (fun q => absurd q (by omega)))
    | succ t ih =>
      intro k h1 hk dg he
      have r1 := r.dg dg
      have kv := r1.2.2.1 v hv
      refine bX3_mixVersion_2 _ _ h1 (pk_le 6 k (fun q => absurd q (by omega)) (fun q => ?_))
      refine md_aboutNow (by omega) kv (by omega) (mixed he (fun h2 d2 e2 => ?_))
      rw [nI_1]
      refine ih (k + 1) h2 (by omega) (trd dg d2) ?_
      rw [List.range_succ, List.map_append, List.foldl_append]
      exact e2
  exact abo 6 0 h (by omega) md_dg.rf hz
theorem mt_digest (ok : ss_ok S c) (r : md_rep S h) {K : Int64 → tv_AH → Prop} (hK : ∀ h', md_rep S h' → md_dg h h' → K (ss_digest S) h') : tv_CJ ad (d + 6) yX3_digest [.ref (ad 400)] h K := by
  have hl := ok.2.1.2.1
  have o4 := ok.2.2.2.1.1
  have mixed : ∀ {h1 : tv_AH} {y : Int64} {x : Int32} {K1 : tv_AH → Prop}, h1.2.1 400 33 = y → (∀ h2, md_dg h1 h2 → h2.2.1 400 33 = sp_mix y x → K1 h2) → tv_CV ad (d + 5) yX3_mix [.ref (ad 400), .long (Int32.toInt64 x)] h1 K1 := by
    intro h1 y x K1 hy hk
    refine md_mix (hk _ md_dg.rf.w ?_)
    rw [tv_wJ2, if_pos ⟨rfl, rfl⟩, hy]
    rfl
  have trd : ∀ {a b e : tv_AH}, md_dg a b → md_dg b e → md_dg a e := fun p q => ⟨q.1.trans p.1, q.2.1.trans p.2.1, fun u n => (q.2.2 u n).trans (p.2.2 u n)⟩
  refine nX3_digest h (fun h0 w0 => ?_)
  have d0 : md_dg h h0 := by rw [w0]; exact md_dg.rf.w
  have z0 : h0.2.1 400 33 = 1579 := by rw [w0, tv_wJ2, if_pos ⟨rfl, rfl⟩]
  unfold ss_digest sp_dgs at hK
  generalize hA1 : (List.range (ss_vs S).length).flatMap (sp_dgv S) = A1 at hK
  generalize hA2 : (match ss_ed S with
    | some (V, own, mi) => (List.range 4).map (fun k => nI (sp_edit V own mi k))
    | none => []) = A2 at hK
  generalize hA3 : (ss_pg S).map nI = A3 at hK
  generalize hA4 : (List.range 9).map (fun k => nI (sp_count S k)) = A4 at hK
  rw [List.foldl_append, List.foldl_append, List.foldl_append] at hK
  have cnt : ∀ t k (h1 : tv_AH), k + t = 9 → md_dg h h1 → h1.2.1 400 33 = ((List.range k).map (fun k => nI (sp_count S k))).foldl sp_mix (A3.foldl sp_mix (A2.foldl sp_mix (A1.foldl sp_mix 1579))) → tv_Wp ad RX3 cX3_digest 2 (some .long) (d + 5) (tv_pJ K) 87 [(0, .ref (ad 400)), (1, .int (nI k))] [] h1 := by
    intro t
    induction t with
    | zero =>
      intro k h1 hk dg he
      have : k = 9 := by omega
      subst this
      rw [hA4] at he
      refine bX3_digest_87 _ h1 (pk_le 9 9 (fun _ => ?_) (fun q => absurd q (by omega)))
      rw [he, ← hA2]
      exact hK h1 (r.dg dg) dg
    | succ t ih =>
      intro k h1 hk dg he
      have r1 := r.dg dg
      refine bX3_digest_87 _ h1 (pk_le 9 k (fun q => absurd q (by omega)) (fun q => ?_))
      refine md_howMany ok r1 (by omega) (mixed he (fun h2 d2 e2 => ?_))
      rw [nI_1]
      refine ih (k + 1) h2 (by omega) (trd dg d2) ?_
      rw [List.range_succ, List.map_append, List.foldl_append]
      exact e2
  have pag : ∀ t k (h1 : tv_AH), k + t = (ss_pg S).length → md_dg h h1 → h1.2.1 400 33 = (((ss_pg S).take k).map nI).foldl sp_mix (A2.foldl sp_mix (A1.foldl sp_mix 1579)) → tv_Wp ad RX3 cX3_digest 2 (some .long) (d + 5) (tv_pJ K) 60 [(0, .ref (ad 400)), (1, .int (nI k))] [] h1 := by
    intro t
    induction t with
    | zero =>
      intro k h1 hk dg he
      have r1 := r.dg dg
      refine bX3_digest_60 _ h1 ?_
      rw [r1.2.2.2.1.1]
      rw [show k = (ss_pg S).length by omega, List.take_length, hA3] at he
      exact pk_le (ss_pg S).length k (fun _ => cnt 9 0 h1 (by omega) dg he) (fun q => absurd q (by omega))
    | succ t ih =>
      intro k h1 hk dg he
      have r1 := r.dg dg
      have hkl : k < (ss_pg S).length := by omega
      refine bX3_digest_60 _ h1 ?_
      rw [r1.2.2.2.1.1, tv_nc k, r1.2.2.2.1.2 k hkl]
      refine pk_le (ss_pg S).length k (fun q => absurd q (by omega)) (fun q => ⟨pk_in k 60 (by omega), mixed he (fun h2 d2 e2 => ?_)⟩)
      rw [nI_1]
      refine ih (k + 1) h2 (by omega) (trd dg d2) ?_
      rw [List.take_succ_eq_append_getElem hkl, List.map_append, List.foldl_append]
      have hid : (ss_pg S)[k] = (ss_pg S).getD k 0 := by simp [List.getD_eq_getElem?_getD, hkl]
      rw [hid]
      exact e2
  have edi : ∀ t k (h1 : tv_AH), k + t = 4 → md_dg h h1 → h1.2.1 400 33 = (match ss_ed S with
    | some (V, own, mi) => (List.range k).map (fun k => nI (sp_edit V own mi k))
    | none => []).foldl sp_mix (A1.foldl sp_mix 1579) → tv_Wp ad RX3 cX3_digest 2 (some .long) (d + 5) (tv_pJ K) 30 [(0, .ref (ad 400)), (1, .int (nI k))] [] h1 := by
    intro t
    induction t with
    | zero =>
      intro k h1 hk dg he
      have : k = 4 := by omega
      subst this
      rw [hA2] at he
      exact bX3_digest_30 _ h1 (pk_le 4 4 (fun _ => pag (ss_pg S).length 0 h1 (by omega) dg he) (fun q => absurd q (by omega)))
    | succ t ih =>
      intro k h1 hk dg he
      have r1 := r.dg dg
      have r6 := r1.2.2.2.2.2
      unfold md_ed at r6
      refine bX3_digest_30 _ h1 (pk_le 4 k (fun q => absurd q (by omega)) (fun q => ?_))
      cases hed : ss_ed S with
      | none =>
        rw [hed] at r6 he hA2
        rw [r6.1]
        simp only at he hA2
        rw [← hA2] at pag
        exact tv_c0 (pag (ss_pg S).length 0 h1 (by omega) dg he)
      | some t2 =>
        obtain ⟨V, own, mi⟩ := t2
        rw [hed] at r6 he ih
        simp only at he ih
        rw [r6.1]
        refine tv_c1 (md_editNow r6.2.2 r6.2.1 (by omega) (mixed he (fun h2 d2 e2 => ?_)))
        rw [nI_1]
        refine ih (k + 1) h2 (by omega) (trd dg d2) ?_
        rw [List.range_succ, List.map_append, List.foldl_append]
        exact e2
  have ver : ∀ t v (h1 : tv_AH), v + t = (ss_vs S).length → md_dg h h1 → h1.2.1 400 33 = ((List.range v).flatMap (sp_dgv S)).foldl sp_mix 1579 → tv_Wp ad RX3 cX3_digest 2 (some .long) (d + 5) (tv_pJ K) 9 [(0, .ref (ad 400)), (1, .int (nI v))] [] h1 := by
    intro t
    induction t with
    | zero =>
      intro v h1 hk dg he
      have r1 := r.dg dg
      refine bX3_digest_9 _ h1 ?_
      rw [r1.2.1]
      rw [show v = (ss_vs S).length by omega, hA1] at he
      refine pk_le (ss_vs S).length v (fun _ => edi 4 0 h1 (by omega) dg ?_) (fun q => absurd q (by omega))
      rw [he]
      cases ss_ed S with
      | none => rfl
      | some t2 => rfl
    | succ t ih =>
      intro v h1 hk dg he
      have r1 := r.dg dg
      refine bX3_digest_9 _ h1 ?_
      rw [r1.2.1]
      refine pk_le (ss_vs S).length v (fun q => absurd q (by omega)) (fun q => md_mixVersion ok r1 he q (fun h2 d2 e2 => ?_))
      rw [nI_1]
      refine ih (v + 1) h2 (by omega) (trd dg d2) ?_
      rw [List.range_succ, List.flatMap_append, List.foldl_append, e2]
      simp
  exact ver (ss_vs S).length 0 h0 (by omega) d0 z0
end MDZ
