/-! THE COMPONENT: nodes taken from a source, and the numbers of a new version -/
theorem tv_cpO {h : tv_AH} {q0 q1 sp dp n i : Nat} (h1 : dp ≤ i) (h2 : i < dp + n) : (tv_cp h q0 sp q1 dp n).1 q1 i = h.1 q0 (sp + (i - dp)) := by
  rw [tv_cp1, if_pos rfl]
  unfold va_cpy
  rw [if_pos ⟨h1, h2⟩]
theorem tv_cpN {h : tv_AH} {q0 q1 sp dp n i : Nat} (h1 : ¬ (dp ≤ i ∧ i < dp + n)) : (tv_cp h q0 sp q1 dp n).1 q1 i = h.1 q1 i := by
  rw [tv_cp1, if_pos rfl]
  unfold va_cpy
  rw [if_neg h1]
section CTJ
variable {ad : Nat → Nat} {d f w : Nat} {h : tv_AH} {j j' : Fin 22} {E' : List (Nat × Nat)} {V : sp_V}
theorem sp_N_wd {i : Nat} (hi : i < (sp_N f w E').length) : (sp_lay (sp_g f w E') (7 - (sp_n (sp_N f w E') i).2.1) (sp_n (sp_N f w E') i).2.2.1 ((sp_n (sp_N f w E') i).2.2.1 + (sp_n (sp_N f w E') i).2.2.2)).length = sp_wd (sp_N f w E') i := (sp_wd_len (Nat.le_refl 7) hi).1.symm
theorem ct_takeNodes {i : Nat} (s : sp_sc f w) (e' : ct_E f w j E' h) (x' : ct_Nd f w j E' h) (x : ct_V f w j' V h) (hb' : sp_eb E') (hs' : sp_srt f w E') (hb : sp_eb V.1) (hs : sp_srt f w V.1) (hl : V.2.length = (sp_N f w V.1).length) (hi : i < (sp_N f w E').length) {K : Int32 → tv_AH → Prop}
    (h1 : ∀ k h', sp_fl E' (sp_n (sp_N f w E') i) V.1 (sp_N f w V.1) = some k → (∀ t, t < sp_wd (sp_N f w E') i → h'.1 (tv_tp j + 6) (i + t) = nI (sp_id V.2 (k + t))) → tv_ag (fun q t => q = tv_tp j + 6 ∧ i ≤ t ∧ t < i + sp_wd (sp_N f w E') i) h h' → K (nI (sp_wd (sp_N f w E') i)) h')
    (h0 : sp_fl E' (sp_n (sp_N f w E') i) V.1 (sp_N f w V.1) = none → K 0 h) : tv_CI ad (d + 2) yX1_takeNodes [.ref (ad (tv_tp j)), .int (nI i), .ref (ad (tv_tp j'))] h K := by
  have n1 := sp_N_len (f := f) (w := w) hb.1
  have n2 := sp_N_len (f := f) (w := w) hb'.1
  have in2 : vp_in (nI i) 96 := pk_in i 96 (by omega)
  have p2 := sp_pl_lt s hb' hs' hi
  refine nX1_takeNodes _ _ _ h ?_
  rw [tv_nc i, (x'.2.1 i hi).2.2.2.2.2.2]
  refine ⟨in2, ct_indexOfPlace (d := d) s x.2.1 hb hs (Nat.lt_trans p2 (by omega)) (fun k hk hpk => ?_) (fun hno => ?_)⟩
  · refine ⟨fun z => absurd z (nI_pos (by omega)), fun _ => ?_⟩
    refine ct_isEqualNode (d := d) s e' x' x.1 x.2.1 hb' hs' hb hs hi hk (fun eq => ?_) (fun eq => ?_)
    · have hf := sp_fl_is s hb' hb hs hi hk eq
      obtain ⟨w1, w2, w3⟩ := sp_fl_wd hi hl hf
      refine ⟨fun _ => ⟨in2, ?_⟩, fun z => absurd z (by decide)⟩
      have r12 := (x'.2.1 i hi).2.2.2.2.2.1
      rw [sp_N_wd hi] at r12
      rw [r12, tv_nc (sp_wd (sp_N f w E') i), tv_nc k]
      refine ⟨⟨nI_pos (by omega), nI_pos (by omega), nI_pos (by omega), by omega, by omega⟩, fun h3 w3' => ⟨in2, ?_⟩⟩
      rw [w3', tv_cpc (by omega), r12]
      refine h1 k _ hf (fun t ht => ?_) ⟨rfl, fun q t hn => ?_⟩
      · rw [tv_cpO (by omega) (by omega), Nat.add_sub_cancel_left]
        exact x.2.2 _ (by omega)
      · by_cases c : q = tv_tp j + 6
        · subst c
          rw [tv_cpN (fun z => hn ⟨rfl, z⟩)]
        · rw [tv_cpc c]
    · refine ⟨fun z => absurd rfl z, fun _ => h0 (sp_fl_no s hb' hb hi (fun l hl2 e2 => ?_))⟩
      have : l = k := sp_pl_inj s hb hs hl2 hk (by rw [← e2.1, hpk])
      subst this
      exact eq e2
  · exact ⟨fun _ => h0 (sp_fl_no s hb' hb hi (fun l hl2 e2 => hno l hl2 e2.1.symm)), fun z => absurd (by decide) z⟩
/-- those before i have their numbers -/
def ct_lp (f w : Nat) (j : Fin 22) (E' : List (Nat × Nat)) (A : List Nat) (h : tv_AH) : Prop := ct_E f w j E' h ∧ ct_Nd f w j E' h ∧ ct_I j A h
theorem ct_lp.app {A l : List Nat} {h' : tv_AH} {P : Nat → Nat → Prop} (k : ct_lp f w j E' A h) (ag : tv_ag P h h') (np : ∀ q t, P q t → q = 0 ∨ (q = tv_tp j + 6 ∧ A.length ≤ t)) (hn : ∀ t, t < l.length → h'.1 (tv_tp j + 6) (A.length + t) = nI (sp_id l t)) : ct_lp f w j E' (A ++ l) h' := by
  have n2 := ct_tp j
  refine ⟨k.1.cg (fun q i r => ag.2 q i (fun z => ?_)), k.2.1.cg (fun q i r => ag.2 q i (fun z => ?_)) (fun q i r => by rw [ag.1]), fun i hi => ?_⟩
  · have := np q i z; unfold ct_rE at r; omega
  · have := np q i z; unfold ct_rN at r; omega
  · rw [List.length_append] at hi
    by_cases c : i < A.length
    · rw [sp_id_l c, ag.2 _ _ (fun z => by have := np _ _ z; omega)]; exact k.2.2 i c
    · rw [sp_id_r (by omega)]
      have := hn (i - A.length) (by omega)
      rw [show A.length + (i - A.length) = i by omega] at this
      exact this
/-- what the numbering of tree j may change -/
def ct_rS (j : Fin 22) (q i : Nat) : Prop := ct_rN j q i ∨ q = tv_tp j + 6 ∨ (q = 0 ∧ i = 5)
theorem ct_V.rS {j2 : Fin 22} {h' : tv_AH} (n : j2 ≠ j) (x : ct_V f w j2 V h) (a : tv_agJ (ct_rS j) (ct_rJ j) h h') : ct_V f w j2 V h' := by
  have n1 := ct_tp j2
  have n2 := ct_tp j
  have n3 := ct_ne n
  exact x.ag a (fun q i r => by unfold ct_rT at r; unfold ct_rS ct_rN; omega) (fun q i r => by unfold ct_rJ at *; omega)
/-- the second source is the first one, where there is one alone -/
def sp_twoV (V1 : sp_V) (two : Option sp_V) : sp_V := match two with
  | some t => t
  | none => V1
theorem sp_tk2_eq {i : Nat} {V1 : sp_V} {two : Option sp_V} : sp_tk2 f w E' i V1 two = match sp_tk f w E' i V1 with
  | some l => some l
  | none => sp_tk f w E' i (sp_twoV V1 two) := by
  unfold sp_tk2
  cases h1 : sp_tk f w E' i V1 with
  | some l => rfl
  | none =>
    cases two with
    | some t => rfl
    | none => simp only [sp_twoV, h1]
theorem ct_shareNodes {md : Nat} {V1 : sp_V} {two : Option sp_V} {j1 j2 : Fin 22} (s : sp_sc f w) (n1 : j1 ≠ j) (n2 : j2 ≠ j) (e : ct_E f w j E' h) (hb : sp_eb E') (hs : sp_srt f w E') (x1 : ct_V f w j1 V1 h) (x2 : ct_V f w j2 (sp_twoV V1 two) h) (hb1 : sp_eb V1.1) (hs1 : sp_srt f w V1.1) (hl1 : V1.2.length = (sp_N f w V1.1).length) (hb2 : sp_eb (sp_twoV V1 two).1) (hs2 : sp_srt f w (sp_twoV V1 two).1) (hl2 : (sp_twoV V1 two).2.length = (sp_N f w (sp_twoV V1 two).1).length) (hmd : h.1 0 5 = nI md) (hmb : md + 96 ≤ 2 ^ 30) {K : tv_AH → Prop}
    (hK : ∀ h', ct_V f w j (E', (sp_new f w E' V1 two md).1) h' → h'.1 0 5 = nI (sp_new f w E' V1 two md).2 → (sp_new f w E' V1 two md).1.length = (sp_N f w E').length → tv_agJ (ct_rS j) (ct_rJ j) h h' → K h') :
    tv_CV ad (d + 19) yX2_shareNodes [.ref (ad 0), .ref (ad (tv_tp j)), .ref (ad (tv_tp j1)), .ref (ad (tv_tp j2))] h K := by
  have hN96 := sp_N_len (f := f) (w := w) hb.1
  have nj := ct_tp j
  refine nX2_shareNodes _ _ _ h (ct_layNodes (d := d) s e hb hs (fun h1 e1 d1 a1 => ?_))
  have ag1 : tv_agJ (ct_rS j) (ct_rJ j) h h1 := a1.mo (fun q i z => Or.inl z) (fun q i z => z)
  generalize hL : (sp_N f w E').length = L at *
  let go := fun n i md => sp_go L (sp_wd (sp_N f w E')) (fun i => sp_tk2 f w E' i V1 two) (fun _ md => (md, md + 1)) n i md
  have hgo : sp_new f w E' V1 two md = go (L + 1) 0 md := by
    unfold sp_new
    rw [hL]
  rw [hgo] at hK
  have H : ∀ n i md' (A : List Nat) (h2 : tv_AH), L - i < n → A.length = i → i ≤ L → md' ≤ md + i → (A ++ (go n i md').1, (go n i md').2) = go (L + 1) 0 md → ct_lp f w j E' A h2 → h2.1 0 5 = nI md' → tv_agJ (ct_rS j) (ct_rJ j) h h2 → tv_Wp ad RX2 cX2_shareNodes 6 none (d + 18) (tv_pV K) 7 [(0, .ref (ad 0)), (1, .ref (ad (tv_tp j))), (2, .ref (ad (tv_tp j1))), (3, .ref (ad (tv_tp j2))), (4, .int (nI i))] [] h2 := by
    intro n
    induction n with
    | zero => intro i md' A h2 hn; exact absurd hn (by omega)
    | succ n ih =>
      intro i md' A h2 hn hA hi hmd' hgo2 lp hm2 ag
      obtain ⟨p1, p2, p3⟩ := id lp
      have kk1 := x1.rS n1 ag
      have kk2 := x2.rS n2 ag
      refine bX2_shareNodes_7 _ _ _ _ h2 ?_
      rw [p2.1, hL]
      refine pk_le L i (fun q => ?_) (fun q => ?_)
      · have g1 : go (n + 1) i md' = ([], md') := by
          show (if i < L then _ else _) = _
          rw [if_neg (by omega)]
        rw [g1, List.append_nil] at hgo2
        rw [← hgo2] at hK
        exact hK h2 ⟨p1, p2, p3⟩ hm2 (by show A.length = _; omega) ag
      · have g1 : go (n + 1) i md' = (match sp_tk2 f w E' i V1 two with
          | some l => (l ++ (go n (i + sp_wd (sp_N f w E') i) md').1, (go n (i + sp_wd (sp_N f w E') i) md').2)
          | none => (md' :: (go n (i + 1) (md' + 1)).1, (go n (i + 1) (md' + 1)).2)) := by
          show (if i < L then _ else _) = _
          rw [if_pos q]
          rfl
        have hiN : i < (sp_N f w E').length := by omega
        -- a stretch was taken
        have take : ∀ (V0 : sp_V) (k : Nat) (h3 : tv_AH), V0.2.length = (sp_N f w V0.1).length → sp_fl E' (sp_n (sp_N f w E') i) V0.1 (sp_N f w V0.1) = some k → sp_tk2 f w E' i V1 two = some ((V0.2.drop k).take (sp_wd (sp_N f w E') i)) → (∀ t, t < sp_wd (sp_N f w E') i → h3.1 (tv_tp j + 6) (i + t) = nI (sp_id V0.2 (k + t))) → tv_ag (fun q t => q = tv_tp j + 6 ∧ i ≤ t ∧ t < i + sp_wd (sp_N f w E') i) h2 h3 → ¬ nI (sp_wd (sp_N f w E') i) = 0 ∧ tv_Wp ad RX2 cX2_shareNodes 6 none (d + 18) (tv_pV K) 7 [(0, .ref (ad 0)), (1, .ref (ad (tv_tp j))), (2, .ref (ad (tv_tp j1))), (3, .ref (ad (tv_tp j2))), (4, .int (nI i + (if 1 < nI (sp_wd (sp_N f w E') i) then nI (sp_wd (sp_N f w E') i) else 1)))] [] h3 := by
          intro V0 k h3 kml hfl htk c3 a3
          obtain ⟨w1, w2, w3⟩ := sp_fl_wd hiN kml hfl
          rw [hL] at w3
          have hll := sp_dt_len (A := V0.2) (k := k) (n := sp_wd (sp_N f w E') i) w1
          have em : (if (1 : Int32) < nI (sp_wd (sp_N f w E') i) then nI (sp_wd (sp_N f w E') i) else 1) = nI (sp_wd (sp_N f w E') i) := by
            by_cases c : 1 < sp_wd (sp_N f w E') i
            · rw [if_pos]
              exact (nI_ltI (a := 1) (by omega) (by omega)).mpr c
            · rw [show sp_wd (sp_N f w E') i = 1 by omega]; rfl
          refine ⟨fun z => ?_, ?_⟩
          · have := (nI_eq (b := 0) (by omega) (by omega)).mp z
            omega
          rw [em, nI_add]
          refine ih (i + sp_wd (sp_N f w E') i) md' (A ++ (V0.2.drop k).take (sp_wd (sp_N f w E') i)) h3 (by omega) (by rw [List.length_append, hll, hA]) (by omega) (by omega) ?_ ?_ ?_ ?_
          · rw [← hgo2, g1, htk, List.append_assoc]
          · refine lp.app a3 (fun q t z => Or.inr ⟨z.1, by omega⟩) (fun t ht => ?_)
            rw [hll] at ht
            rw [sp_id_dt ht, hA]
            exact c3 t ht
          · rw [a3.2 _ _ (by omega)]; exact hm2
          · exact ag.tr (a3.J.mo (fun q t z => Or.inr (Or.inl z.1)) (fun q t z => z))
        refine ct_takeNodes (d := d + 16) s p1 p2 kk1 hb hs hb1 hs1 hl1 hiN (fun k h3 hf1 c3 a3 => ?_) (fun hf1 => ?_)
        · obtain ⟨t1, t2⟩ := take V1 k h3 hl1 hf1 (by rw [sp_tk2_eq]; unfold sp_tk; simp only [hf1]) c3 a3
          exact ⟨fun _ => ⟨fun _ => t2, fun z => absurd z t1⟩, fun z => absurd z t1⟩
        · refine ⟨fun z => absurd rfl z, fun _ => ?_⟩
          refine ct_takeNodes (d := d + 16) s p1 p2 kk2 hb hs hb2 hs2 hl2 hiN (fun k h3 hf2 c3 a3 => ?_) (fun hf2 => ?_)
          · obtain ⟨t1, t2⟩ := take (sp_twoV V1 two) k h3 hl2 hf2 (by rw [sp_tk2_eq]; unfold sp_tk; simp only [hf1, hf2]) c3 a3
            exact ⟨fun _ => t2, fun z => absurd z t1⟩
          · refine ⟨fun z => absurd rfl z, fun _ => ⟨pk_in i 96 (by omega), fun h5 w5 h6 w6 => ?_⟩⟩
            have htk : sp_tk2 f w E' i V1 two = none := by rw [sp_tk2_eq]; unfold sp_tk; simp only [hf1, hf2]
            rw [tv_nc i, hm2] at w5
            have m5 : h5.1 0 5 = nI md' := by rw [w5, tv_wIc (by omega)]; exact hm2
            rw [m5, nI_1] at w6
            rw [if_neg (show ¬ (1 : Int32) < 0 by decide), nI_1]
            subst w5 w6
            have a3 : tv_ag (fun q t => (q = tv_tp j + 6 ∧ t = i) ∨ (q = 0 ∧ t = 5)) h2 (tv_wI (tv_wI h2 (tv_tp j + 6) i (nI md')) 0 5 (nI (md' + 1))) := (tv_ag.rf.wI (Or.inl ⟨rfl, rfl⟩)).wI (Or.inr ⟨rfl, rfl⟩)
            refine ih (i + 1) (md' + 1) (A ++ [md']) _ (by omega) (by rw [List.length_append, hA]; rfl) (by omega) (by omega) ?_ ?_ tv_wIe (ag.tr (a3.J.mo (fun q t z => by unfold ct_rS; omega) (fun q t z => z)))
            · rw [← hgo2, g1, htk, List.append_assoc]
              rfl
            · refine lp.app a3 (fun q t z => by omega) (fun t ht => ?_)
              rw [List.length_singleton] at ht
              rw [show t = 0 by omega, tv_wIc (by omega), show A.length + 0 = i by omega, tv_wIe]
              rfl
  refine H (L + 1) 0 md [] h1 (by omega) rfl (by omega) (by omega) (by simp) ⟨e1, d1, fun i hi => absurd hi (by simp)⟩ ?_ ag1
  rw [a1.2.1 _ _ (by unfold ct_rN; omega)]; exact hmd
end CTJ
