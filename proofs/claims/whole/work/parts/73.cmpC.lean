/-! THE COMPONENT: the numbers of an edit -/
section CTK
variable {ad : Nat → Nat} {d f w : Nat} {h : tv_AH} {j j' : Fin 22} {E' : List (Nat × Nat)} {V : sp_V}
theorem ct_editNodes {md own : Nat} (s : sp_sc f w) (nij : j' ≠ j) (e : ct_E f w j E' h) (hb : sp_eb E') (hs : sp_srt f w E') (x : ct_V f w j' V h) (hb1 : sp_eb V.1) (hs1 : sp_srt f w V.1) (hl1 : V.2.length = (sp_N f w V.1).length) (hi31 : ∀ i, i < V.2.length → sp_id V.2 i < 2 ^ 31) (ho : own < 2 ^ 31) (hmd : h.1 0 5 = nI md) (hmb : md + 96 ≤ 2 ^ 30) {K : Int32 → tv_AH → Prop}
    (hK : ∀ h', ct_V f w j (E', (sp_edn f w E' V.1 V.2 own md).1) h' → h'.1 0 5 = nI (sp_edn f w E' V.1 V.2 own md).2 → tv_agJ (ct_rS j) (ct_rJ j) h h' → K (nI ((sp_edn f w E' V.1 V.2 own md).2 - md)) h') :
    tv_CI ad (d + 19) yX2_editNodes [.ref (ad 0), .ref (ad (tv_tp j)), .ref (ad (tv_tp j')), .int (nI own)] h K := by
  have hN96 := sp_N_len (f := f) (w := w) hb.1
  have hM96 := sp_N_len (f := f) (w := w) hb1.1
  have nj := ct_tp j
  have nj' := ct_tp j'
  have nn := ct_ne nij
  rw [sp_edn_ea s hb hb1 hs1 hl1] at hK
  refine nX2_editNodes _ _ _ h (ct_layNodes (d := d) s e hb hs (fun h1 e1 d1 a1 => ?_))
  have ag1 : tv_agJ (ct_rS j) (ct_rJ j) h h1 := a1.mo (fun q i z => Or.inl z) (fun q i z => z)
  have m1 : h1.1 0 5 = nI md := by rw [a1.2.1 _ _ (by unfold ct_rN; omega)]; exact hmd
  rw [m1]
  generalize hL : (sp_N f w E').length = L at *
  generalize hG : sp_eG f w E' V.1 V.2 own = G at *
  have Gm : ∀ i md, md ≤ (G i md).2 ∧ (G i md).2 ≤ md + 1 := fun i md => by rw [← hG]; exact sp_eG_md
  have H : ∀ n i md' (A : List Nat) (h2 : tv_AH), i + n = L → A.length = i → md ≤ md' → md' ≤ md + i → (A ++ (sp_ea G n i md').1, (sp_ea G n i md').2) = sp_ea G L 0 md → ct_lp f w j E' A h2 → h2.1 0 5 = nI md' → tv_agJ (ct_rS j) (ct_rJ j) h h2 → tv_Wp ad RX2 cX2_editNodes 7 (some .int) (d + 18) (tv_pI K) 13 [(0, .ref (ad 0)), (1, .ref (ad (tv_tp j))), (2, .ref (ad (tv_tp j'))), (3, .int (nI own)), (4, .int (nI md)), (5, .int (nI i))] [] h2 := by
    intro n
    induction n with
    | zero =>
      intro i md' A h2 hi hA hm1 hmd' hgo2 lp hm2 ag
      obtain ⟨p1, p2, p3⟩ := id lp
      refine bX2_editNodes_13 _ _ _ _ _ h2 ?_
      rw [p2.1, hL]
      refine pk_le L i (fun q => ?_) (fun q => absurd q (by omega))
      rw [show sp_ea G 0 i md' = ([], md') from rfl, List.append_nil] at hgo2
      rw [← hgo2] at hK
      rw [hm2, pk_sub hm1]
      exact hK h2 ⟨p1, p2, p3⟩ hm2 ag
    | succ n ih =>
      intro i md' A h2 hi hA hm1 hmd' hgo2 lp hm2 ag
      obtain ⟨p1, p2, p3⟩ := id lp
      have kk := x.rS nij ag
      have hiN : i < (sp_N f w E').length := by omega
      have in2 : vp_in (nI i) 96 := pk_in i 96 (by omega)
      have pp := sp_pl_lt s hb hs hiN
      have g1 : sp_ea G (n + 1) i md' = ((G i md').1 :: (sp_ea G n (i + 1) (G i md').2).1, (sp_ea G n (i + 1) (G i md').2).2) := rfl
      -- a number that is taken over, or a new one
      have old : ∀ k, k < (sp_N f w V.1).length → G i md' = (sp_id V.2 k, md') → ∀ h4 : tv_AH, h4 = tv_wI h2 (tv_tp j + 6) i (nI (sp_id V.2 k)) → tv_Wp ad RX2 cX2_editNodes 7 (some .int) (d + 18) (tv_pI K) 13 [(0, .ref (ad 0)), (1, .ref (ad (tv_tp j))), (2, .ref (ad (tv_tp j'))), (3, .int (nI own)), (4, .int (nI md)), (5, .int (nI i + 1))] [] h4 := by
        intro k hk hg h4 w4
        subst w4
        rw [nI_1]
        have a3 : tv_ag (fun q t => q = tv_tp j + 6 ∧ t = i) h2 (tv_wI h2 (tv_tp j + 6) i (nI (sp_id V.2 k))) := tv_ag.rf.wI ⟨rfl, rfl⟩
        refine ih (i + 1) md' (A ++ [sp_id V.2 k]) _ (by omega) (by rw [List.length_append, hA]; rfl) hm1 (by omega) ?_ ?_ (by rw [tv_wIc (by omega)]; exact hm2) (ag.tr (a3.J.mo (fun q t z => Or.inr (Or.inl z.1)) (fun q t z => z)))
        · rw [← hgo2, g1, hg, List.append_assoc]
          rfl
        · refine lp.app a3 (fun q t z => by omega) (fun t ht => ?_)
          rw [List.length_singleton] at ht
          rw [show t = 0 by omega, show A.length + 0 = i by omega, tv_wIe]
          rfl
      have new : G i md' = (md', md' + 1) → ∀ h5 : tv_AH, h5 = tv_wI h2 (tv_tp j + 6) i (h2.1 0 5) → ∀ h6 : tv_AH, h6 = tv_wI h5 0 5 (h5.1 0 5 + 1) → tv_Wp ad RX2 cX2_editNodes 7 (some .int) (d + 18) (tv_pI K) 13 [(0, .ref (ad 0)), (1, .ref (ad (tv_tp j))), (2, .ref (ad (tv_tp j'))), (3, .int (nI own)), (4, .int (nI md)), (5, .int (nI i + 1))] [] h6 := by
        intro hg h5 w5 h6 w6
        rw [hm2] at w5
        have m5 : h5.1 0 5 = nI md' := by rw [w5, tv_wIc (by omega)]; exact hm2
        rw [m5, nI_1] at w6
        rw [nI_1]
        subst w5 w6
        have a3 : tv_ag (fun q t => (q = tv_tp j + 6 ∧ t = i) ∨ (q = 0 ∧ t = 5)) h2 (tv_wI (tv_wI h2 (tv_tp j + 6) i (nI md')) 0 5 (nI (md' + 1))) := (tv_ag.rf.wI (Or.inl ⟨rfl, rfl⟩)).wI (Or.inr ⟨rfl, rfl⟩)
        refine ih (i + 1) (md' + 1) (A ++ [md']) _ (by omega) (by rw [List.length_append, hA]; rfl) (by omega) (by omega) ?_ ?_ tv_wIe (ag.tr (a3.J.mo (fun q t z => by unfold ct_rS; omega) (fun q t z => z)))
        · rw [← hgo2, g1, hg, List.append_assoc]
          rfl
        · refine lp.app a3 (fun q t z => by omega) (fun t ht => ?_)
          rw [List.length_singleton] at ht
          rw [show t = 0 by omega, tv_wIc (by omega), show A.length + 0 = i by omega, tv_wIe]
          rfl
      refine bX2_editNodes_13 _ _ _ _ _ h2 ?_
      rw [p2.1, hL, tv_nc i, (p2.2.1 i hiN).2.2.2.2.2.2]
      refine pk_le L i (fun q => absurd q (by omega)) (fun _ => ⟨in2, ?_⟩)
      refine ct_indexOfPlace (d := d + 17) s kk.2.1 hb1 hs1 (Nat.lt_trans pp (by omega)) (fun k hk hpk => ?_) (fun hno => ?_)
      · have ink : vp_in (nI k) 96 := pk_in k 96 (by omega)
        have hik := hi31 k (by omega)
        have gk : G i md' = if own ≤ sp_id V.2 k ∨ sp_like E' (sp_n (sp_N f w E') i) V.1 (sp_n (sp_N f w V.1) k) then (sp_id V.2 k, md') else (md', md' + 1) := by
          rw [← hG]
          unfold sp_eG
          rw [sp_fp_is s hb1 hs1 hk hpk]
        refine ⟨fun z => absurd z (nI_pos (by omega)), fun _ => ⟨ink, ?_⟩⟩
        rw [tv_nc k, kk.2.2 k (by omega)]
        refine pk_le own (sp_id V.2 k) (fun q => ⟨ink, in2, fun h4 w4 => ?_⟩) (fun q => ?_)
        · exact old k hk (by rw [gk, if_pos (Or.inl q)]) h4 w4
        · refine ct_isEqualNode (d := d + 17) s p1 p2 kk.1 kk.2.1 hb hs hb1 hs1 hiN hk (fun eq => ?_) (fun eq => ?_)
          · refine ⟨fun z => absurd z (by decide), fun _ => ⟨ink, in2, fun h4 w4 => ?_⟩⟩
            rw [kk.2.2 k (by omega)] at w4
            exact old k hk (by rw [gk, if_pos (Or.inr ((sp_eqn_like s hb hb1 hiN hk).mp eq))]) h4 w4
          · refine ⟨fun _ => ⟨in2, fun h5 w5 h6 w6 => ?_⟩, fun z => absurd rfl z⟩
            exact new (by rw [gk, if_neg (fun z => z.elim (by omega) (fun y => eq ((sp_eqn_like s hb hb1 hiN hk).mpr y)))]) h5 w5 h6 w6
      · refine ⟨fun _ => ⟨in2, fun h5 w5 h6 w6 => ?_⟩, fun z => absurd (by decide) z⟩
        refine new ?_ h5 w5 h6 w6
        rw [← hG]
        unfold sp_eG
        rw [sp_fp_no hno]
  exact H L 0 md [] h1 (by omega) rfl (Nat.le_refl _) (by omega) (by simp) ⟨e1, d1, fun i hi => absurd hi (by simp)⟩ m1 ag1
end CTK
