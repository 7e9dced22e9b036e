/-! THE COMPONENT'S CALLS: read -/
/-- what reading may change: two trees, the count of made nodes, the spare tree -/
def cp_fr (a b : Fin 22) (h0 h : tv_AH) : Prop := (∀ q i, ¬ (ct_rO a q i ∨ ct_rO b q i ∨ (q = 0 ∧ i = 5)) → h.1 q i = h0.1 q i) ∧ (∀ q i, ¬ (ct_rO a q i ∨ ct_rO b q i) → h.2.1 q i = h0.2.1 q i) ∧ ∀ q i, ¬ (q = 0 ∧ i = 12) → h.2.2 q i = h0.2.2 q i
theorem cp_fr.ag {a b : Fin 22} {h0 h h' : tv_AH} {P Q : Nat → Nat → Prop} (k : cp_fr a b h0 h) (g : tv_agJ P Q h h') (nP : ∀ q i, P q i → ct_rO a q i ∨ ct_rO b q i ∨ (q = 0 ∧ i = 5)) (nQ : ∀ q i, Q q i → ct_rO a q i ∨ ct_rO b q i) : cp_fr a b h0 h' := ⟨fun q i z => by rw [g.2.1 q i (fun y => z (nP q i y))]; exact k.1 q i z, fun q i z => by rw [g.2.2 q i (fun y => z (nQ q i y))]; exact k.2.1 q i z, fun q i z => by rw [g.1]; exact k.2.2 q i z⟩
theorem cp_fr.wR {a b j : Fin 22} {h0 h : tv_AH} (k : cp_fr a b h0 h) : cp_fr a b h0 (tv_wR h 0 12 j) := ⟨k.1, k.2.1, fun q i z => by rw [tv_wR3, if_neg z]; exact k.2.2 q i z⟩
theorem cp_fr.V {a b j : Fin 22} {h0 h : tv_AH} {f w : Nat} {V : sp_V} (k : cp_fr a b h0 h) (na : j ≠ a) (nb : j ≠ b) (x : ct_V f w j V h0) : ct_V f w j V h := by
  refine x.cg (fun q i r => k.1 q i ?_) (fun q i r => k.2.1 q i ?_)
  · have o := ct_rT_O r
    have := ct_rO_lt o
    rintro (z | z | z)
    · exact ct_rO_ne na o z
    · exact ct_rO_ne nb o z
    · omega
  · have o := ct_rJ_O r
    rintro (z | z)
    · exact ct_rO_ne na o z
    · exact ct_rO_ne nb o z
theorem cp_fr.lo {a b : Fin 22} {h0 h : tv_AH} (k : cp_fr a b h0 h) {q i : Nat} (hq : q < 16 ∨ 400 ≤ q) (n : ¬ (q = 0 ∧ i = 5)) : h.1 q i = h0.1 q i := k.1 q i (by
  rintro (z | z | z)
  · have := ct_rO_lt z; omega
  · have := ct_rO_lt z; omega
  · exact n z)
section CCF
variable {ad : Nat → Nat} {d c : Nat} {h h' : tv_AH} {S : sp_S}
theorem cc_read (ok : ss_ok S c) (hc : c < 512) (r : cp_rep S h) {K : Int32 → tv_AH → Prop} (hK : ∀ h', cp_rep (ss_read S).2 h' → cp_lo h h' → K (ss_read S).1 h') : tv_CI ad (d + 20) yX2_read [.ref (ad 0)] h K := by
  obtain ⟨o1, o2, o3, o4, o5, P, o6, o7⟩ := id ok
  refine nX2_read h (ct_scan (d := d + 17) o4.1 o4.2 r.2.2.2.2.1 (fun h0 m0 a0 => ?_))
  have lo0 : cp_lo h h0 := cp_lo_low a0 (fun q i z => by unfold ct_rP at z; omega)
  have r0 := r.rP a0
  obtain ⟨r1, r2, r3, r4, r5, r6, r7⟩ := id r0
  unfold ct_mp at m0
  cases hm : sp_map (ss_pg S) with
  | none =>
    rw [hm] at m0
    have e : ss_read S = (-103, S) := by unfold ss_read; rw [hm]
    rw [e] at hK
    have m0' : h0.1 2 2 = 0 := m0
    rw [m0']
    exact tv_b0 (hK h0 r0 lo0)
  | some L =>
    rw [hm] at m0
    obtain ⟨m1, m2, m3⟩ : h0.1 2 2 = 1 ∧ h0.1 2 3 = nI L.length ∧ ∀ i, i < L.length → h0.1 4 i = nI (sp_k L i) ∧ h0.1 5 i = nI (sp_v L i) := m0
    obtain ⟨l15, lb⟩ := sp_map_some o4.1 hm
    rw [m1]
    have e : ss_read S = if (ss_vs S).length = 20 then (-104, S) else (nI (ss_vs S).length, (S.1, ss_vs S ++ [(sp_sets (ss_f S) (ss_w S) (ss_md S) L ([], []) (ss_md S)).1], [], ((sp_sets (ss_f S) (ss_w S) (ss_md S) L ([], []) (ss_md S)).2, ss_rd S + 1, ss_sl S), ss_ed S)) := by unfold ss_read; rw [hm]
    rw [e] at hK
    refine tv_b1 (ct_isFull r2 o2.2.1 (fun z => tv_c1 ?_) (fun z => tv_c0 ?_))
    · rw [if_pos z] at hK
      exact hK h0 r0 lo0
    · rw [if_neg z] at hK
      have hv : (ss_vs S).length < 20 := by omega
      rw [r2, tv_nc (ss_vs S).length, r6.1]
      refine ⟨pk_in _ 20 hv, ?_⟩
      have nab := cp_vs r3 hv
      have nva : ∀ v, v < (ss_vs S).length → h0.2.2 1 v ≠ h0.2.2 1 (ss_vs S).length := fun v y => cp_vv r3 (by omega) hv (by omega)
      have nvb : ∀ v, v < (ss_vs S).length → h0.2.2 1 v ≠ h0.2.2 0 12 := fun v y => cp_vs r3 (by omega)
      have nda : h0.2.2 0 8 ≠ h0.2.2 1 (ss_vs S).length := fun y => cp_vd r3 hv y.symm
      have ndb := cp_ds r3
      generalize ha : h0.2.2 1 (ss_vs S).length = a at *
      generalize hb : h0.2.2 0 12 = b at *
      generalize hmd : ss_md S = md at *
      refine nX1_empty _ h0 (fun h1 w1 h2 w2 => ?_)
      have H : ∀ t i (V : sp_V) (md' : Nat) (j2 : Fin 22) (h3 : tv_AH), i + t = L.length → sp_sets (ss_f S) (ss_w S) md (L.drop i) V md' = sp_sets (ss_f S) (ss_w S) md L ([], []) md → V.1.length ≤ i → md ≤ md' → md' ≤ md + 96 * i → sp_vok (ss_f S) (ss_w S) md' V → (∃ P' : Nat → Nat, (∀ x, x < md → P' x = P x) ∧ sp_plc (ss_f S) (ss_w S) P' V) → ct_V (ss_f S) (ss_w S) j2 V h3 → h3.1 0 5 = nI md' → cp_fr a b h0 h3 → ((j2 = a ∧ h3.2.2 0 12 = b) ∨ (j2 = b ∧ h3.2.2 0 12 = a)) → tv_Wp ad RX2 cX2_read 5 (some .int) (d + 19) (tv_pI K) 52 [(0, .ref (ad 0)), (1, .int (nI md)), (2, .ref (ad (tv_tp j2))), (3, .int (nI i))] [] h3 := by
        intro t
        induction t with
        | zero =>
          intro i V md' j2 h3 hi hs hVl hm1 hm2 vok pl x3 m5 fr jj
          have hdr : L.drop i = [] := List.drop_eq_nil_of_le (by omega)
          rw [hdr] at hs
          have hs2 : sp_sets (ss_f S) (ss_w S) md L ([], []) md = (V, md') := hs.symm
          rw [hs2] at hK
          obtain ⟨P', pP, pV⟩ := pl
          have c3 : h3.1 0 1 = nI (ss_vs S).length := by rw [fr.lo (by omega) (by omega)]; exact r2
          have d3 : h3.1 0 6 = nI (ss_rd S) := by rw [fr.lo (by omega) (by omega)]; exact r6.2.1
          refine bX2_read_52 _ _ _ h3 ?_
          rw [fr.lo (q := 2) (i := 3) (by omega) (by omega), m2, c3, tv_nc (ss_vs S).length]
          refine pk_le L.length i (fun _ => ⟨pk_in _ 20 hv, fun h4 w4 h5 w5 h6 w6 => ?_⟩) (fun q => absurd q (by omega))
          have d5 : h5.1 0 6 = nI (ss_rd S) := by rw [w5, tv_wIc (by omega), w4]; exact d3
          rw [d5, nI_1] at w6
          have i6 : ∀ q i, ¬ (q = 2 ∧ i = 1) → ¬ (q = 0 ∧ i = 6) → h6.1 q i = h3.1 q i := fun q i y1 y2 => by rw [w6, tv_wIc y2, w5, tv_wIc y1, w4]; rfl
          have j6 : h6.2.1 = h3.2.1 := by rw [w6, w5, w4]; rfl
          have e6 : ∀ q i, h6.2.2 q i = if q = 1 ∧ i = (ss_vs S).length then j2 else h3.2.2 q i := fun q i => by rw [w6, w5, w4]; rfl
          have pn : ∀ v, v ≠ (ss_vs S).length → h6.2.2 1 v = h0.2.2 1 v := fun v y => by rw [e6, if_neg (by omega)]; exact fr.2.2 _ _ (by omega)
          have pL : h6.2.2 1 (ss_vs S).length = j2 := by rw [e6, if_pos ⟨rfl, rfl⟩]
          have p8 : h6.2.2 0 8 = h0.2.2 0 8 := by rw [e6, if_neg (by omega)]; exact fr.2.2 _ _ (by omega)
          have p12 : h6.2.2 0 12 = h3.2.2 0 12 := by rw [e6, if_neg (by omega)]
          have kc : ∀ (jx : Fin 22) (Vx : sp_V), ct_V (ss_f S) (ss_w S) jx Vx h3 → ct_V (ss_f S) (ss_w S) jx Vx h6 := fun jx Vx y => y.cg (fun q i u => i6 q i (by have := ct_rO_lt (ct_rT_O u); omega) (by have := ct_rO_lt (ct_rT_O u); omega)) (fun q i _ => by rw [j6])
          have kv : ∀ v, v < (ss_vs S).length → ct_V (ss_f S) (ss_w S) (h0.2.2 1 v) (ss_v S v) h6 := fun v y => kc _ _ (fr.V (nva v y) (nvb v y) (r0.v y))
          have c6 : h6.1 0 1 = nI (ss_vs S).length := by rw [i6 _ _ (by omega) (by omega)]; exact c3
          refine ct_addVersion (d := d + 15) (f := ss_f S) (w := ss_w S) (vs := ss_vs S) (V := V) (md := md') (P := P') o1 c6 hv (fun v y => by rw [pn v (by omega)]; exact kv v y) (fun v y => ⟨(o3 v y).mo hm1, (o6 v y).cg (o3 v y) pP⟩) (by rw [pL]; exact kc _ _ x3) vok pV (by omega) (fun h7 c7 w7 a7 => ?_)
          rw [pL] at a7 w7
          have nj := ct_tp j2
          have e7 : h7.2.2 = h6.2.2 := by rw [a7.1]
          have j7 : h7.2.1 = h6.2.1 := by rw [a7.1]
          have kc7 : ∀ (jx : Fin 22) (Vx : sp_V), ct_V (ss_f S) (ss_w S) jx Vx h6 → ct_V (ss_f S) (ss_w S) jx Vx h7 := fun jx Vx y => y.cg (fun q i u => a7.2 q i (fun g => by have := ct_tp jx; unfold ct_rT at u; omega)) (fun q i _ => by rw [j7])
          have lo7 : ∀ q i, q < 16 → ¬ (q = 0 ∧ (i = 1 ∨ i = 5 ∨ i = 6)) → ¬ (q = 2 ∧ i = 1) → h7.1 q i = h0.1 q i := fun q i y1 y2 y3 => by
            rw [a7.2 _ _ (by omega), i6 _ _ (by omega) (by omega)]
            exact fr.lo (by omega) (by omega)
          refine hK h7 ⟨⟨?_, ?_⟩, ?_, ?_, ?_, ⟨?_, fun i hi => absurd hi (Nat.not_lt_zero i)⟩, ⟨?_, ?_, ?_⟩, ?_⟩ (lo0.tr (fun q i y => ?_))
          · rw [lo7 _ _ (by omega) (by omega) (by omega)]; exact r1.1
          · rw [lo7 _ _ (by omega) (by omega) (by omega)]; exact r1.2
          · show h7.1 0 1 = nI (ss_vs S ++ [V]).length
            rw [List.length_append, List.length_singleton]
            exact c7
          · rcases jj with ⟨ja, jb⟩ | ⟨ja, jb⟩
            · refine fun x y hx hy g => r3 x y hx hy ?_
              have same : ∀ x, x < 22 → cp_rf h7 x = cp_rf h0 x := fun x hx => by
                by_cases y1 : x < 20
                · rw [cp_rf_v y1, cp_rf_v y1, e7]
                  by_cases y2 : x = (ss_vs S).length
                  · rw [y2, pL, ha, ja]
                  · exact pn x y2
                · by_cases y2 : x = 20
                  · rw [y2, cp_rf_d, cp_rf_d, e7, p8]
                  · rw [show x = 21 by omega, cp_rf_s, cp_rf_s, e7, p12, jb, hb]
              rw [← same x hx, ← same y hy]
              exact g
            · refine r3.sw (x := (ss_vs S).length) (y := 21) (by omega) (by omega) (fun x hx => ?_)
              by_cases y2 : x = (ss_vs S).length
              · rw [if_pos y2, y2, cp_rf_v hv, cp_rf_s, e7, pL, hb, ja]
              · rw [if_neg y2]
                by_cases y1 : x < 20
                · rw [if_neg (show ¬ x = 21 by omega), cp_rf_v y1, cp_rf_v y1, e7, pn x y2]
                · by_cases y3 : x = 20
                  · rw [if_neg (show ¬ x = 21 by omega), y3, cp_rf_d, cp_rf_d, e7, p8]
                  · rw [if_pos (show x = 21 by omega), show x = 21 by omega, cp_rf_v hv, cp_rf_s, e7, p12, jb, ha]
          · intro v hv2
            change v < (ss_vs S ++ [V]).length at hv2
            rw [List.length_append, List.length_singleton] at hv2
            show ct_V (ss_f S) (ss_w S) (h7.2.2 1 v) ((ss_vs S ++ [V]).getD v ([], [])) h7 ∧ h7.1 (tv_tp (h7.2.2 1 v)) 14 = nI (sp_nw (ss_vs S ++ [V]) v)
            rw [ss_v_add, e7]
            by_cases y : v < (ss_vs S).length
            · rw [if_pos y, sp_nw_app' y, pn v (by omega)]
              refine ⟨kc7 _ _ (kv v y), ?_⟩
              have nva' := nva v y
              have nvb' := nvb v y
              have nj2 : h0.2.2 1 v ≠ j2 := by
                rcases jj with ⟨ja, jb⟩ | ⟨ja, jb⟩
                · rw [ja]; exact nva'
                · rw [ja]; exact nvb'
              have n1 := ct_ne nj2
              have n2 := ct_tp (h0.2.2 1 v)
              rw [a7.2 _ _ (by omega), i6 _ _ (by omega) (by omega), fr.1 _ _ ?_]
              · exact (r4 v y).2
              · have oo : ct_rO (h0.2.2 1 v) (tv_tp (h0.2.2 1 v)) 14 := by unfold ct_rO; omega
                rintro (g | g | g)
                · exact ct_rO_ne nva' oo g
                · exact ct_rO_ne nvb' oo g
                · omega
            · have : v = (ss_vs S).length := by omega
              subst this
              rw [if_neg y, if_pos rfl, pL]
              exact ⟨kc7 _ _ (kc _ _ x3), w7⟩
          · rw [a7.2 _ _ (by omega), w6, tv_wIc (by omega), w5, tv_wIe]
            rfl
          · rw [a7.2 _ _ (by omega), i6 _ _ (by omega) (by omega)]
            exact m5
          · rw [a7.2 _ _ (by omega), w6, tv_wIe]
          · rw [lo7 _ _ (by omega) (by omega) (by omega)]; exact r6.2.2
          · show cp_ed (S.1, ss_vs S ++ [V], [], (md', ss_rd S + 1, ss_sl S), ss_ed S) h7
            have r7' := r7
            unfold cp_ed at r7' ⊢
            cases hed : ss_ed S with
            | none =>
              rw [hed] at r7'
              show h7.1 0 9 = 0
              rw [lo7 _ _ (by omega) (by omega) (by omega)]
              exact r7'
            | some tt =>
              obtain ⟨Ve, own, mi⟩ := tt
              rw [hed] at r7'
              obtain ⟨g1, g2, g3, g4⟩ := r7'
              show h7.1 0 9 = 1 ∧ h7.1 0 10 = nI mi ∧ h7.1 0 11 = nI own ∧ ct_V (ss_f S) (ss_w S) (h7.2.2 0 8) Ve h7
              refine ⟨by rw [lo7 _ _ (by omega) (by omega) (by omega)]; exact g1, by rw [lo7 _ _ (by omega) (by omega) (by omega)]; exact g2, by rw [lo7 _ _ (by omega) (by omega) (by omega)]; exact g3, ?_⟩
              rw [e7, p8]
              exact kc7 _ _ (kc _ _ (fr.V nda ndb g4))
          · rw [a7.2 _ _ (by omega), i6 _ _ (by omega) (by omega)]
            exact fr.lo (by omega) (by omega)
        | succ t ih =>
          intro i V md' j2 h3 hi hs hVl hm1 hm2 vok pl x3 m5 fr jj
          have hil : i < L.length := by omega
          obtain ⟨P', pP, pV⟩ := pl
          have hdr : L.drop i = (sp_k L i, sp_v L i) :: L.drop (i + 1) := by
            rw [List.drop_eq_getElem_cons hil, sp_kg hil]
          rw [hdr] at hs
          have kb := lb _ (List.getElem_mem hil)
          rw [sp_kg hil] at kb
          simp only at kb
          have in6 : vp_in (nI i) 60 := pk_in i 60 (by omega)
          have njs : j2 ≠ h3.2.2 0 12 := by
            rcases jj with ⟨ja, jb⟩ | ⟨ja, jb⟩
            · rw [ja, jb]; exact nab
            · rw [ja, jb]; exact fun y => nab y.symm
          have js : ∀ q i, ct_rO (h3.2.2 0 12) q i → ct_rO a q i ∨ ct_rO b q i := fun q i y => by
            rcases jj with ⟨ja, jb⟩ | ⟨ja, jb⟩
            · rw [jb] at y; exact Or.inr y
            · rw [jb] at y; exact Or.inl y
          have jsj : (h3.2.2 0 12 = b ∧ j2 = a) ∨ (h3.2.2 0 12 = a ∧ j2 = b) := by
            rcases jj with ⟨ja, jb⟩ | ⟨ja, jb⟩
            · exact Or.inl ⟨jb, ja⟩
            · exact Or.inr ⟨jb, ja⟩
          refine bX2_read_52 _ _ _ h3 ?_
          rw [fr.lo (q := 2) (i := 3) (by omega) (by omega), m2]
          refine pk_le L.length i (fun q => absurd q (by omega)) (fun _ => ?_)
          generalize hsp : h3.2.2 0 12 = sp at *
          refine ct_copyEntries (d := d + 18) njs x3.1 vok.1.1 (fun h5 e5 a5 => ⟨in6, in6, in6, ?_⟩)
          have lo5 : ∀ q i, q < 16 → ¬ (q = 0 ∧ i = 5) → h5.1 q i = h0.1 q i := fun q i y1 y2 => by
            rw [a5.2 _ _ (fun g => by have := ct_rO_lt (ct_rE_O g); omega)]
            exact fr.lo (by omega) y2
          have e55 : h5.2.2 = h3.2.2 := by rw [a5.1]
          rw [tv_nc i, lo5 4 i (by omega) (by omega), lo5 5 i (by omega) (by omega), (m3 i hil).1, (m3 i hil).2, e55, hsp]
          generalize sp_k L i = k at hs kb ⊢
          generalize sp_v L i = u at hs kb ⊢
          have s5 : ct_sc (ss_f S) (ss_w S) h5 := ⟨by rw [lo5 _ _ (by omega) (by omega)]; exact r1.1, by rw [lo5 _ _ (by omega) (by omega)]; exact r1.2, o1⟩
          have hroom : sp_fi V.1 k = none → V.1.length < 24 := fun _ => by omega
          refine ct_rankOf (d := d + 17) s5 kb.1 (ct_give (d := d + 16) e5 vok.1 kb.1 rfl hroom (fun h7 e7 a7 => ?_))
          have a57 : tv_ag (ct_rE sp) h3 h7 := a5.tr a7
          have e77 : h7.2.2 = h3.2.2 := by rw [a57.1]
          have beb := sp_eb_give (o := sp_ord (ss_f S) (ss_w S)) vok.1 kb.1 kb.2 hroom
          have bsr := sp_srt_give (v := u) vok.1 vok.2.1 kb.1
          have glen := sp_give_len (o := sp_ord (ss_f S) (ss_w S)) (A := V.1) (a := k) (b := u)
          rw [e77, hsp]
          refine ct_editNodes (d := d) (md := md') o1 njs e7 beb bsr (x3.cut (a57.J (Q := fun _ _ => False)) njs (fun q i y => Or.inl (ct_rE_O y)) (fun q i y => y.elim)) vok.1 vok.2.1 vok.2.2.1 (fun i hi => Nat.lt_trans (vok.2.2.2 i hi) (by omega)) (by omega) (by rw [a57.2 _ _ (fun g => by have := ct_rO_lt (ct_rE_O g); omega)]; exact m5) (by omega) (fun h8 x8 m8 a8 h9 w9 => ?_)
          have e88 : h8.2.2 = h3.2.2 := by rw [a8.1, e77]
          rw [e88, hsp, nI_1]
          obtain ⟨P2, b1, b2, b3, b4, b5⟩ := sp_edn_ok (E' := sp_give (sp_ord (ss_f S) (ss_w S)) V.1 k u) (own := md) o1 beb bsr vok pV
          refine ih (i + 1) (sp_give (sp_ord (ss_f S) (ss_w S)) V.1 k u, (sp_edn (ss_f S) (ss_w S) (sp_give (sp_ord (ss_f S) (ss_w S)) V.1 k u) V.1 V.2 md md').1) (sp_edn (ss_f S) (ss_w S) (sp_give (sp_ord (ss_f S) (ss_w S)) V.1 k u) V.1 V.2 md md').2 sp h9 (by omega) hs (by simp only; omega) (by omega) (by omega) b4 ⟨P2, fun x hx => by rw [b1 x (by omega)]; exact pP x hx, b5⟩ (by rw [w9]; exact x8) (by rw [w9]; exact m8) ?_ ?_
          · rw [w9]
            refine cp_fr.wR ((fr.ag (a57.J (Q := fun _ _ => False)) (fun q i y => (js q i (ct_rE_O y)).elim Or.inl (fun g => Or.inr (Or.inl g))) (fun q i y => y.elim)).ag a8 (fun q i y => ?_) (fun q i y => js q i (ct_rJ_O y)))
            rcases ct_rS_O y with g | g
            · exact (js q i g).elim Or.inl (fun g => Or.inr (Or.inl g))
            · exact Or.inr (Or.inr g)
          · have e9 : h9.2.2 0 12 = j2 := by rw [w9, tv_wR3, if_pos ⟨rfl, rfl⟩]
            rw [e9]
            rcases jsj with ⟨g1, g2⟩ | ⟨g1, g2⟩
            · exact Or.inr ⟨g1, g2⟩
            · exact Or.inl ⟨g1, g2⟩
      have na := ct_tp a
      have a02 : tv_ag (fun q i => q = tv_tp a ∧ (i = 0 ∨ i = 5)) h0 h2 := by
        rw [w2, w1]
        exact (tv_ag.rf.wI ⟨rfl, Or.inl rfl⟩).wI ⟨rfl, Or.inr rfl⟩
      have eN : sp_N (ss_f S) (ss_w S) [] = [] := sp_lay_nil (Nat.le_refl _)
      refine H L.length 0 ([], []) md a h2 (by omega) rfl (Nat.le_refl _) (Nat.le_refl _) (by omega) ⟨⟨Nat.zero_le _, fun i hi => absurd hi (Nat.not_lt_zero i)⟩, fun i j _ hj => absurd hj (Nat.not_lt_zero j), by rw [eN]; rfl, fun i hi => absurd hi (Nat.not_lt_zero i)⟩ ⟨P, fun _ _ => rfl, fun i hi => absurd hi (Nat.not_lt_zero i)⟩ ⟨⟨?_, fun i hi => absurd hi (Nat.not_lt_zero i)⟩, ⟨?_, fun i hi => ?_, fun i hi => absurd hi (Nat.not_lt_zero i)⟩, fun i hi => absurd hi (Nat.not_lt_zero i)⟩ ?_ ⟨fun q i y => a02.2 q i (fun g => y (Or.inl (by unfold ct_rO; omega))), fun q i y => by rw [a02.1], fun q i y => by rw [a02.1]⟩ (Or.inl ⟨rfl, by rw [a02.1]; exact hb⟩)
      · rw [w2, tv_wIc (by omega), w1, tv_wIe]; rfl
      · rw [eN, w2, tv_wIe]; rfl
      · rw [eN] at hi; exact absurd hi (Nat.not_lt_zero i)
      · rw [a02.2 _ _ (by omega)]; exact r6.1
end CCF
