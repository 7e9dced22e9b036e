/-! THE REFERENCE: the numbers of new nodes -/
section MDF
variable {ad : Nat → Nat} {d : Nat} {h : tv_AH} {f w own : Nat} {E E' : List (Nat × Nat)} {ids : List Nat}
theorem sp_id_l {A B : List Nat} {i : Nat} (hi : i < A.length) : sp_id (A ++ B) i = sp_id A i := by
  simp [sp_id, List.getD_eq_getElem?_getD, List.getElem?_append, hi]
theorem sp_id_r {A B : List Nat} {i : Nat} (hi : A.length ≤ i) : sp_id (A ++ B) i = sp_id B (i - A.length) := by
  have e : ¬ i < A.length := by omega
  simp [sp_id, List.getD_eq_getElem?_getD, List.getElem?_append, e]
theorem sp_id_dt {A : List Nat} {k n t : Nat} (ht : t < n) : sp_id ((A.drop k).take n) t = sp_id A (k + t) := by
  simp [sp_id, List.getD_eq_getElem?_getD, List.getElem?_take, ht, List.getElem?_drop]
theorem sp_dt_len {A : List Nat} {k n : Nat} (h : k + n ≤ A.length) : ((A.drop k).take n).length = n := by
  simp only [List.length_take, List.length_drop]; omega
/-- alike: the whole stretch of numbers is there -/
theorem sp_fl_wd {i k : Nat} (hi : i < (sp_N f w E').length) (hl : ids.length = (sp_N f w E).length) (hf : sp_fl E' (sp_n (sp_N f w E') i) E (sp_N f w E) = some k) : k + sp_wd (sp_N f w E') i ≤ ids.length ∧ 1 ≤ sp_wd (sp_N f w E') i ∧ i + sp_wd (sp_N f w E') i ≤ (sp_N f w E').length := by
  obtain ⟨h1, h2, -⟩ := sp_fst_some.mp hf
  have hk := sp_like_wd hi h1 (of_decide_eq_true h2)
  have a := sp_wd_len (Nat.le_refl 7) hi
  have b := sp_wd_len (Nat.le_refl 7) h1
  have e1 : (sp_lay (sp_g f w E') 7 0 E'.length) = sp_N f w E' := rfl
  have e2 : (sp_lay (sp_g f w E) 7 0 E.length) = sp_N f w E := rfl
  rw [e1] at a
  rw [e2] at b
  have := hk.1
  omega
/-- a source of numbers: a map and what it holds -/
def md_two (two : Option (Nat × List (Nat × Nat) × List Nat)) (f w : Nat) (h : tv_AH) : Prop := match two with
  | some t => t.1 < 20 ∧ md_M t.1 f w t.2.1 t.2.2 (2 ^ 30) h
  | none => True
def md_twoI (two : Option (Nat × List (Nat × Nat) × List Nat)) : Int32 := match two with
  | some t => nI t.1
  | none => -1
theorem md_two.ag {two : Option (Nat × List (Nat × Nat) × List Nat)} {P : Nat → Nat → Prop} {h' : tv_AH} (k : md_two two f w h) (a : tv_ag P h h') (n : ∀ m, m < 20 → ∀ q i, md_rM m q i → ¬ P q i) : md_two two f w h' := by
  cases two with
  | none => trivial
  | some t => exact ⟨k.1, k.2.ag a (n _ k.1)⟩
/-- what tellNew may change -/
def md_rT (q i : Nat) : Prop := md_rN 21 q i ∨ md_rP q i ∨ (q = 400 ∧ i = 7)
theorem md_rT_ne {m q i : Nat} (hm : m < 21) (a : md_rM m q i) : ¬ md_rT q i := by
  unfold md_rM md_rE md_rN at a
  unfold md_rT md_rN md_rP
  omega
/-- the state of the loop over the nodes: those before i have their numbers -/
def md_lp (f w : Nat) (E' : List (Nat × Nat)) (A : List Nat) (own : Nat) (h : tv_AH) : Prop :=
  md_E 21 E' h ∧ h.1 413 21 = nI (sp_N f w E').length ∧ md_N 21 (sp_N f w E') h ∧ A.length ≤ (sp_N f w E').length ∧ (∀ i, i < A.length → sp_id A i < 2 ^ 30) ∧ (∀ i, i < A.length → h.1 418 (2016 + i) = nI (sp_id A i) ∧ h.1 419 (2016 + i) = if own ≤ sp_id A i then 1 else 0) ∧ (∀ i, A.length ≤ i → i < (sp_N f w E').length → h.1 419 (2016 + i) = 0)
theorem md_lp.app {A l : List Nat} {h' : tv_AH} (hb : sp_eb E') (k : md_lp f w E' A own h) (hl : A.length + l.length ≤ (sp_N f w E').length) (ag : tv_ag (fun q i => ((q = 418 ∨ q = 419) ∧ 2016 + A.length ≤ i ∧ i < 2016 + A.length + l.length) ∨ (q = 400 ∧ (i = 7 ∨ i = 6))) h h') (hlt : ∀ t, t < l.length → sp_id l t < 2 ^ 30) (hn : ∀ t, t < l.length → h'.1 418 (2016 + A.length + t) = nI (sp_id l t) ∧ h'.1 419 (2016 + A.length + t) = if own ≤ sp_id l t then 1 else 0) : md_lp f w E' (A ++ l) own h' := by
  obtain ⟨k1, k2, k3, k4, k5, k6, k7⟩ := k
  have hN96 := sp_N_len (f := f) (w := w) hb.1
  refine ⟨k1.cg hb.1 (fun q i r => ag.2 q i (by unfold md_rE at r; omega)), by rw [ag.2 _ _ (by omega)]; exact k2, fun i hi => ?_, by rw [List.length_append]; exact hl, fun i hi => ?_, fun i hi => ?_, fun i h1 h2 => ?_⟩
  · rw [ag.2 _ _ (by omega), ag.2 _ _ (by omega), ag.2 _ _ (by omega), ag.2 _ _ (by omega)]
    exact k3 i hi
  · rw [List.length_append] at hi
    by_cases c : i < A.length
    · rw [sp_id_l c]; exact k5 i c
    · rw [sp_id_r (by omega)]; exact hlt _ (by omega)
  · rw [List.length_append] at hi
    by_cases c : i < A.length
    · rw [sp_id_l c, ag.2 _ _ (by omega), ag.2 _ _ (by omega)]; exact k6 i c
    · rw [sp_id_r (by omega)]
      have := hn (i - A.length) (by omega)
      rw [show 2016 + A.length + (i - A.length) = 2016 + i by omega] at this
      exact this
  · rw [List.length_append] at h1
    rw [ag.2 _ _ (by omega)]
    exact k7 i (by omega) h2
theorem md_tellNew {one md : Nat} {E1 : List (Nat × Nat)} {ids1 : List Nat} {two : Option (Nat × List (Nat × Nat) × List Nat)} (s : md_sc f w h) (e : md_E 21 E' h) (hb : sp_eb E') (ho : one < 20) (k1 : md_M one f w E1 ids1 (2 ^ 30) h) (k2 : md_two two f w h) (hmd : h.1 400 7 = nI md) (hmb : md + 96 ≤ 2 ^ 30) {K : tv_AH → Prop}
    (hK : ∀ h', md_M 21 f w E' (sp_new f w E' (E1, ids1) (two.map (fun t => t.2)) md).1 (2 ^ 30) h' → h'.1 400 7 = nI (sp_new f w E' (E1, ids1) (two.map (fun t => t.2)) md).2 → tv_ag md_rT h h' → K h') :
    tv_CV ad (d + 5) yX3_tellNew [.ref (ad 400), .int (nI one), .int (md_twoI two)] h K := by
  have hN96 := sp_N_len (f := f) (w := w) hb.1
  have h24 := hb.1
  refine nX3_tellNew _ _ h (md_layNodes (m := 21) (by omega) s e hb (fun h1 c1 n1 z1 a1 => ?_))
  have ag1 : tv_ag md_rT h h1 := a1.mo (fun q i z => by rcases z with z | z; exact Or.inl z; exact Or.inr (Or.inl z))
  generalize hL : (sp_N f w E').length = L at *
  let go := fun n i md => sp_go L (sp_wd (sp_N f w E')) (fun i => sp_tk2 f w E' i (E1, ids1) (two.map (fun t => t.2))) (fun _ md => (md, md + 1)) n i md
  have hgo : sp_new f w E' (E1, ids1) (two.map (fun t => t.2)) md = go (L + 1) 0 md := by
    unfold sp_new
    rw [hL]
  rw [hgo] at hK
  have H : ∀ n i md' (A : List Nat) (h2 : tv_AH), L - i < n → A.length = i → i ≤ L → md' ≤ md + i → (A ++ (go n i md').1, (go n i md').2) = go (L + 1) 0 md → md_lp f w E' A (2 ^ 30) h2 → h2.1 400 7 = nI md' → tv_ag md_rT h h2 → tv_Wp ad RX3 cX3_tellNew 6 none (d + 4) (tv_pV K) 8 [(0, .ref (ad 400)), (1, .int (nI one)), (2, .int (md_twoI two)), (3, .int (nI i))] [] h2 := by
    intro n
    induction n with
    | zero => intro i md' A h2 hn; exact absurd hn (by omega)
    | succ n ih =>
      intro i md' A h2 hn hA hi hmd' hgo2 lp hm2 ag
      obtain ⟨p1, p2, p3, p4, p5, p6, p7⟩ := id lp
      have kk1 := k1.ag ag (fun q i r => md_rT_ne (by omega) r)
      have kk2 := k2.ag ag (fun m hm q i r => md_rT_ne (by omega) r)
      rw [hL] at p4 p7
      refine bX3_tellNew_8 _ _ _ h2 ?_
      rw [p2, hL]
      refine ⟨pk_in 21 22 (by omega), pk_le L i (fun q => ?_) (fun q => ?_)⟩
      · have hiL : i = L := by omega
        have g1 : go (n + 1) i md' = ([], md') := by
          show (if i < L then _ else _) = _
          rw [if_neg (by omega)]
        rw [g1, List.append_nil] at hgo2
        rw [← hgo2] at hK
        refine hK h2 ⟨p1, hb, by rw [p2], p3, by show A.length = _; omega, p5, fun t ht => ?_⟩ hm2 ag
        exact p6 t ht
      · have g1 : go (n + 1) i md' = (match sp_tk2 f w E' i (E1, ids1) (two.map (fun t => t.2)) with
          | some l => (l ++ (go n (i + sp_wd (sp_N f w E') i) md').1, (go n (i + sp_wd (sp_N f w E') i) md').2)
          | none => (md' :: (go n (i + 1) (md' + 1)).1, (go n (i + 1) (md' + 1)).2)) := by
          show (if i < L then _ else _) = _
          rw [if_pos q]
          rfl
        have hiN : i < (sp_N f w E').length := by omega
        -- taking from a map
        have take : ∀ (m : Nat) (E0 : List (Nat × Nat)) (ids0 : List Nat) (k : Nat), m < 20 → md_M m f w E0 ids0 (2 ^ 30) h2 → sp_fl E' (sp_n (sp_N f w E') i) E0 (sp_N f w E0) = some k → sp_tk2 f w E' i (E1, ids1) (two.map (fun t => t.2)) = some ((ids0.drop k).take (sp_wd (sp_N f w E') i)) → tv_CI ad (d + 4) yX3_takeAll [.ref (ad 400), .int 21, .int (nI i), .int (nI m), .int (nI k)] h2 (fun r h3 => tv_Wp ad RX3 cX3_tellNew 6 none (d + 4) (tv_pV K) 8 [(0, .ref (ad 400)), (1, .int (nI one)), (2, .int (md_twoI two)), (3, .int (nI i + r))] [] h3) := by
          intro m E0 ids0 k hm km hfl htk
          have kml := km.2.2.2.2.1
          have kmN := sp_N_len (f := f) (w := w) km.2.1.1
          obtain ⟨w1, w2, w3⟩ := sp_fl_wd hiN kml hfl
          refine md_takeAll (m := 21) (m' := m) (i := i) (k := k) (by omega) (by omega) (by omega) hb p2 p3 hiN rfl (by omega) (fun t ht => by rw [Nat.add_assoc]; exact md_z km (by omega)) (fun h3 c3 a3 => ?_)
          rw [nI_add]
          have hll := sp_dt_len (A := ids0) (k := k) (n := sp_wd (sp_N f w E') i) w1
          refine ih (i + sp_wd (sp_N f w E') i) md' (A ++ (ids0.drop k).take (sp_wd (sp_N f w E') i)) h3 (by omega) (by rw [List.length_append, hll, hA]) (by omega) (by omega) ?_ ?_ ?_ ?_
          · rw [← hgo2, g1, htk, List.append_assoc]
          · refine lp.app hb (by rw [hll]; omega) (a3.mo (fun q j z => by rw [hll, hA]; omega)) (fun t ht => ?_) (fun t ht => ?_)
            · rw [hll] at ht
              rw [sp_id_dt ht]
              exact km.2.2.2.2.2.1 _ (by omega)
            · rw [hll] at ht
              rw [sp_id_dt ht, hA]
              have c := c3 t ht
              rw [show 96 * 21 + i + t = 2016 + i + t by omega, Nat.add_assoc (96 * m) k t] at c
              rw [c.1, c.2]
              exact km.2.2.2.2.2.2 (k + t) (by omega)
          · rw [a3.2 _ _ (by omega)]; exact hm2
          · exact ag.tr (a3.mo (fun q j z => by unfold md_rT md_rN; omega))
        refine md_likeIn (m := 21) (by omega) (by omega) p1 hb kk1.1 kk1.2.1 p3 kk1.2.2.1 kk1.2.2.2.1 hiN ?_
        cases hf1 : sp_fl E' (sp_n (sp_N f w E') i) E1 (sp_N f w E1) with
        | some k =>
          have hk96 : k < 96 := by
            have := (sp_fst_some.mp hf1).1
            have := sp_N_len (f := f) (w := w) kk1.2.1.1
            omega
          refine ⟨fun _ => ?_, fun z => absurd z (tv_m1 (by omega))⟩
          refine bX3_tellNew_52 _ _ _ _ _ h2 ⟨fun z => absurd z (tv_m1 (by omega)), fun _ => ?_⟩
          refine take one E1 ids1 k ho kk1 hf1 ?_
          unfold sp_tk2 sp_tk
          simp only [hf1]
        | none =>
          refine ⟨fun z => absurd rfl z, fun _ => ?_⟩
          have made : sp_tk2 f w E' i (E1, ids1) (two.map (fun t => t.2)) = none → tv_CV ad (d + 4) yX3_make [.ref (ad 400), .int (2016 + nI i)] h2 (fun h3 => tv_Wp ad RX3 cX3_tellNew 6 none (d + 4) (tv_pV K) 8 [(0, .ref (ad 400)), (1, .int (nI one)), (2, .int (md_twoI two)), (3, .int (nI i + 1))] [] h3) := by
            intro htk
            rw [show (2016 : Int32) + nI i = nI (2016 + i) from by rw [show (2016 : Int32) = nI 2016 from rfl, nI_add], nI_1]
            refine md_make (by omega) hm2 ?_
            have a3 : tv_ag (fun q j => (q = 418 ∧ j = 2016 + i) ∨ (q = 400 ∧ j = 7)) h2 (tv_wI (tv_wI h2 418 (2016 + i) (nI md')) 400 7 (nI (md' + 1))) := (tv_ag.rf.wI (Or.inl ⟨rfl, rfl⟩)).wI (Or.inr ⟨rfl, rfl⟩)
            refine ih (i + 1) (md' + 1) (A ++ [md']) _ (by omega) (by rw [List.length_append, hA]; rfl) (by omega) (by omega) ?_ ?_ tv_wIe (ag.tr (a3.mo (fun q j z => by unfold md_rT md_rN; omega)))
            · rw [← hgo2, g1, htk, List.append_assoc]
              rfl
            · refine lp.app hb (by rw [List.length_singleton]; omega) (a3.mo (fun q j z => by rw [List.length_singleton, hA]; omega)) (fun t ht => ?_) (fun t ht => ?_)
              · rw [List.length_singleton] at ht
                rw [show t = 0 by omega]
                show md' < 2 ^ 30
                omega
              · rw [List.length_singleton] at ht
                have e0 : 2016 + A.length + t = 2016 + i := by omega
                have e1 : t = 0 := by omega
                rw [e0, e1, a3.2 419 _ (by omega), tv_wIc (by omega), tv_wIe]
                refine ⟨rfl, ?_⟩
                rw [if_neg (show ¬ 2 ^ 30 ≤ sp_id [md'] 0 from by show ¬ 2 ^ 30 ≤ md'; omega)]
                exact p7 i (by omega) q
          cases two with
          | none =>
            refine ⟨fun _ => ?_, fun z => absurd rfl z⟩
            refine bX3_tellNew_52 _ _ _ _ _ h2 ⟨fun _ => ⟨fun _ => ?_, fun z => absurd rfl z⟩, fun z => absurd rfl z⟩
            refine made ?_
            unfold sp_tk2 sp_tk
            simp only [hf1, Option.map_none]
          | some t =>
            obtain ⟨t1, t2, t3⟩ := t
            obtain ⟨ht20, kt⟩ := kk2
            simp only at ht20 kt
            refine ⟨fun z => absurd z (tv_m1 (by omega)), fun _ => ?_⟩
            refine md_likeIn (m := 21) (m' := t1) (by omega) (by omega) p1 hb kt.1 kt.2.1 p3 kt.2.2.1 kt.2.2.2.1 hiN ?_
            cases hf2 : sp_fl E' (sp_n (sp_N f w E') i) t2 (sp_N f w t2) with
            | some k =>
              have hk96 : k < 96 := by
                have := (sp_fst_some.mp hf2).1
                have := sp_N_len (f := f) (w := w) kt.2.1.1
                omega
              refine bX3_tellNew_52 _ _ _ _ _ h2 ⟨fun _ => ⟨fun z => absurd z (tv_m1 (by omega)), fun _ => ?_⟩, fun z => absurd rfl z⟩
              refine take t1 t2 t3 k ht20 kt hf2 ?_
              unfold sp_tk2 sp_tk
              simp only [hf1, hf2, Option.map_some]
            | none =>
              refine bX3_tellNew_52 _ _ _ _ _ h2 ⟨fun _ => ⟨fun _ => ?_, fun z => absurd rfl z⟩, fun z => absurd rfl z⟩
              refine made ?_
              unfold sp_tk2 sp_tk
              simp only [hf1, hf2, Option.map_some]
  refine H (L + 1) 0 md [] h1 (by omega) rfl (by omega) (by omega) (by simp) ?_ ?_ ag1
  · refine ⟨e.cg hb.1 (fun q i r => a1.2 q i (by unfold md_rE at r; unfold md_rN md_rP; omega)), by rw [hL]; exact c1, n1, by simp, fun i hi => absurd hi (by simp), fun i hi => absurd hi (by simp), fun i _ hi => ?_⟩
    exact z1 i (by omega)
  · rw [a1.2 _ _ (by unfold md_rN md_rP; omega)]; exact hmd
end MDF
