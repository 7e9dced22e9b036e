/-! THE REFERENCE: copies of maps, an entry more, an entry less -/
section MDB
variable {ad : Nat → Nat} {d : Nat} {h : tv_AH} {m k v f w : Nat} {E : List (Nat × Nat)}
theorem md_rE_ne {m m' q i : Nat} (n : m ≠ m') (a : md_rE m q i) : ¬ md_rE m' q i := by
  unfold md_rE at *
  omega
theorem md_E.ag {m' : Nat} {h' : tv_AH} (e : md_E m E h) (hE : E.length ≤ 24) (n : m ≠ m') (a : tv_ag (md_rE m') h h') : md_E m E h' := e.cg hE (fun q i r => a.2 q i (md_rE_ne n r))
theorem md_sc.ag {h' : tv_AH} {P : Nat → Nat → Prop} (s : md_sc f w h) (a : tv_ag P h h') (n2 : ¬ P 400 2) (n3 : ¬ P 400 3) : md_sc f w h' := ⟨by rw [a.2 _ _ n2]; exact s.1, by rw [a.2 _ _ n3]; exact s.2.1, s.2.2⟩
theorem md_rE_400 {m i : Nat} : ¬ md_rE m 400 i := by unfold md_rE; omega
theorem md_copyTo {m' : Nat} (hm : m < 22) (hm' : m' < 22) (n : m' ≠ m) (e : md_E m' E h) (hb : sp_eb E) {K : tv_AH → Prop} (hK : ∀ h', md_E m E h' → tv_ag (md_rE m) h h' → K h') : tv_CV ad (d + 2) yX3_copyTo [.ref (ad 400), .int (nI m), .int (nI m')] h K := by
  refine nX3_copyTo _ _ h ?_
  rw [tv_nc m, tv_nc m', e.1]
  refine ⟨pk_in m' 22 hm', pk_in m 22 hm, fun h1 w1 => ?_⟩
  have h24 := hb.1
  have H : ∀ c i (h2 : tv_AH), i + c = E.length → tv_ag (md_rE m) h h2 → h2.1 410 m = nI E.length → (∀ j, j < i → h2.1 411 (24 * m + j) = nI (sp_k E j) ∧ h2.1 412 (24 * m + j) = nI (sp_v E j)) → tv_Wp ad RX3 cX3_copyTo 4 none (d + 1) (tv_pV K) 14 [(0, .ref (ad 400)), (1, .int (nI m)), (2, .int (nI m')), (3, .int (nI i))] [] h2 := by
    intro c
    induction c with
    | zero =>
      intro i h2 hi a hs hj
      have e2 := e.ag hb.1 n a
      refine bX3_copyTo_14 _ _ _ h2 ?_
      rw [tv_nc m', e2.1]
      refine ⟨pk_in m' 22 hm', pk_le E.length i (fun _ => hK h2 ⟨hs, fun j q => hj j (by omega)⟩ a) (fun c => absurd c (by omega))⟩
    | succ c ih =>
      intro i h2 hi a hs hj
      have e2 := e.ag hb.1 n a
      refine bX3_copyTo_14 _ _ _ h2 ?_
      rw [tv_nc m', e2.1]
      refine ⟨pk_in m' 22 hm', pk_le E.length i (fun c => absurd c (by omega)) (fun q => ?_)⟩
      refine md_keyAt hm' (by omega) ?_
      rw [(e2.2 i q).1, tv_24, tv_nc (24 * m + i)]
      refine ⟨pk_in (24 * m + i) 528 (by omega), fun h3 w3 => ?_⟩
      subst w3
      refine md_valueAt hm' (by omega) ?_
      rw [tv_wIc (by omega), (e2.2 i q).2]
      refine ⟨pk_in (24 * m + i) 528 (by omega), fun h4 w4 => ?_⟩
      subst w4
      rw [nI_1]
      refine ih (i + 1) _ (by omega) ?_ ?_ ?_
      · exact (a.wI (Or.inr ⟨Or.inl rfl, by omega, by omega⟩)).wI (Or.inr ⟨Or.inr rfl, by omega, by omega⟩)
      · rw [tv_wIc (by omega), tv_wIc (by omega)]; exact hs
      · intro j hji
        rcases Nat.lt_or_ge j i with z | z
        · rw [tv_wIc (by omega), tv_wIc (by omega), tv_wIc (by omega), tv_wIc (by omega)]
          exact hj j z
        · have : j = i := by omega
          subst this
          rw [tv_wIc (by omega), tv_wIe, tv_wIe]
          exact ⟨rfl, rfl⟩
  subst w1
  exact H E.length 0 _ (by omega) (tv_ag.rf.wI (Or.inl ⟨rfl, rfl⟩)) tv_wIe (fun j hj => absurd hj (by omega))
/-- an entry more: behind those that are not behind it -/
theorem md_give (hm : m < 22) (s : md_sc f w h) (e : md_E m E h) (hb : sp_eb E) (hk : k < 4096) (hv : v < 1000) (hr : sp_fi E k = none → E.length < 24) {K : tv_AH → Prop} (hK : ∀ h', md_E m (sp_give (sp_ord f w) E k v) h' → tv_ag (md_rE m) h h' → K h') : tv_CV ad (d + 3) yX3_give [.ref (ad 400), .int (nI m), .int (nI k), .int (nI v)] h K := by
  have h24 := hb.1
  refine nX3_give _ _ _ h (md_placeOf hm e hb hk ?_)
  unfold sp_give at hK
  unfold sp_ix
  cases hf : sp_fi E k with
  | some i =>
    obtain ⟨i1, i2, -⟩ := sp_fi_some hf
    rw [hf] at hK
    refine ⟨fun _ => ?_, fun z => absurd z (tv_m1 (by omega))⟩
    simp only
    rw [tv_24, tv_nc (24 * m + i)]
    refine ⟨pk_in (24 * m + i) 528 (by omega), fun h2 w2 => ⟨pk_in (24 * m + i) 528 (by omega), fun h3 w3 => ?_⟩⟩
    subst w2
    subst w3
    refine hK _ ⟨?_, fun j hj => ?_⟩ ((tv_ag.rf.wI (Or.inr ⟨Or.inl rfl, by omega, by omega⟩)).wI (Or.inr ⟨Or.inr rfl, by omega, by omega⟩))
    · rw [tv_wIc (by omega), tv_wIc (by omega), List.length_set]; exact e.1
    · rw [List.length_set] at hj
      rw [sp_set_k i1, sp_set_v i1, tv_wIc (by omega), tv_wI1, tv_wI1]
      by_cases c : j = i
      · subst c; simp
      · rw [if_neg c, if_neg c, if_neg (by omega), if_neg (by omega), tv_wIc (by omega)]
        exact e.2 j hj
  | none =>
    rw [hf] at hK
    have hr := hr hf
    have hno := sp_fi_none hf
    refine ⟨fun z => absurd rfl z, fun _ => ⟨pk_in m 22 hm, ?_⟩⟩
    rw [tv_nc m, e.1]
    have H : ∀ c (h2 : tv_AH), c ≤ E.length → sp_pos (sp_ord f w) E k E.length = sp_pos (sp_ord f w) E k c → tv_ag (md_rE m) h h2 → h2.1 410 m = nI E.length → (∀ j, j < c → h2.1 411 (24 * m + j) = nI (sp_k E j) ∧ h2.1 412 (24 * m + j) = nI (sp_v E j)) → (∀ j, c < j → j < E.length + 1 → h2.1 411 (24 * m + j) = nI (sp_k E (j - 1)) ∧ h2.1 412 (24 * m + j) = nI (sp_v E (j - 1))) → tv_Wp ad RX3 cX3_give 5 none (d + 2) (tv_pV K) 22 [(0, .ref (ad 400)), (1, .int (nI m)), (2, .int (nI k)), (3, .int (nI v)), (4, .int (nI c))] [] h2 := by
      intro c
      have fin : ∀ (c : Nat) (h2 : tv_AH), c ≤ E.length → sp_pos (sp_ord f w) E k E.length = c → tv_ag (md_rE m) h h2 → h2.1 410 m = nI E.length → (∀ j, j < c → h2.1 411 (24 * m + j) = nI (sp_k E j) ∧ h2.1 412 (24 * m + j) = nI (sp_v E j)) → (∀ j, c < j → j < E.length + 1 → h2.1 411 (24 * m + j) = nI (sp_k E (j - 1)) ∧ h2.1 412 (24 * m + j) = nI (sp_v E (j - 1))) → K (tv_wI (tv_wI (tv_wI h2 410 m (nI E.length + 1)) 411 (24 * m + c) (nI k)) 412 (24 * m + c) (nI v)) := by
        intro c h2 hc hp a hs ha hb2
        refine hK _ ?_ (((a.wI (Or.inl ⟨rfl, rfl⟩)).wI (Or.inr ⟨Or.inl rfl, by omega, by omega⟩)).wI (Or.inr ⟨Or.inr rfl, by omega, by omega⟩))
        rw [hp]
        simp only
        refine ⟨?_, fun j hj => ?_⟩
        · rw [tv_wIc (by omega), tv_wIc (by omega), tv_wIe, sp_ins_len hc, nI_1]
        · rw [sp_ins_len hc] at hj
          rw [sp_ins_k hc, sp_ins_v hc]
          rcases Nat.lt_trichotomy j c with z | z | z
          · rw [if_pos z, if_pos z, tv_wIc (by omega), tv_wIc (by omega), tv_wIc (by omega), tv_wIc (by omega), tv_wIc (by omega), tv_wIc (by omega)]
            exact ha j z
          · subst z
            rw [if_neg (Nat.lt_irrefl j), if_neg (Nat.lt_irrefl j), if_pos (Eq.refl j), if_pos (Eq.refl j), tv_wIc (by omega), tv_wIe, tv_wIe]
            exact ⟨rfl, rfl⟩
          · rw [if_neg (show ¬ j < c by omega), if_neg (show ¬ j < c by omega), if_neg (show ¬ j = c by omega), if_neg (show ¬ j = c by omega), tv_wIc (by omega), tv_wIc (by omega), tv_wIc (by omega), tv_wIc (by omega), tv_wIc (by omega), tv_wIc (by omega)]
            exact hb2 j z hj
      induction c with
      | zero =>
        intro h2 hc hp a hs ha hb2
        refine bX3_give_22 _ _ _ _ h2 (pk_le 0 0 (fun _ => ?_) (fun z => absurd z (by omega)))
        rw [tv_24, tv_nc (24 * m + 0), tv_nc m, hs]
        refine ⟨pk_in m 22 hm, pk_in m 22 hm, fun h3 w3 => ⟨pk_in (24 * m + 0) 528 (by omega), fun h4 w4 => ⟨pk_in (24 * m + 0) 528 (by omega), fun h5 w5 => ?_⟩⟩⟩
        subst w3 w4 w5
        exact fin 0 h2 hc hp a hs ha hb2
      | succ c ih =>
        intro h2 hc hp a hs ha hb2
        have s2 := s.ag a md_rE_400 md_rE_400
        refine bX3_give_22 _ _ _ _ h2 (pk_le (c + 1) 0 (fun z => absurd z (by omega)) (fun _ => ?_))
        rw [show nI (c + 1) - 1 = nI c from nI_pred c]
        refine md_keyAt hm (by omega) ?_
        rw [(ha c (by omega)).1]
        have hkc := (hb.2 c (by omega)).1
        refine md_isAhead s2 hk hkc ?_
        rw [tv_24, tv_nc (24 * m + (c + 1)), tv_nc m, hs]
        by_cases hlt : sp_ord f w k < sp_ord f w (sp_k E c)
        · rw [if_pos hlt]
          refine ⟨fun z => absurd z (by decide), fun _ => ?_⟩
          refine md_keyAt hm (by omega) ?_
          rw [(ha c (by omega)).1]
          refine ⟨pk_in (24 * m + (c + 1)) 528 (by omega), fun h3 w3 => ?_⟩
          subst w3
          refine md_valueAt hm (by omega) ?_
          rw [tv_wIc (by omega), (ha c (by omega)).2]
          refine ⟨pk_in (24 * m + (c + 1)) 528 (by omega), fun h4 w4 => ?_⟩
          subst w4
          rw [pk_m1]
          refine ih _ (by omega) ?_ ((a.wI (Or.inr ⟨Or.inl rfl, by omega, by omega⟩)).wI (Or.inr ⟨Or.inr rfl, by omega, by omega⟩)) ?_ ?_ ?_
          · rw [hp]; show (if _ then _ else _) = _; rw [if_pos hlt]
          · rw [tv_wIc (by omega), tv_wIc (by omega)]; exact hs
          · intro j hj
            rw [tv_wIc (by omega), tv_wIc (by omega), tv_wIc (by omega), tv_wIc (by omega)]
            exact ha j (by omega)
          · intro j hj hj2
            by_cases z : j = c + 1
            · subst z
              rw [tv_wIc (by omega), tv_wIe, tv_wIe]
              exact ⟨rfl, rfl⟩
            · rw [tv_wIc (by omega), tv_wIc (by omega), tv_wIc (by omega), tv_wIc (by omega)]
              exact hb2 j (by omega) hj2
        · rw [if_neg hlt]
          refine ⟨fun _ => ?_, fun z => absurd rfl z⟩
          refine ⟨pk_in m 22 hm, pk_in m 22 hm, fun h3 w3 => ⟨pk_in (24 * m + (c + 1)) 528 (by omega), fun h4 w4 => ⟨pk_in (24 * m + (c + 1)) 528 (by omega), fun h5 w5 => ?_⟩⟩⟩
          subst w3 w4 w5
          exact fin (c + 1) h2 hc (by rw [hp]; show (if _ then _ else _) = _; rw [if_neg hlt]) a hs ha hb2
    exact H E.length h (Nat.le_refl _) rfl tv_ag.rf e.1 (fun j hj => e.2 j hj) (fun j h1 h2 => absurd h1 (by omega))
theorem md_takeFrom (hm : m < 22) (e : md_E m E h) (hb : sp_eb E) (hk : k < 4096) {K : tv_AH → Prop} (hK : ∀ h', md_E m (sp_del E k) h' → tv_ag (md_rE m) h h' → K h') : tv_CV ad (d + 3) yX3_takeFrom [.ref (ad 400), .int (nI m), .int (nI k)] h K := by
  have h24 := hb.1
  refine nX3_takeFrom _ _ h (md_placeOf hm e hb hk ?_)
  unfold sp_del at hK
  unfold sp_ix
  cases hf : sp_fi E k with
  | none =>
    rw [hf] at hK
    exact ⟨fun _ => hK h e tv_ag.rf, fun z => absurd rfl z⟩
  | some i =>
    obtain ⟨i1, i2, -⟩ := sp_fi_some hf
    rw [hf] at hK
    refine ⟨fun z => absurd z (tv_m1 (by omega)), fun _ => ⟨pk_in m 22 hm, pk_in m 22 hm, fun h2 w2 => ?_⟩⟩
    rw [tv_nc m, e.1, show (1 : Int32) = nI 1 from rfl, pk_sub (by omega)] at w2
    have hlen : (E.eraseIdx i).length = E.length - 1 := List.length_eraseIdx_of_lt i1
    have H : ∀ c j (h2 : tv_AH), j + c = E.length - 1 → i ≤ j → tv_ag (md_rE m) h h2 → h2.1 410 m = nI (E.length - 1) → (∀ t, t < j → h2.1 411 (24 * m + t) = nI (sp_k (E.eraseIdx i) t) ∧ h2.1 412 (24 * m + t) = nI (sp_v (E.eraseIdx i) t)) → (∀ t, j < t → t < E.length → h2.1 411 (24 * m + t) = nI (sp_k E t) ∧ h2.1 412 (24 * m + t) = nI (sp_v E t)) → tv_Wp ad RX3 cX3_takeFrom 5 none (d + 2) (tv_pV K) 25 [(0, .ref (ad 400)), (1, .int (nI m)), (4, .int (nI j))] [] h2 := by
      intro c
      induction c with
      | zero =>
        intro j h2 hj hij a hs ha hb2
        refine bX3_takeFrom_25 _ _ h2 ?_
        rw [tv_nc m, hs]
        refine ⟨pk_in m 22 hm, pk_le (E.length - 1) j (fun _ => hK h2 ⟨by simp only; rw [hlen]; exact hs, fun t ht => ha t (by simp only at ht; rw [hlen] at ht; omega)⟩ a) (fun z => absurd z (by omega))⟩
      | succ c ih =>
        intro j h2 hj hij a hs ha hb2
        refine bX3_takeFrom_25 _ _ h2 ?_
        rw [tv_nc m, hs]
        refine ⟨pk_in m 22 hm, pk_le (E.length - 1) j (fun z => absurd z (by omega)) (fun _ => ?_)⟩
        rw [nI_1]
        refine md_keyAt hm (by omega) ?_
        rw [(hb2 (j + 1) (by omega) (by omega)).1, tv_24, tv_nc (24 * m + j)]
        refine ⟨pk_in (24 * m + j) 528 (by omega), fun h3 w3 => ?_⟩
        subst w3
        refine md_valueAt hm (by omega) ?_
        rw [tv_wIc (by omega), (hb2 (j + 1) (by omega) (by omega)).2]
        refine ⟨pk_in (24 * m + j) 528 (by omega), fun h4 w4 => ?_⟩
        subst w4
        refine ih (j + 1) _ (by omega) (by omega) ((a.wI (Or.inr ⟨Or.inl rfl, by omega, by omega⟩)).wI (Or.inr ⟨Or.inr rfl, by omega, by omega⟩)) ?_ ?_ ?_
        · rw [tv_wIc (by omega), tv_wIc (by omega)]; exact hs
        · intro t ht
          by_cases z : t = j
          · subst z
            rw [tv_wIc (by omega), tv_wIe, tv_wIe, sp_era_k, sp_era_v, if_neg (show ¬ t < i by omega), if_neg (show ¬ t < i by omega)]
            exact ⟨rfl, rfl⟩
          · rw [tv_wIc (by omega), tv_wIc (by omega), tv_wIc (by omega), tv_wIc (by omega)]
            exact ha t (by omega)
        · intro t ht ht2
          rw [tv_wIc (by omega), tv_wIc (by omega), tv_wIc (by omega), tv_wIc (by omega)]
          exact hb2 t (by omega) ht2
    subst w2
    refine H (E.length - 1 - i) i _ (by omega) (Nat.le_refl _) (tv_ag.rf.wI (Or.inl ⟨rfl, rfl⟩)) tv_wIe ?_ ?_
    · intro t ht
      rw [tv_wIc (by omega), tv_wIc (by omega), sp_era_k, sp_era_v, if_pos ht, if_pos ht]
      exact e.2 t (by omega)
    · intro t ht ht2
      rw [tv_wIc (by omega), tv_wIc (by omega)]
      exact e.2 t ht2
end MDB
