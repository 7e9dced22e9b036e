/-! THE REFERENCE: likeness, and numbers taken -/
/-- a map with its nodes, their numbers, and which are own (those from 'own' on) -/
def md_M (m f w : Nat) (E : List (Nat × Nat)) (ids : List Nat) (own : Nat) (h : tv_AH) : Prop :=
  md_E m E h ∧ sp_eb E ∧ h.1 413 m = nI (sp_N f w E).length ∧ md_N m (sp_N f w E) h ∧ ids.length = (sp_N f w E).length ∧ (∀ i, i < ids.length → sp_id ids i < 2 ^ 30) ∧ ∀ i, i < ids.length → h.1 418 (96 * m + i) = nI (sp_id ids i) ∧ h.1 419 (96 * m + i) = if own ≤ sp_id ids i then 1 else 0
theorem md_M.cg {m f w own : Nat} {E : List (Nat × Nat)} {ids : List Nat} {h h' : tv_AH} (k : md_M m f w E ids own h) (c : ∀ q i, (md_rE m q i ∨ md_rN m q i) → h'.1 q i = h.1 q i) : md_M m f w E ids own h' := by
  obtain ⟨k1, k2, k3, k4, k5, k6, k7⟩ := k
  have hN := sp_N_len (f := f) (w := w) k2.1
  refine ⟨k1.cg k2.1 (fun q i r => c q i (Or.inl r)), k2, by rw [c _ _ (Or.inr (Or.inl ⟨rfl, rfl⟩))]; exact k3, fun i hi => ?_, k5, k6, fun i hi => ?_⟩
  · rw [c 414 _ (Or.inr (Or.inr ⟨by omega, by omega, by omega, by omega⟩)), c 415 _ (Or.inr (Or.inr ⟨by omega, by omega, by omega, by omega⟩)), c 416 _ (Or.inr (Or.inr ⟨by omega, by omega, by omega, by omega⟩)), c 417 _ (Or.inr (Or.inr ⟨by omega, by omega, by omega, by omega⟩))]
    exact k4 i hi
  · rw [c 418 _ (Or.inr (Or.inr ⟨by omega, by omega, by omega, by omega⟩)), c 419 _ (Or.inr (Or.inr ⟨by omega, by omega, by omega, by omega⟩))]
    exact k7 i hi
section MDD
variable {ad : Nat → Nat} {d : Nat} {h : tv_AH} {m m' f w : Nat} {E E' : List (Nat × Nat)}
theorem md_widthOf {i : Nat} (hm : m < 22) (hb : sp_eb E) (hc : h.1 413 m = nI (sp_N f w E).length) (hN : md_N m (sp_N f w E) h) (hi : i < (sp_N f w E).length) {K : Int32 → tv_AH → Prop} (hK : K (nI (sp_wd (sp_N f w E) i)) h) : tv_CI ad (d + 1) yX3_widthOf [.ref (ad 400), .int (nI m), .int (nI i)] h K := by
  have hN96 := sp_N_len (f := f) (w := w) hb.1
  have h24 := hb.1
  refine nX3_widthOf _ _ h ?_
  rw [tv_96, tv_nc (96 * m + i), (hN i hi).2.2.1, (hN i hi).2.2.2, nI_add, nI_1]
  refine ⟨pk_in (96 * m + i) 2112 (by omega), pk_in (96 * m + i) 2112 (by omega), ?_⟩
  obtain ⟨-, -, o3, -⟩ := sp_N_ok hi
  unfold sp_wd at hK
  generalize (sp_n (sp_N f w E) i).2.2.1 + (sp_n (sp_N f w E) i).2.2.2 = e at hK o3 ⊢
  have H : ∀ n k, k ≤ (sp_N f w E).length → (sp_N f w E).length - k ≤ n → i < k → sp_wdF (sp_N f w E) e ((sp_N f w E).length - (i + 1)) (i + 1) = sp_wdF (sp_N f w E) e ((sp_N f w E).length - k) k → tv_Wp ad RX3 cX3_widthOf 5 (some .int) d (tv_pI K) 29 [(0, .ref (ad 400)), (1, .int (nI m)), (2, .int (nI i)), (3, .int (nI e)), (4, .int (nI k))] [] h := by
    intro n
    induction n with
    | zero =>
      intro k k1 k2 k3 k4
      have : k = (sp_N f w E).length := by omega
      subst this
      rw [k4, Nat.sub_self] at hK
      refine bX3_widthOf_29 _ _ _ _ h ?_
      rw [tv_nc m, hc]
      refine ⟨pk_in m 22 hm, pk_le (sp_N f w E).length (sp_N f w E).length (fun _ => ?_) (fun z => absurd z (by omega))⟩
      rw [pk_sub (by omega)]
      exact hK
    | succ n ih =>
      intro k k1 k2 k3 k4
      refine bX3_widthOf_29 _ _ _ _ h ?_
      rw [tv_nc m, hc]
      refine ⟨pk_in m 22 hm, pk_le (sp_N f w E).length k (fun z => ?_) (fun z => ?_)⟩
      · have : k = (sp_N f w E).length := by omega
        subst this
        rw [k4, Nat.sub_self] at hK
        rw [pk_sub (by omega)]
        exact hK
      · rw [tv_96, tv_nc (96 * m + k), (hN k z).2.2.1]
        refine ⟨pk_in (96 * m + k) 2112 (by omega), ?_⟩
        obtain ⟨-, -, p3, -⟩ := sp_N_ok z
        have hst : sp_wdF (sp_N f w E) e ((sp_N f w E).length - k) k = if k < (sp_N f w E).length ∧ (sp_n (sp_N f w E) k).2.2.1 < e then sp_wdF (sp_N f w E) e ((sp_N f w E).length - (k + 1)) (k + 1) else k := by
          rw [show (sp_N f w E).length - k = ((sp_N f w E).length - (k + 1)) + 1 by omega]
          rfl
        refine pk_le e (sp_n (sp_N f w E) k).2.2.1 (fun q => ?_) (fun q => ?_)
        · rw [if_neg (by omega)] at hst
          rw [k4, hst] at hK
          rw [pk_sub (by omega)]
          exact hK
        · rw [if_pos ⟨z, q⟩] at hst
          rw [nI_1]
          exact ih (k + 1) (by omega) (by omega) (by omega) (k4.trans hst)
  exact H (sp_N f w E).length (i + 1) (by omega) (by omega) (by omega) rfl
theorem md_isLike {i k : Nat} (hm : m < 22) (hm' : m' < 22) (e : md_E m E h) (hb : sp_eb E) (e' : md_E m' E' h) (hb' : sp_eb E') (hN : md_N m (sp_N f w E) h) (hN' : md_N m' (sp_N f w E') h) (hi : i < (sp_N f w E).length) (hk : k < (sp_N f w E').length) {K : Int32 → tv_AH → Prop} (hK : K (if sp_like E (sp_n (sp_N f w E) i) E' (sp_n (sp_N f w E') k) then 1 else 0) h) : tv_CI ad (d + 2) yX3_isLike [.ref (ad 400), .int (nI m), .int (nI i), .int (nI m'), .int (nI k)] h K := by
  have hN96 := sp_N_len (f := f) (w := w) hb.1
  have hN96' := sp_N_len (f := f) (w := w) hb'.1
  have h24 := hb.1
  have h24' := hb'.1
  obtain ⟨o1, o2, o3, o4, o5, o6⟩ := sp_N_ok hi
  obtain ⟨p1, p2, p3, p4, p5, p6⟩ := sp_N_ok hk
  have kx : sp_kd (sp_g f w E) (sp_n (sp_N f w E) i).2.2.1 ((sp_n (sp_N f w E) i).2.2.1 + (sp_n (sp_N f w E) i).2.2.2) < 3 := by unfold sp_kd; split; (split <;> omega); omega
  have ky : sp_kd (sp_g f w E') (sp_n (sp_N f w E') k).2.2.1 ((sp_n (sp_N f w E') k).2.2.1 + (sp_n (sp_N f w E') k).2.2.2) < 3 := by unfold sp_kd; split; (split <;> omega); omega
  obtain ⟨n1, n2, n3, n4⟩ := hN i hi
  obtain ⟨n1', n2', n3', n4'⟩ := hN' k hk
  generalize hx : sp_n (sp_N f w E) i = x at *
  generalize hy : sp_n (sp_N f w E') k = y at *
  have hin : vp_in (nI (96 * m + i)) 2112 := pk_in (96 * m + i) 2112 (by omega)
  have hin' : vp_in (nI (96 * m' + k)) 2112 := pk_in (96 * m' + k) 2112 (by omega)
  -- the loop over the entries
  have H : ∀ n t (z : Int32), t + n = x.2.2.2 → (z = 1 ∧ (x.1 = y.1 ∧ x.2.2.2 = y.2.2.2 ∧ (x.1 = 2 → x.2.1 = y.2.1) ∧ ∀ j, j < t → sp_k E (x.2.2.1 + j) = sp_k E' (y.2.2.1 + j) ∧ sp_v E (x.2.2.1 + j) = sp_v E' (y.2.2.1 + j)) ∨ (z = 0 ∧ ¬ sp_like E x E' y)) → tv_Wp ad RX3 cX3_isLike 9 (some .boolean) (d + 1) (tv_pI K) 89 [(0, .ref (ad 400)), (1, .int (nI m)), (3, .int (nI m')), (5, .int (nI (96 * m + i))), (6, .int (nI (96 * m' + k))), (7, .int z), (8, .int (nI t))] [] h := by
    intro n
    induction n with
    | zero =>
      intro t z ht hz
      refine bX3_isLike_89 _ _ _ _ _ _ h ?_
      rw [tv_nc (96 * m + i), n4]
      refine ⟨hin, pk_le x.2.2.2 t (fun _ => ?_) (fun q => absurd q (by omega))⟩
      rcases hz with ⟨rfl, c1, c2, c3, c4⟩ | ⟨rfl, c⟩
      · rw [if_pos ⟨c1, c2, c3, fun j hj => c4 j (by omega)⟩] at hK
        exact ⟨Or.inr rfl, hK⟩
      · rw [if_neg c] at hK
        exact ⟨Or.inl rfl, hK⟩
    | succ n ih =>
      intro t z ht hz
      refine bX3_isLike_89 _ _ _ _ _ _ h ?_
      rw [tv_nc (96 * m + i), n4]
      refine ⟨hin, pk_le x.2.2.2 t (fun q => absurd q (by omega)) (fun _ => ⟨fun q => ?_, fun q => ?_⟩)⟩
      · rcases hz with ⟨rfl, -⟩ | ⟨rfl, c⟩
        · exact absurd q (by decide)
        · rw [if_neg c] at hK
          exact ⟨Or.inl rfl, hK⟩
      · rcases hz with ⟨rfl, c1, c2, c3, c4⟩ | ⟨rfl, c⟩
        · refine ⟨hin, ?_⟩
          rw [n3, nI_add]
          refine md_keyAt hm (by omega) ?_
          rw [(e.2 _ (by omega)).1, tv_nc (96 * m' + k), n3', nI_add]
          refine ⟨hin', md_keyAt hm' (by omega) ?_⟩
          rw [(e'.2 _ (by omega)).1]
          have b1 := (hb.2 (x.2.2.1 + t) (by omega))
          have b2 := (hb'.2 (y.2.2.1 + t) (by omega))
          rw [nI_1]
          refine tv_ne (sp_k E (x.2.2.1 + t)) (sp_k E' (y.2.2.1 + t)) (fun r => ?_) (fun r => ?_)
          · exact ih (t + 1) 0 (by omega) (Or.inr ⟨rfl, fun c => r (c.2.2.2 t (by omega)).1⟩)
          · refine ⟨hin, ?_⟩
            rw [n3, nI_add]
            refine md_valueAt hm (by omega) ?_
            rw [(e.2 _ (by omega)).2]
            refine ⟨hin', ?_⟩
            rw [n3', nI_add]
            refine md_valueAt hm' (by omega) ?_
            rw [(e'.2 _ (by omega)).2]
            refine tv_ne (sp_v E (x.2.2.1 + t)) (sp_v E' (y.2.2.1 + t)) (fun r2 => ?_) (fun r2 => ?_)
            · exact ih (t + 1) 0 (by omega) (Or.inr ⟨rfl, fun c => r2 (c.2.2.2 t (by omega)).2⟩)
            · refine ih (t + 1) 1 (by omega) (Or.inl ⟨rfl, c1, c2, c3, fun j hj => ?_⟩)
              by_cases s : j = t
              · rw [s]; exact ⟨r, r2⟩
              · exact c4 j (by omega)
        · exact absurd rfl q
  refine nX3_isLike _ _ _ _ h ?_
  rw [tv_96, tv_96, tv_nc (96 * m + i), tv_nc (96 * m' + k), n1, n1', n4, n4', n2, n2']
  refine ⟨hin, hin', tv_ne x.1 y.1 (fun c => ?_) (fun c1 => ⟨hin, hin', tv_ne x.2.2.2 y.2.2.2 (fun c => ?_) (fun c2 => ⟨hin, tv_ne x.1 2 (fun c => ?_) (fun c3 => ⟨hin, hin', tv_ne x.2.1 y.2.1 (fun c => ?_) (fun c4 => ?_)⟩)⟩)⟩)⟩
  · exact H x.2.2.2 0 0 (by omega) (Or.inr ⟨rfl, fun q => c q.1⟩)
  · exact H x.2.2.2 0 0 (by omega) (Or.inr ⟨rfl, fun q => c q.2.1⟩)
  · exact H x.2.2.2 0 1 (by omega) (Or.inl ⟨rfl, c1, c2, fun q => absurd q c, fun j hj => absurd hj (by omega)⟩)
  · exact H x.2.2.2 0 0 (by omega) (Or.inr ⟨rfl, fun q => c (q.2.2.1 c3)⟩)
  · exact H x.2.2.2 0 1 (by omega) (Or.inl ⟨rfl, c1, c2, fun _ => c4, fun j hj => absurd hj (by omega)⟩)
def sp_oi (o : Option Nat) : Int32 := match o with
  | some k => nI k
  | none => -1
theorem md_likeIn {i : Nat} (hm : m < 22) (hm' : m' < 22) (e : md_E m E h) (hb : sp_eb E) (e' : md_E m' E' h) (hb' : sp_eb E') (hN : md_N m (sp_N f w E) h) (hc' : h.1 413 m' = nI (sp_N f w E').length) (hN' : md_N m' (sp_N f w E') h) (hi : i < (sp_N f w E).length) {K : Int32 → tv_AH → Prop} (hK : K (sp_oi (sp_fl E (sp_n (sp_N f w E) i) E' (sp_N f w E'))) h) : tv_CI ad (d + 3) yX3_likeIn [.ref (ad 400), .int (nI m), .int (nI i), .int (nI m')] h K := by
  have hN96' := sp_N_len (f := f) (w := w) hb'.1
  refine nX3_likeIn _ _ _ h ?_
  have H : ∀ n k, k + n = (sp_N f w E').length → (∀ j, j < k → ¬ sp_like E (sp_n (sp_N f w E) i) E' (sp_n (sp_N f w E') j)) → tv_Wp ad RX3 cX3_likeIn 5 (some .int) (d + 2) (tv_pI K) 3 [(0, .ref (ad 400)), (1, .int (nI m)), (2, .int (nI i)), (3, .int (nI m')), (4, .int (nI k))] [] h := by
    intro n
    induction n with
    | zero =>
      intro k hk hne
      refine bX3_likeIn_3 _ _ _ _ h ?_
      rw [tv_nc m', hc']
      refine ⟨pk_in m' 22 hm', pk_le (sp_N f w E').length k (fun _ => ?_) (fun q => absurd q (by omega))⟩
      have : sp_fl E (sp_n (sp_N f w E) i) E' (sp_N f w E') = none := sp_fst_none.mpr (fun j hj => decide_eq_false (hne j (by omega)))
      rw [this] at hK
      exact hK
    | succ n ih =>
      intro k hk hne
      refine bX3_likeIn_3 _ _ _ _ h ?_
      rw [tv_nc m', hc']
      refine ⟨pk_in m' 22 hm', pk_le (sp_N f w E').length k (fun q => absurd q (by omega)) (fun q => ?_)⟩
      refine md_isLike hm hm' e hb e' hb' hN hN' hi q ?_
      by_cases c : sp_like E (sp_n (sp_N f w E) i) E' (sp_n (sp_N f w E') k)
      · rw [if_pos c]
        refine ⟨fun z => absurd z (by decide), fun _ => ?_⟩
        have : sp_fl E (sp_n (sp_N f w E) i) E' (sp_N f w E') = some k := sp_fst_some.mpr ⟨q, decide_eq_true c, fun j hj => decide_eq_false (hne j hj)⟩
        rw [this] at hK
        exact hK
      · rw [if_neg c]
        refine ⟨fun _ => ?_, fun z => absurd rfl z⟩
        rw [nI_1]
        refine ih (k + 1) (by omega) (fun j hj => ?_)
        by_cases z : j = k
        · rw [z]; exact c
        · exact hne j (by omega)
  exact H (sp_N f w E').length 0 (by omega) (fun j hj => absurd hj (by omega))
/-- the numbers of a stretch of nodes, taken from another map into map m -/
theorem md_takeAll {i k wd : Nat} (hm : m < 22) (hm' : m' < 22) (n : m ≠ m') (hb : sp_eb E) (hc : h.1 413 m = nI (sp_N f w E).length) (hN : md_N m (sp_N f w E) h) (hi : i < (sp_N f w E).length) (hwd : sp_wd (sp_N f w E) i = wd) (hk : k + wd ≤ 96) (hz : ∀ t, t < wd → h.1 419 (96 * m' + k + t) = 0 ∨ h.1 419 (96 * m' + k + t) = 1) {K : Int32 → tv_AH → Prop} (hK : ∀ h', (∀ t, t < wd → h'.1 418 (96 * m + i + t) = h.1 418 (96 * m' + k + t) ∧ h'.1 419 (96 * m + i + t) = h.1 419 (96 * m' + k + t)) → tv_ag (fun q j => (q = 418 ∨ q = 419) ∧ 96 * m + i ≤ j ∧ j < 96 * m + i + wd) h h' → K (nI wd) h') : tv_CI ad (d + 2) yX3_takeAll [.ref (ad 400), .int (nI m), .int (nI i), .int (nI m'), .int (nI k)] h K := by
  have hN96 := sp_N_len (f := f) (w := w) hb.1
  refine nX3_takeAll _ _ _ _ h (md_widthOf hm hb hc hN hi ?_)
  rw [hwd]
  have hiw : i + wd ≤ (sp_N f w E).length := by rw [← hwd]; exact (sp_wd_len (Nat.le_refl 7) hi).2.1
  have H : ∀ c t (h1 : tv_AH), t + c = wd → (∀ j, j < t → h1.1 418 (96 * m + i + j) = h.1 418 (96 * m' + k + j) ∧ h1.1 419 (96 * m + i + j) = h.1 419 (96 * m' + k + j)) → tv_ag (fun q j => (q = 418 ∨ q = 419) ∧ 96 * m + i ≤ j ∧ j < 96 * m + i + wd) h h1 → tv_Wp ad RX3 cX3_takeAll 7 (some .int) (d + 1) (tv_pI K) 11 [(0, .ref (ad 400)), (1, .int (nI m)), (2, .int (nI i)), (3, .int (nI m')), (4, .int (nI k)), (5, .int (nI wd)), (6, .int (nI t))] [] h1 := by
    intro c
    induction c with
    | zero =>
      intro t h1 ht hj ag
      refine bX3_takeAll_11 _ _ _ _ _ _ h1 (pk_le wd t (fun _ => hK h1 (fun j q => hj j (by omega)) ag) (fun q => absurd q (by omega)))
    | succ c ih =>
      intro t h1 ht hj ag
      have tl : t < wd := by omega
      refine bX3_takeAll_11 _ _ _ _ _ _ h1 (pk_le wd t (fun q => absurd q (by omega)) (fun _ => ?_))
      rw [tv_96, tv_96, nI_add, nI_add, tv_nc (96 * m' + k + t), tv_nc (96 * m + i + t)]
      have hin : vp_in (nI (96 * m + i + t)) 2112 := pk_in (96 * m + i + t) 2112 (by omega)
      have hin' : vp_in (nI (96 * m' + k + t)) 2112 := pk_in (96 * m' + k + t) 2112 (by omega)
      refine ⟨hin', hin, fun h2 w2 => ⟨hin', hin, ?_⟩⟩
      have e2 : h2.1 419 (96 * m' + k + t) = h.1 419 (96 * m' + k + t) := by
        rw [w2, tv_wIc (by omega)]
        exact ag.2 _ _ (by omega)
      rw [e2]
      refine ⟨hz t tl, fun h3 w3 => ?_⟩
      rw [nI_1]
      refine ih (t + 1) h3 (by omega) (fun j hjt => ?_) ?_
      · rw [w3, tv_wIc (by omega), tv_wI1, w2, tv_wI1]
        by_cases z : j = t
        · subst z
          rw [if_pos ⟨rfl, rfl⟩, if_pos ⟨rfl, rfl⟩]
          exact ⟨ag.2 _ _ (by omega), rfl⟩
        · rw [if_neg (by omega), if_neg (by omega), tv_wIc (by omega)]
          exact hj j (by omega)
      · rw [w3, w2]
        exact (ag.wI ⟨Or.inl rfl, by omega, by omega⟩).wI ⟨Or.inr rfl, by omega, by omega⟩
  exact H wd 0 h (by omega) (fun j hj => absurd hj (by omega)) tv_ag.rf
theorem md_make {at_ md : Nat} (ha : at_ < 2112) (hmd : h.1 400 7 = nI md) {K : tv_AH → Prop} (hK : K (tv_wI (tv_wI h 418 at_ (nI md)) 400 7 (nI (md + 1)))) : tv_CV ad (d + 1) yX3_make [.ref (ad 400), .int (nI at_)] h K := by
  refine nX3_make _ h ?_
  rw [tv_nc at_]
  refine ⟨pk_in at_ 2112 ha, fun h1 w1 h2 w2 => ?_⟩
  have e : h1.1 400 7 = nI md := by rw [w1, tv_wIc (by omega)]; exact hmd
  rw [e, nI_1] at w2
  rw [w2, w1, hmd]
  exact hK
end MDD
