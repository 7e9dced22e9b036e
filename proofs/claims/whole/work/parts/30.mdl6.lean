/-! THE REFERENCE: copies of maps with their nodes -/
section MDE
variable {ad : Nat → Nat} {d : Nat} {h : tv_AH} {m m' f w own : Nat} {E : List (Nat × Nat)} {ids : List Nat}
theorem md_M.of {h' : tv_AH} {own' : Nat} (k : md_M m' f w E ids own h) (e : md_E m E h') (hc : h'.1 413 m = nI (sp_N f w E).length) (hn : ∀ i, i < (sp_N f w E).length → (∀ q, 414 ≤ q → q ≤ 418 → h'.1 q (96 * m + i) = h.1 q (96 * m' + i)) ∧ h'.1 419 (96 * m + i) = if own' ≤ sp_id ids i then 1 else 0) : md_M m f w E ids own' h' := by
  obtain ⟨k1, k2, k3, k4, k5, k6, k7⟩ := k
  refine ⟨e, k2, hc, fun i hi => ?_, k5, k6, fun i hi => ?_⟩
  · rw [(hn i hi).1 414 (by omega) (by omega), (hn i hi).1 415 (by omega) (by omega), (hn i hi).1 416 (by omega) (by omega), (hn i hi).1 417 (by omega) (by omega)]
    exact k4 i hi
  · rw [k5] at hi
    rw [(hn i hi).1 418 (by omega) (by omega)]
    exact ⟨(k7 i (by omega)).1, (hn i hi).2⟩
theorem md_M.ow {own' : Nat} (k : md_M m f w E ids own h) (a : ∀ i, i < ids.length → sp_id ids i < own) (b : ∀ i, i < ids.length → sp_id ids i < own') : md_M m f w E ids own' h := by
  obtain ⟨k1, k2, k3, k4, k5, k6, k7⟩ := k
  refine ⟨k1, k2, k3, k4, k5, k6, fun i hi => ?_⟩
  have h1 := k7 i hi
  rw [if_neg (by have := a i hi; omega)] at h1
  rw [if_neg (by have := b i hi; omega)]
  exact h1
theorem md_copyNode {i : Nat} (hm : m < 22) (hm' : m' < 22) (hi : i < 96) (hz : h.1 419 (96 * m' + i) = 0 ∨ h.1 419 (96 * m' + i) = 1) (n : m ≠ m') {K : tv_AH → Prop} (hK : ∀ h', (∀ q, 414 ≤ q → q ≤ 419 → h'.1 q (96 * m + i) = h.1 q (96 * m' + i)) → tv_ag (fun q j => 414 ≤ q ∧ q ≤ 419 ∧ j = 96 * m + i) h h' → K h') : tv_CV ad (d + 1) yX3_copyNode [.ref (ad 400), .int (nI m), .int (nI i), .int (nI m')] h K := by
  refine nX3_copyNode _ _ _ h ?_
  rw [tv_96, tv_96, tv_nc (96 * m' + i), tv_nc (96 * m + i)]
  have hin : vp_in (nI (96 * m + i)) 2112 := pk_in (96 * m + i) 2112 (by omega)
  have hin' : vp_in (nI (96 * m' + i)) 2112 := pk_in (96 * m' + i) 2112 (by omega)
  refine ⟨hin', hin, fun h1 w1 => ⟨hin', hin, fun h2 w2 => ⟨hin', hin, fun h3 w3 => ⟨hin', hin, fun h4 w4 => ⟨hin', hin, fun h5 w5 => ⟨hin', hin, ?_, fun h6 w6 => ?_⟩⟩⟩⟩⟩⟩
  · subst w1 w2 w3 w4 w5
    simp (disch := omega) only [tv_wIc]
    exact hz
  · have a1 : ∀ q, h1.1 q (96 * m' + i) = h.1 q (96 * m' + i) := fun q => by rw [w1, tv_wIc (by omega)]
    have a2 : ∀ q, h2.1 q (96 * m' + i) = h.1 q (96 * m' + i) := fun q => by rw [w2, tv_wIc (by omega)]; exact a1 q
    have a3 : ∀ q, h3.1 q (96 * m' + i) = h.1 q (96 * m' + i) := fun q => by rw [w3, tv_wIc (by omega)]; exact a2 q
    have a4 : ∀ q, h4.1 q (96 * m' + i) = h.1 q (96 * m' + i) := fun q => by rw [w4, tv_wIc (by omega)]; exact a3 q
    have a5 : ∀ q, h5.1 q (96 * m' + i) = h.1 q (96 * m' + i) := fun q => by rw [w5, tv_wIc (by omega)]; exact a4 q
    rw [a1] at w2
    rw [a2] at w3
    rw [a3] at w4
    rw [a4] at w5
    rw [a5] at w6
    refine hK h6 (fun q q1 q2 => ?_) ?_
    · subst w1 w2 w3 w4 w5 w6
      rcases (by omega : q = 414 ∨ q = 415 ∨ q = 416 ∨ q = 417 ∨ q = 418 ∨ q = 419) with rfl | rfl | rfl | rfl | rfl | rfl <;> simp (disch := omega) only [tv_wIc, tv_wIe]
    · subst w1 w2 w3 w4 w5 w6
      refine (((((tv_ag.rf.wI ?_).wI ?_).wI ?_).wI ?_).wI ?_).wI ?_ <;> omega
theorem md_z (k : md_M m f w E ids own h) {i : Nat} (hi : i < ids.length) : h.1 419 (96 * m + i) = 0 ∨ h.1 419 (96 * m + i) = 1 := by
  rw [(k.2.2.2.2.2.2 i hi).2]
  split
  · exact Or.inr rfl
  · exact Or.inl rfl
/-- where a map lies -/
def md_rM (m q i : Nat) : Prop := md_rE m q i ∨ md_rN m q i
theorem md_rM_ne {m m' q i : Nat} (n : m ≠ m') (a : md_rM m q i) : ¬ md_rM m' q i := by
  unfold md_rM md_rE md_rN at *
  omega
theorem md_M.ag {P : Nat → Nat → Prop} {h' : tv_AH} (k : md_M m f w E ids own h) (a : tv_ag P h h') (n : ∀ q i, md_rM m q i → ¬ P q i) : md_M m f w E ids own h' := k.cg (fun q i r => a.2 q i (n q i r))
theorem md_keepNew {v : Nat} (hv : v < 20) (hm' : m' < 22) (n : v ≠ m') (hvs : h.1 400 4 = nI v) (k : md_M m' f w E ids own h) {K : Int32 → tv_AH → Prop} (hK : ∀ h', md_M v f w E ids (2 ^ 30) h' → h'.1 400 4 = nI (v + 1) → tv_ag (fun q i => md_rM v q i ∨ (q = 400 ∧ i = 4)) h h' → K (nI v) h') : tv_CI ad (d + 3) yX3_keepNew [.ref (ad 400), .int (nI m')] h K := by
  have k0 := k
  obtain ⟨k1, k2, k3, k4, k5, k6, k7⟩ := k
  have hN96 := sp_N_len (f := f) (w := w) k2.1
  refine nX3_keepNew _ h ?_
  rw [hvs]
  refine md_copyTo (by omega) hm' (fun z => n z.symm) k1 k2 (fun h1 e1 a1 => ?_)
  have v1 : h1.1 400 4 = nI v := by rw [a1.2 _ _ (by unfold md_rE; omega)]; exact hvs
  rw [v1, tv_nc v, tv_nc m', a1.2 413 m' (by unfold md_rE; omega), k3]
  refine ⟨pk_in m' 22 hm', pk_in v 22 (by omega), fun h2 w2 => ?_⟩
  have H : ∀ c i (h3 : tv_AH), i + c = (sp_N f w E).length → md_E v E h3 → h3.1 413 v = nI (sp_N f w E).length → h3.1 400 4 = nI v → (∀ j, j < i → (∀ q, 414 ≤ q → q ≤ 418 → h3.1 q (96 * v + j) = h.1 q (96 * m' + j)) ∧ h3.1 419 (96 * v + j) = 0) → tv_ag (md_rM v) h h3 → tv_Wp ad RX3 cX3_keepNew 3 (some .int) (d + 2) (tv_pI K) 26 [(0, .ref (ad 400)), (1, .int (nI m')), (2, .int (nI i))] [] h3 := by
    intro c
    induction c with
    | zero =>
      intro i h3 hi e3 c3 v3 hj ag
      refine bX3_keepNew_26 _ _ h3 ?_
      rw [tv_nc m', ag.2 413 m' (by unfold md_rM md_rE md_rN; omega), k3, v3, nI_1]
      refine ⟨pk_in m' 22 hm', pk_le (sp_N f w E).length i (fun _ => fun h4 w4 => ?_) (fun q => absurd q (by omega))⟩
      have e4 : h4.1 400 4 = nI (v + 1) := by rw [w4, tv_wIe]
      have a4 : tv_ag (fun q i => q = 400 ∧ i = 4) h3 h4 := by rw [w4]; exact tv_ag.rf.wI ⟨rfl, rfl⟩
      rw [e4, show nI (v + 1) - 1 = nI v from nI_pred v]
      refine hK h4 ?_ e4 ((ag.mo (fun q i z => Or.inl z)).tr (a4.mo (fun q i z => Or.inr z)))
      refine (k0.of (own' := 2 ^ 30) e3 c3 (fun j hj2 => ⟨(hj j (by omega)).1, ?_⟩)).ag a4 (fun q i r => by unfold md_rM md_rE md_rN at r; omega)
      rw [(hj j (by omega)).2, if_neg (by have := k6 j (by omega); omega)]
    | succ c ih =>
      intro i h3 hi e3 c3 v3 hj ag
      refine bX3_keepNew_26 _ _ h3 ?_
      rw [tv_nc m', ag.2 413 m' (by unfold md_rM md_rE md_rN; omega), k3, v3]
      refine ⟨pk_in m' 22 hm', pk_le (sp_N f w E).length i (fun q => absurd q (by omega)) (fun q => ?_)⟩
      have kk3 := k0.ag ag (fun q i r => md_rM_ne (fun z => n z.symm) r)
      refine md_copyNode (by omega) hm' (by omega) (md_z kk3 (by omega)) n (fun h4 c4 a4 => ?_)
      have v4 : h4.1 400 4 = nI v := by rw [a4.2 _ _ (by omega)]; exact v3
      rw [v4, tv_96, tv_nc (96 * v + i)]
      refine ⟨pk_in (96 * v + i) 2112 (by omega), fun h5 w5 => ?_⟩
      rw [nI_1]
      have a5 : tv_ag (fun q j => 414 ≤ q ∧ q ≤ 419 ∧ j = 96 * v + i) h3 h5 := by rw [w5]; exact a4.wI ⟨by omega, by omega, rfl⟩
      refine ih (i + 1) h5 (by omega) ?_ ?_ ?_ (fun j hji => ?_) (ag.tr (a5.mo (fun q j z => by unfold md_rM md_rE md_rN; omega)))
      · exact e3.cg k2.1 (fun q j r => a5.2 q j (by unfold md_rE at r; omega))
      · rw [a5.2 _ _ (by omega)]; exact c3
      · rw [a5.2 _ _ (by omega)]; exact v3
      · by_cases z : j = i
        · subst z
          refine ⟨fun q q1 q2 => ?_, by rw [w5, tv_wIe]⟩
          rw [w5, tv_wIc (by omega), c4 q q1 (by omega)]
          exact ag.2 _ _ (by unfold md_rM md_rE md_rN; omega)
        · refine ⟨fun q q1 q2 => ?_, ?_⟩
          · rw [a5.2 _ _ (by omega)]; exact (hj j (by omega)).1 q q1 q2
          · rw [a5.2 _ _ (by omega)]; exact (hj j (by omega)).2
  have a2 : tv_ag (md_rM v) h h2 := by rw [w2]; exact (a1.mo (fun q i z => Or.inl z)).wI (Or.inr (Or.inl ⟨rfl, rfl⟩))
  refine H (sp_N f w E).length 0 h2 (by omega) ?_ ?_ ?_ (fun j hj => absurd hj (by omega)) a2
  · rw [w2]; exact e1.cg k2.1 (fun q i r => tv_wIc (by unfold md_rE at r; omega))
  · rw [w2, tv_wIe]
  · rw [w2, tv_wIc (by omega)]; exact v1
theorem md_takeNew (k : md_M 21 f w E ids own h) {K : tv_AH → Prop} (hK : ∀ h', md_M 20 f w E ids own h' → tv_ag (md_rM 20) h h' → K h') : tv_CV ad (d + 3) yX3_takeNew [.ref (ad 400)] h K := by
  have k0 := k
  obtain ⟨k1, k2, k3, k4, k5, k6, k7⟩ := k
  have hN96 := sp_N_len (f := f) (w := w) k2.1
  refine nX3_takeNew h (md_copyTo (m := 20) (m' := 21) (by omega) (by omega) (by omega) k1 k2 (fun h1 e1 a1 => ?_))
  rw [a1.2 413 21 (by unfold md_rE; omega), k3]
  refine ⟨pk_in 21 22 (by omega), pk_in 20 22 (by omega), fun h2 w2 => ?_⟩
  have H : ∀ c i (h3 : tv_AH), i + c = (sp_N f w E).length → md_E 20 E h3 → h3.1 413 20 = nI (sp_N f w E).length → (∀ j, j < i → (∀ q, 414 ≤ q → q ≤ 419 → h3.1 q (96 * 20 + j) = h.1 q (96 * 21 + j))) → tv_ag (md_rM 20) h h3 → tv_Wp ad RX3 cX3_takeNew 2 none (d + 2) (tv_pV K) 24 [(0, .ref (ad 400)), (1, .int (nI i))] [] h3 := by
    intro c
    induction c with
    | zero =>
      intro i h3 hi e3 c3 hj ag
      refine bX3_takeNew_24 _ h3 ?_
      rw [ag.2 413 21 (by unfold md_rM md_rE md_rN; omega), k3]
      refine ⟨pk_in 21 22 (by omega), pk_le (sp_N f w E).length i (fun _ => ?_) (fun q => absurd q (by omega))⟩
      refine hK h3 (k0.of (own' := own) e3 c3 (fun j hj2 => ⟨fun q q1 q2 => hj j (by omega) q q1 (by omega), ?_⟩)) ag
      rw [hj j (by omega) 419 (by omega) (by omega)]
      exact (k7 j (by omega)).2
    | succ c ih =>
      intro i h3 hi e3 c3 hj ag
      refine bX3_takeNew_24 _ h3 ?_
      rw [ag.2 413 21 (by unfold md_rM md_rE md_rN; omega), k3]
      refine ⟨pk_in 21 22 (by omega), pk_le (sp_N f w E).length i (fun q => absurd q (by omega)) (fun q => ?_)⟩
      have kk3 := k0.ag ag (fun q i r => md_rM_ne (by omega) r)
      refine md_copyNode (m := 20) (m' := 21) (by omega) (by omega) (by omega) (md_z kk3 (by omega)) (by omega) (fun h4 c4 a4 => ?_)
      rw [nI_1]
      refine ih (i + 1) h4 (by omega) ?_ ?_ (fun j hji => ?_) (ag.tr (a4.mo (fun q j z => by unfold md_rM md_rE md_rN; omega)))
      · exact e3.cg k2.1 (fun q j r => a4.2 q j (by unfold md_rE at r; omega))
      · rw [a4.2 _ _ (by omega)]; exact c3
      · intro u u1 u2
        by_cases z : j = i
        · subst z
          rw [c4 u u1 u2]
          exact ag.2 _ _ (by unfold md_rM md_rE md_rN; omega)
        · rw [a4.2 _ _ (by omega)]; exact hj j (by omega) u u1 u2
  have a2 : tv_ag (md_rM 20) h h2 := by rw [w2]; exact (a1.mo (fun q i z => Or.inl z)).wI (Or.inr (Or.inl ⟨rfl, rfl⟩))
  refine H (sp_N f w E).length 0 h2 (by omega) ?_ ?_ (fun j hj => absurd hj (by omega)) a2
  · rw [w2]; exact e1.cg k2.1 (fun q i r => tv_wIc (by unfold md_rE at r; omega))
  · rw [w2, tv_wIe]
theorem md_beginEdit {v own' : Nat} (hv : v < 20) (k : md_M v f w E ids own h) (ho : ∀ i, i < ids.length → sp_id ids i < own') {K : tv_AH → Prop} (hK : ∀ h', md_M 20 f w E ids own' h' → h'.1 400 6 = 0 → tv_ag (fun q i => md_rM 20 q i ∨ (q = 400 ∧ i = 6)) h h' → K h') : tv_CV ad (d + 3) yX3_beginEdit [.ref (ad 400), .int (nI v)] h K := by
  have k0 := k
  obtain ⟨k1, k2, k3, k4, k5, k6, k7⟩ := k
  have hN96 := sp_N_len (f := f) (w := w) k2.1
  refine nX3_beginEdit _ h (md_copyTo (m := 20) (m' := v) (by omega) (by omega) (by omega) k1 k2 (fun h1 e1 a1 => ?_))
  rw [tv_nc v, a1.2 413 v (by unfold md_rE; omega), k3]
  refine ⟨pk_in v 22 (by omega), pk_in 20 22 (by omega), fun h2 w2 => ?_⟩
  have H : ∀ c i (h3 : tv_AH), i + c = (sp_N f w E).length → md_E 20 E h3 → h3.1 413 20 = nI (sp_N f w E).length → (∀ j, j < i → (∀ q, 414 ≤ q → q ≤ 418 → h3.1 q (96 * 20 + j) = h.1 q (96 * v + j)) ∧ h3.1 419 (96 * 20 + j) = 0) → tv_ag (md_rM 20) h h3 → tv_Wp ad RX3 cX3_beginEdit 3 none (d + 2) (tv_pV K) 22 [(0, .ref (ad 400)), (1, .int (nI v)), (2, .int (nI i))] [] h3 := by
    intro c
    induction c with
    | zero =>
      intro i h3 hi e3 c3 hj ag
      refine bX3_beginEdit_22 _ _ h3 ?_
      rw [tv_nc v, ag.2 413 v (by unfold md_rM md_rE md_rN; omega), k3]
      refine ⟨pk_in v 22 (by omega), pk_le (sp_N f w E).length i (fun _ => fun h4 w4 => ?_) (fun q => absurd q (by omega))⟩
      have a4 : tv_ag (fun q i => q = 400 ∧ i = 6) h3 h4 := by rw [w4]; exact tv_ag.rf.wI ⟨rfl, rfl⟩
      refine hK h4 ?_ (by rw [w4, tv_wIe]) ((ag.mo (fun q i z => Or.inl z)).tr (a4.mo (fun q i z => Or.inr z)))
      refine (k0.of (own' := own') e3 c3 (fun j hj2 => ⟨(hj j (by omega)).1, ?_⟩)).ag a4 (fun q i r => by unfold md_rM md_rE md_rN at r; omega)
      rw [(hj j (by omega)).2, if_neg (by have := ho j (by omega); omega)]
    | succ c ih =>
      intro i h3 hi e3 c3 hj ag
      refine bX3_beginEdit_22 _ _ h3 ?_
      rw [tv_nc v, ag.2 413 v (by unfold md_rM md_rE md_rN; omega), k3]
      refine ⟨pk_in v 22 (by omega), pk_le (sp_N f w E).length i (fun q => absurd q (by omega)) (fun q => ?_)⟩
      have kk3 := k0.ag ag (fun q i r => md_rM_ne (by omega) r)
      refine md_copyNode (m := 20) (m' := v) (by omega) (by omega) (by omega) (md_z kk3 (by omega)) (by omega) (fun h4 c4 a4 => ?_)
      rw [show (1920 : Int32) + nI i = nI (96 * 20 + i) from by rw [show (1920 : Int32) = nI 1920 from rfl, nI_add], tv_nc (96 * 20 + i)]
      refine ⟨pk_in (96 * 20 + i) 2112 (by omega), fun h5 w5 => ?_⟩
      rw [nI_1]
      have a5 : tv_ag (fun q j => 414 ≤ q ∧ q ≤ 419 ∧ j = 96 * 20 + i) h3 h5 := by rw [w5]; exact a4.wI ⟨by omega, by omega, rfl⟩
      refine ih (i + 1) h5 (by omega) ?_ ?_ (fun j hji => ?_) (ag.tr (a5.mo (fun q j z => by unfold md_rM md_rE md_rN; omega)))
      · exact e3.cg k2.1 (fun q j r => a5.2 q j (by unfold md_rE at r; omega))
      · rw [a5.2 _ _ (by omega)]; exact c3
      · by_cases z : j = i
        · subst z
          refine ⟨fun q q1 q2 => ?_, by rw [w5, tv_wIe]⟩
          rw [w5, tv_wIc (by omega), c4 q q1 (by omega)]
          exact ag.2 _ _ (by unfold md_rM md_rE md_rN; omega)
        · refine ⟨fun q q1 q2 => ?_, ?_⟩
          · rw [a5.2 _ _ (by omega)]; exact (hj j (by omega)).1 q q1 q2
          · rw [a5.2 _ _ (by omega)]; exact (hj j (by omega)).2
  have a2 : tv_ag (md_rM 20) h h2 := by rw [w2]; exact (a1.mo (fun q i z => Or.inl z)).wI (Or.inr (Or.inl ⟨rfl, rfl⟩))
  refine H (sp_N f w E).length 0 h2 (by omega) ?_ ?_ (fun j hj => absurd hj (by omega)) a2
  · rw [w2]; exact e1.cg k2.1 (fun q i r => tv_wIc (by unfold md_rE at r; omega))
  · rw [w2, tv_wIe]
end MDE
