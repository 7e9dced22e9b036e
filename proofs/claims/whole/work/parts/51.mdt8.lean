/-! THE REFERENCE: read -/
theorem sp_go_md {L : Nat} {wd : Nat → Nat} {F : Nat → Option (List Nat)} {G : Nat → Nat → Nat × Nat} (hG : ∀ i md, md ≤ (G i md).2 ∧ (G i md).2 ≤ md + 1) : ∀ n i md, md ≤ (sp_go L wd F G n i md).2 ∧ (sp_go L wd F G n i md).2 ≤ md + (L - i)
  | 0, i, md => ⟨Nat.le_refl _, Nat.le_add_right _ _⟩
  | n + 1, i, md => by
    unfold sp_go
    by_cases h : i < L
    · rw [if_pos h]
      cases F i with
      | some l =>
        have := sp_go_md (L := L) (wd := wd) (F := F) hG n (i + wd i) md
        simp only
        omega
      | none =>
        have := sp_go_md (L := L) (wd := wd) (F := F) hG n (i + 1) (G i md).2
        have := hG i md
        simp only
        omega
    · rw [if_neg h]
      exact ⟨Nat.le_refl _, Nat.le_add_right _ _⟩
theorem sp_edn_md {f w own md : Nat} {E' E : List (Nat × Nat)} {ids : List Nat} (hE : E'.length ≤ 24) : md ≤ (sp_edn f w E' E ids own md).2 ∧ (sp_edn f w E' E ids own md).2 ≤ md + 96 := by
  have := sp_N_len (f := f) (w := w) hE
  unfold sp_edn
  have h := sp_go_md (L := (sp_N f w E').length) (wd := sp_wd (sp_N f w E')) (F := fun i => sp_tk f w E' i (E, ids)) (G := fun i md => match sp_fs f w E' (sp_n (sp_N f w E') i) E ids own with
    | some k => (sp_id ids k, md)
    | none => (md, md + 1)) (fun i md => by cases sp_fs f w E' (sp_n (sp_N f w E') i) E ids own <;> simp) ((sp_N f w E').length + 1) 0 md
  exact ⟨h.1, Nat.le_trans h.2 (by omega)⟩
theorem sp_new_md {f w md : Nat} {E' : List (Nat × Nat)} {one : sp_V} {two : Option sp_V} (hE : E'.length ≤ 24) : md ≤ (sp_new f w E' one two md).2 ∧ (sp_new f w E' one two md).2 ≤ md + 96 := by
  have := sp_N_len (f := f) (w := w) hE
  unfold sp_new
  have h := sp_go_md (L := (sp_N f w E').length) (wd := sp_wd (sp_N f w E')) (F := fun i => sp_tk2 f w E' i one two) (G := fun _ md => (md, md + 1)) (fun i md => ⟨by simp, by simp⟩) ((sp_N f w E').length + 1) 0 md
  omega
section MEB
variable {ad : Nat → Nat} {d c : Nat} {h : tv_AH} {S : sp_S}
/-- the entries that were read -/
def md_L (L : List (Nat × Nat)) (h : tv_AH) : Prop := h.1 400 24 = nI L.length ∧ ∀ i, i < L.length → h.1 425 i = nI (sp_k L i) ∧ h.1 426 i = nI (sp_v L i)
theorem md_L.ag {L : List (Nat × Nat)} {P : Nat → Nat → Prop} {h' : tv_AH} (k : md_L L h) (a : tv_ag P h h') (n1 : ¬ P 400 24) (n2 : ∀ i, ¬ P 425 i) (n3 : ∀ i, ¬ P 426 i) : md_L L h' := ⟨by rw [a.2 _ _ n1]; exact k.1, fun i hi => by rw [a.2 _ _ (n2 i), a.2 _ _ (n3 i)]; exact k.2 i hi⟩
theorem vp_nz {x : Int32} (h : x = 0 ∨ x = 1) : vp_nar .boolean x = x := by rcases h with rfl | rfl <;> rfl
theorem sp_sets_len (f w own : Nat) : ∀ (L : List (Nat × Nat)) (V : sp_V) (md : Nat), True := fun _ _ _ => trivial
/-- the whole of readNow: the edit is as it was, a version more -/
theorem md_readNow {L E0 : List (Nat × Nat)} (hok : sp_sc (ss_f S) (ss_w S) ∧ 1 ≤ (ss_vs S).length ∧ (ss_vs S).length < 20 ∧ ss_v S 0 = ([], []) ∧ ss_md S + 1440 ≤ 2 ^ 30) (s : md_sc (ss_f S) (ss_w S) h) (hvs : h.1 400 4 = nI (ss_vs S).length) (hv : ∀ v, v < (ss_vs S).length → md_M v (ss_f S) (ss_w S) (ss_v S v).1 (ss_v S v).2 (2 ^ 30) h) (hmd : h.1 400 7 = nI (ss_md S)) (hL : md_L L h) (hLl : L.length ≤ 15) (hLb : ∀ e ∈ L, e.1 < 4096 ∧ e.2 < 1000) (e0 : md_E 20 E0 h) (b0 : sp_eb E0) {K : Int32 → tv_AH → Prop}
    (hK : ∀ h', (∀ v, v < (ss_vs S).length → md_M v (ss_f S) (ss_w S) (ss_v S v).1 (ss_v S v).2 (2 ^ 30) h') → md_M (ss_vs S).length (ss_f S) (ss_w S) (sp_sets (ss_f S) (ss_w S) (ss_md S) L ([], []) (ss_md S)).1.1 (sp_sets (ss_f S) (ss_w S) (ss_md S) L ([], []) (ss_md S)).1.2 (2 ^ 30) h' → h'.1 400 4 = nI ((ss_vs S).length + 1) → h'.1 400 7 = nI (sp_sets (ss_f S) (ss_w S) (ss_md S) L ([], []) (ss_md S)).2 → h'.1 400 6 = h.1 400 6 → md_E 20 E0 h' → (∀ (own : Nat) (V : sp_V), md_M 20 (ss_f S) (ss_w S) V.1 V.2 own h → V.1 = E0 → md_M 20 (ss_f S) (ss_w S) V.1 V.2 own h') → tv_ag (fun q i => (q = 400 ∧ (i = 4 ∨ i = 6 ∨ i = 7 ∨ i = 23)) ∨ (410 ≤ q ∧ q ≤ 422) ∨ (429 ≤ q ∧ q ≤ 432)) h h' → K (nI (ss_vs S).length) h') :
    tv_CI ad (d + 8) yX3_readNow [.ref (ad 400)] h K := by
  obtain ⟨o1, o2, o3, o4, o5⟩ := hok
  have h24 := b0.1
  let Pz := fun (q i : Nat) => (q = 400 ∧ (i = 4 ∨ i = 6 ∨ i = 7 ∨ i = 23)) ∨ (410 ≤ q ∧ q ≤ 422) ∨ (429 ≤ q ∧ q ≤ 432)
  -- what is put aside
  let As := fun (h' : tv_AH) => (∀ i, i < 24 → h'.1 429 i = h.1 411 (480 + i) ∧ h'.1 430 i = h.1 412 (480 + i)) ∧ (∀ i, i < 96 → h'.1 431 i = h.1 418 (1920 + i) ∧ h'.1 432 i = vp_nar .boolean (h.1 419 (1920 + i)))
  refine nX3_readNowN h ⟨pk_in 20 22 (by omega), pk_in 20 22 (by omega), ?_⟩
  generalize hx2 : h.1 413 20 = x2
  generalize hx3 : h.1 400 6 = x3 at hK ⊢
  rw [e0.1]
  -- last loop: numbers and flags come back
  have L5 : ∀ t i (h1 : tv_AH), i + t = 96 → As h1 → (∀ j, j < i → h1.1 418 (1920 + j) = h.1 418 (1920 + j) ∧ h1.1 419 (1920 + j) = vp_nar .boolean (vp_nar .boolean (h.1 419 (1920 + j)))) → (∀ v, v < (ss_vs S).length → md_M v (ss_f S) (ss_w S) (ss_v S v).1 (ss_v S v).2 (2 ^ 30) h1) → md_M (ss_vs S).length (ss_f S) (ss_w S) (sp_sets (ss_f S) (ss_w S) (ss_md S) L ([], []) (ss_md S)).1.1 (sp_sets (ss_f S) (ss_w S) (ss_md S) L ([], []) (ss_md S)).1.2 (2 ^ 30) h1 → h1.1 400 4 = nI ((ss_vs S).length + 1) → h1.1 400 7 = nI (sp_sets (ss_f S) (ss_w S) (ss_md S) L ([], []) (ss_md S)).2 → md_E 20 E0 h1 → md_N 20 (sp_N (ss_f S) (ss_w S) E0) h1 → h1.1 413 20 = x2 → tv_ag Pz h h1 → tv_Wp ad RX3 cX3_readNow 6 (some .int) (d + 7) (tv_pI K) 245 [(0, .ref (ad 400)), (3, .int x3), (4, .int (nI (ss_vs S).length)), (5, .int (nI i))] [] h1 := by
    intro t
    induction t with
    | zero =>
      intro i h1 hi as1 dn vs1 new1 v1 md1 e1 n1 c1 a1
      have : i = 96 := by omega
      subst this
      refine bX3_readNowN_245 _ _ _ h1 (pk_le 96 96 (fun _ => fun h2 w2 => ?_) (fun q => absurd q (by omega)))
      have a2 : tv_ag (fun q i => q = 400 ∧ i = 6) h1 h2 := by rw [w2]; exact tv_ag.rf.wI ⟨rfl, rfl⟩
      have nm : ∀ v q i, md_rM v q i → ¬ (q = 400 ∧ i = 6) := fun v q i y => by unfold md_rM md_rE md_rN at y; omega
      refine hK h2 (fun v hv2 => (vs1 v hv2).ag a2 (nm v)) (new1.ag a2 (nm _)) (by rw [a2.2 _ _ (by omega)]; exact v1) (by rw [a2.2 _ _ (by omega)]; exact md1) (by rw [w2, tv_wIe]) (e1.cg b0.1 (fun q i y => a2.2 q i (by unfold md_rE at y; omega))) (fun own V k ev => ?_) (a1.tr (a2.mo (fun q i z => Or.inl ⟨z.1, by omega⟩)))
      subst ev
      obtain ⟨k1, k2, k3, k4, k5, k6, k7⟩ := k
      have hN96 := sp_N_len (f := ss_f S) (w := ss_w S) k2.1
      refine md_M.ag (h := h1) (own := own) ⟨e1, k2, ?_, n1, k5, k6, fun i hi => ?_⟩ a2 (nm 20)
      · rw [c1, ← hx2]; exact k3
      · have := dn i (by omega)
        have k7i := k7 i hi
        rw [show 96 * 20 + i = 1920 + i by omega] at k7i ⊢
        rw [this.1, this.2, k7i.1, k7i.2]
        refine ⟨rfl, ?_⟩
        have hz : (if own ≤ sp_id V.2 i then (1 : Int32) else 0) = 0 ∨ (if own ≤ sp_id V.2 i then (1 : Int32) else 0) = 1 := by split <;> simp
        rw [vp_nz hz, vp_nz hz]
    | succ t ih =>
      intro i h1 hi as1 dn vs1 new1 v1 md1 e1 n1 c1 a1
      refine bX3_readNowN_245 _ _ _ h1 (pk_le 96 i (fun q => absurd q (by omega)) (fun q => ?_))
      rw [tv_1920, tv_nc i, tv_nc (1920 + i), nI_1]
      have hin : vp_in (nI (1920 + i)) 2112 := pk_in (1920 + i) 2112 (by omega)
      refine ⟨pk_in i 96 (by omega), hin, fun h2 w2 => ⟨pk_in i 96 (by omega), hin, fun h3 w3 => ?_⟩⟩
      have as2 : h2.1 432 i = h1.1 432 i := by rw [w2, tv_wIc (by omega)]
      rw [as2, (as1.2 i (by omega)).2] at w3
      rw [(as1.2 i (by omega)).1] at w2
      have a3 : tv_ag (fun q j => (q = 418 ∨ q = 419) ∧ j = 1920 + i) h1 h3 := by rw [w3, w2]; exact (tv_ag.rf.wI ⟨Or.inl rfl, rfl⟩).wI ⟨Or.inr rfl, rfl⟩
      have nm : ∀ v, v < 20 → ∀ q j, md_rM v q j → ¬ ((q = 418 ∨ q = 419) ∧ j = 1920 + i) := fun v hv2 q j y => by unfold md_rM md_rE md_rN at y; omega
      refine ih (i + 1) h3 (by omega) ⟨fun j hj => ?_, fun j hj => ?_⟩ (fun j hj => ?_) (fun v hv2 => (vs1 v hv2).ag a3 (nm v (by omega))) (new1.ag a3 (nm _ o3)) (by rw [a3.2 _ _ (by omega)]; exact v1) (by rw [a3.2 _ _ (by omega)]; exact md1) (e1.cg b0.1 (fun q j y => a3.2 q j (by unfold md_rE at y; omega))) (fun j hj => ?_) (by rw [a3.2 _ _ (by omega)]; exact c1) (a1.tr (a3.mo (fun q j z => Or.inr (Or.inl (by omega)))))
      · rw [a3.2 _ _ (by omega), a3.2 _ _ (by omega)]; exact as1.1 j hj
      · rw [a3.2 _ _ (by omega), a3.2 _ _ (by omega)]; exact as1.2 j hj
      · by_cases z : j = i
        · subst z
          rw [w3, tv_wIc (by omega), w2, tv_wIe, tv_wIe]
          exact ⟨rfl, rfl⟩
        · rw [a3.2 _ _ (by omega), a3.2 _ _ (by omega)]; exact dn j (by omega)
      · rw [a3.2 _ _ (by omega), a3.2 _ _ (by omega), a3.2 _ _ (by omega), a3.2 _ _ (by omega)]; exact n1 j hj
  -- the entries come back, and the nodes are laid anew
  have L4 : ∀ t i (h1 : tv_AH), i + t = 24 → As h1 → (∀ j, j < i → h1.1 411 (480 + j) = h.1 411 (480 + j) ∧ h1.1 412 (480 + j) = h.1 412 (480 + j)) → (∀ v, v < (ss_vs S).length → md_M v (ss_f S) (ss_w S) (ss_v S v).1 (ss_v S v).2 (2 ^ 30) h1) → md_M (ss_vs S).length (ss_f S) (ss_w S) (sp_sets (ss_f S) (ss_w S) (ss_md S) L ([], []) (ss_md S)).1.1 (sp_sets (ss_f S) (ss_w S) (ss_md S) L ([], []) (ss_md S)).1.2 (2 ^ 30) h1 → h1.1 400 4 = nI ((ss_vs S).length + 1) → h1.1 400 7 = nI (sp_sets (ss_f S) (ss_w S) (ss_md S) L ([], []) (ss_md S)).2 → md_sc (ss_f S) (ss_w S) h1 → h1.1 410 20 = nI E0.length → tv_ag Pz h h1 → tv_Wp ad RX3 cX3_readNow 6 (some .int) (d + 7) (tv_pI K) 179 [(0, .ref (ad 400)), (2, .int x2), (3, .int x3), (4, .int (nI (ss_vs S).length)), (5, .int (nI i))] [] h1 := by
    intro t
    induction t with
    | zero =>
      intro i h1 hi as1 dn vs1 new1 v1 md1 s1 z1 a1
      have : i = 24 := by omega
      subst this
      have e1 : md_E 20 E0 h1 := ⟨z1, fun j hj => by
        have := dn j (by omega)
        rw [show 24 * 20 + j = 480 + j by omega, this.1, this.2]
        exact e0.2 j hj⟩
      refine bX3_readNowN_179 _ _ _ _ h1 (pk_le 24 24 (fun _ => ?_) (fun q => absurd q (by omega)))
      refine md_layNodes (m := 20) (by omega) s1 e1 b0 (fun h2 c2 n2 f2 a2 => ⟨pk_in 20 22 (by omega), fun h3 w3 => ?_⟩)
      have a3 : tv_ag (fun q j => md_rN 20 q j ∨ md_rP q j) h1 h3 := by rw [w3]; exact a2.wI (Or.inl (Or.inl ⟨rfl, rfl⟩))
      have nm : ∀ v, v < 20 → ∀ q j, md_rM v q j → ¬ (md_rN 20 q j ∨ md_rP q j) := fun v hv2 q j y => by unfold md_rM md_rE md_rN at y; unfold md_rN md_rP; omega
      refine L5 96 0 h3 (by omega) ⟨fun j hj => ?_, fun j hj => ?_⟩ (fun j hj => absurd hj (by omega)) (fun v hv2 => (vs1 v hv2).ag a3 (nm v (by omega))) (new1.ag a3 (nm _ o3)) (by rw [a3.2 _ _ (by unfold md_rN md_rP; omega)]; exact v1) (by rw [a3.2 _ _ (by unfold md_rN md_rP; omega)]; exact md1) (e1.cg b0.1 (fun q j y => a3.2 q j (by unfold md_rE at y; unfold md_rN md_rP; omega))) (fun j hj => ?_) (by rw [w3, tv_wIe]) (a1.tr (a3.mo (fun q j z => by unfold md_rN md_rP at z; simp only [Pz]; omega)))
      · rw [a3.2 _ _ (by unfold md_rN md_rP; omega), a3.2 _ _ (by unfold md_rN md_rP; omega)]; exact as1.1 j hj
      · rw [a3.2 _ _ (by unfold md_rN md_rP; omega), a3.2 _ _ (by unfold md_rN md_rP; omega)]; exact as1.2 j hj
      · rw [w3, tv_wIc (by omega), tv_wIc (by omega), tv_wIc (by omega), tv_wIc (by omega)]; exact n2 j hj
    | succ t ih =>
      intro i h1 hi as1 dn vs1 new1 v1 md1 s1 z1 a1
      refine bX3_readNowN_179 _ _ _ _ h1 (pk_le 24 i (fun q => absurd q (by omega)) (fun q => ?_))
      rw [show (480 : Int32) + nI i = nI (480 + i) from by rw [show (480 : Int32) = nI 480 from rfl, nI_add], tv_nc i, tv_nc (480 + i), nI_1]
      have hin : vp_in (nI (480 + i)) 528 := pk_in (480 + i) 528 (by omega)
      refine ⟨pk_in i 24 (by omega), hin, fun h2 w2 => ⟨pk_in i 24 (by omega), hin, fun h3 w3 => ?_⟩⟩
      have as2 : h2.1 430 i = h1.1 430 i := by rw [w2, tv_wIc (by omega)]
      rw [as2, (as1.1 i (by omega)).2] at w3
      rw [(as1.1 i (by omega)).1] at w2
      have a3 : tv_ag (fun q j => (q = 411 ∨ q = 412) ∧ j = 480 + i) h1 h3 := by rw [w3, w2]; exact (tv_ag.rf.wI ⟨Or.inl rfl, rfl⟩).wI ⟨Or.inr rfl, rfl⟩
      have nm : ∀ v, v < 20 → ∀ q j, md_rM v q j → ¬ ((q = 411 ∨ q = 412) ∧ j = 480 + i) := fun v hv2 q j y => by unfold md_rM md_rE md_rN at y; omega
      refine ih (i + 1) h3 (by omega) ⟨fun j hj => ?_, fun j hj => ?_⟩ (fun j hj => ?_) (fun v hv2 => (vs1 v hv2).ag a3 (nm v (by omega))) (new1.ag a3 (nm _ o3)) (by rw [a3.2 _ _ (by omega)]; exact v1) (by rw [a3.2 _ _ (by omega)]; exact md1) (s1.ag a3 (by omega) (by omega)) (by rw [a3.2 _ _ (by omega)]; exact z1) (a1.tr (a3.mo (fun q j z => Or.inr (Or.inl (by omega)))))
      · rw [a3.2 _ _ (by omega), a3.2 _ _ (by omega)]; exact as1.1 j hj
      · rw [a3.2 _ _ (by omega), a3.2 _ _ (by omega)]; exact as1.2 j hj
      · by_cases z : j = i
        · subst z
          rw [w3, tv_wIc (by omega), w2, tv_wIe, tv_wIe]
          exact ⟨rfl, rfl⟩
        · rw [a3.2 _ _ (by omega), a3.2 _ _ (by omega)]; exact dn j (by omega)
  -- the entries are set one after another
  have L3 : ∀ t k (V : sp_V) (md : Nat) (h1 : tv_AH), k + t = L.length → sp_sets (ss_f S) (ss_w S) (ss_md S) (L.drop k) V md = sp_sets (ss_f S) (ss_w S) (ss_md S) L ([], []) (ss_md S) → V.1.length ≤ k → ss_md S ≤ md → md ≤ ss_md S + 96 * k → md_M 20 (ss_f S) (ss_w S) V.1 V.2 (ss_md S) h1 → (∃ mi, h1.1 400 6 = nI mi) → h1.1 400 7 = nI md → As h1 → (∀ v, v < (ss_vs S).length → md_M v (ss_f S) (ss_w S) (ss_v S v).1 (ss_v S v).2 (2 ^ 30) h1) → h1.1 400 4 = nI (ss_vs S).length → md_sc (ss_f S) (ss_w S) h1 → tv_ag Pz h h1 → tv_Wp ad RX3 cX3_readNow 6 (some .int) (d + 7) (tv_pI K) 127 [(0, .ref (ad 400)), (1, .int (nI E0.length)), (2, .int x2), (3, .int x3), (4, .int (nI k))] [] h1 := by
    intro t
    induction t with
    | zero =>
      intro k V md h1 hk hs hVl hm1 hm2 m1 hmi md1 as1 vs1 v1 s1 a1
      have hL1 := hL.ag a1 (by simp only [Pz]; omega) (fun i => by simp only [Pz]; omega) (fun i => by simp only [Pz]; omega)
      refine bX3_readNowN_127 _ _ _ _ h1 ?_
      rw [hL1.1]
      refine pk_le L.length k (fun _ => ?_) (fun q => absurd q (by omega))
      have hd : L.drop k = [] := List.drop_eq_nil_of_le (by omega)
      rw [hd] at hs
      have hs2 : sp_sets (ss_f S) (ss_w S) (ss_md S) L ([], []) (ss_md S) = (V, md) := hs.symm
      refine md_keepNew (m' := 20) (v := (ss_vs S).length) o3 (by omega) (by omega) v1 m1 (fun h2 m2 v2 a2 => ⟨pk_in 20 22 (by omega), fun h3 w3 => ?_⟩)
      have a3 : tv_ag (fun q i => md_rM (ss_vs S).length q i ∨ (q = 400 ∧ i = 4) ∨ (q = 410 ∧ i = 20)) h1 h3 := by
        rw [w3]
        exact (a2.mo (fun q i z => by rcases z with z | z; exact Or.inl z; exact Or.inr (Or.inl z))).wI (Or.inr (Or.inr ⟨rfl, rfl⟩))
      refine L4 24 0 h3 (by omega) ⟨fun j hj => ?_, fun j hj => ?_⟩ (fun j hj => absurd hj (by omega)) (fun v hv2 => (vs1 v hv2).ag a3 (fun q i y => by unfold md_rM md_rE md_rN at y; unfold md_rM md_rE md_rN; omega)) ?_ ?_ ?_ (s1.ag a3 (by unfold md_rM md_rE md_rN; omega) (by unfold md_rM md_rE md_rN; omega)) (by rw [w3, tv_wIe]) (a1.tr (a3.mo (fun q i z => by unfold md_rM md_rE md_rN at z; simp only [Pz]; omega)))
      · rw [a3.2 _ _ (by unfold md_rM md_rE md_rN; omega), a3.2 _ _ (by unfold md_rM md_rE md_rN; omega)]; exact as1.1 j hj
      · rw [a3.2 _ _ (by unfold md_rM md_rE md_rN; omega), a3.2 _ _ (by unfold md_rM md_rE md_rN; omega)]; exact as1.2 j hj
      · rw [hs2, w3]
        exact m2.cg (fun q i y => tv_wIc (by unfold md_rE md_rN at y; omega))
      · rw [w3, tv_wIc (by omega)]; exact v2
      · rw [hs2, a3.2 _ _ (by unfold md_rM md_rE md_rN; omega)]; exact md1
    | succ t ih =>
      intro k V md h1 hk hs hVl hm1 hm2 m1 hmi md1 as1 vs1 v1 s1 a1
      have hkl : k < L.length := by omega
      have hL1 := hL.ag a1 (by simp only [Pz]; omega) (fun i => by simp only [Pz]; omega) (fun i => by simp only [Pz]; omega)
      obtain ⟨mi, hmi⟩ := hmi
      refine bX3_readNowN_127 _ _ _ _ h1 ?_
      rw [hL1.1, tv_nc k, (hL1.2 k hkl).1, (hL1.2 k hkl).2, nI_1]
      have hLk := hLb L[k] (List.getElem_mem hkl)
      rw [sp_kg hkl] at hLk
      simp only at hLk
      refine pk_le L.length k (fun q => absurd q (by omega)) (fun q => ⟨pk_in k 24 (by omega), pk_in k 24 (by omega), nX3_setNow _ _ h1 ?_⟩)
      refine md_copyTo (m := 21) (m' := 20) (by omega) (by omega) (by omega) m1.1 m1.2.1 (fun h4 e4 a4 => ?_)
      have hr : sp_fi V.1 (sp_k L k) = none → V.1.length < 24 := fun _ => by omega
      refine md_give (m := 21) (by omega) (s1.ag a4 md_rE_400 md_rE_400) e4 m1.2.1 hLk.1 hLk.2 hr (fun h5 e5 a5 => ?_)
      have a45 := a4.tr a5
      have bE := sp_eb_give (o := sp_ord (ss_f S) (ss_w S)) m1.2.1 hLk.1 hLk.2 hr
      refine md_tellEdit (md := md) (mi := mi) (s1.ag a45 md_rE_400 md_rE_400) e5 bE (m1.ag a45 (fun q i y => by unfold md_rM md_rE md_rN at y; unfold md_rE; omega)) (by rw [a45.2 _ _ md_rE_400]; exact md1) (by rw [a45.2 _ _ md_rE_400]; exact hmi) (by omega) hm1 (fun h6 m6 d6 l6 i6 a6 => ?_)
      have a16 : tv_ag (fun q i => md_rM 20 q i ∨ md_rM 21 q i ∨ md_rP q i ∨ (q = 400 ∧ (i = 7 ∨ i = 6))) h1 h6 := (a45.mo (fun q i z => Or.inr (Or.inl (Or.inl z)))).tr (a6.mo (fun q i z => by
        rcases z with z | z | z | z
        · exact Or.inl z
        · exact Or.inr (Or.inl (Or.inr z))
        · exact Or.inr (Or.inr (Or.inl z))
        · exact Or.inr (Or.inr (Or.inr z))))
      have hb := sp_edn_md (f := ss_f S) (w := ss_w S) (own := ss_md S) (md := md) (E := V.1) (ids := V.2) bE.1
      have hgl : (sp_give (sp_ord (ss_f S) (ss_w S)) V.1 (sp_k L k) (sp_v L k)).length ≤ V.1.length + 1 := by
        unfold sp_give
        split
        · simp only [List.length_set]; omega
        · rw [sp_ins_len (sp_pos_le _ _ _ _)]; omega
      refine ih (k + 1) (sp_give (sp_ord (ss_f S) (ss_w S)) V.1 (sp_k L k) (sp_v L k), (sp_edn (ss_f S) (ss_w S) (sp_give (sp_ord (ss_f S) (ss_w S)) V.1 (sp_k L k) (sp_v L k)) V.1 V.2 (ss_md S) md).1) (sp_edn (ss_f S) (ss_w S) (sp_give (sp_ord (ss_f S) (ss_w S)) V.1 (sp_k L k) (sp_v L k)) V.1 V.2 (ss_md S) md).2 h6 (by omega) ?_ (by simp only; omega) (by omega) (by omega) m6 ⟨_, i6⟩ d6 ⟨fun j hj => ?_, fun j hj => ?_⟩ (fun v hv2 => (vs1 v hv2).ag a16 (fun q i y => by unfold md_rM md_rE md_rN at y; unfold md_rM md_rE md_rN md_rP; omega)) (by rw [a16.2 _ _ (by unfold md_rM md_rE md_rN md_rP; omega)]; exact v1) (s1.ag a16 (by unfold md_rM md_rE md_rN md_rP; omega) (by unfold md_rM md_rE md_rN md_rP; omega)) (a1.tr (a16.mo (fun q i z => by unfold md_rM md_rE md_rN md_rP at z; simp only [Pz]; omega)))
      · rw [← hs, List.drop_eq_getElem_cons hkl, sp_kg hkl]
        rfl
      · rw [a16.2 _ _ (by unfold md_rM md_rE md_rN md_rP; omega), a16.2 _ _ (by unfold md_rM md_rE md_rN md_rP; omega)]; exact as1.1 j hj
      · rw [a16.2 _ _ (by unfold md_rM md_rE md_rN md_rP; omega), a16.2 _ _ (by unfold md_rM md_rE md_rN md_rP; omega)]; exact as1.2 j hj
  -- numbers and flags are put aside
  have L2 : ∀ t i (h1 : tv_AH), i + t = 96 → (∀ j, j < 24 → h1.1 429 j = h.1 411 (480 + j) ∧ h1.1 430 j = h.1 412 (480 + j)) → (∀ j, j < i → h1.1 431 j = h.1 418 (1920 + j) ∧ h1.1 432 j = vp_nar .boolean (h.1 419 (1920 + j))) → tv_ag (fun q _ => 429 ≤ q ∧ q ≤ 432) h h1 → tv_Wp ad RX3 cX3_readNow 6 (some .int) (d + 7) (tv_pI K) 70 [(0, .ref (ad 400)), (1, .int (nI E0.length)), (2, .int x2), (3, .int x3), (4, .int (nI i))] [] h1 := by
    intro t
    induction t with
    | zero =>
      intro i h1 hi as1 as2 a1
      have : i = 96 := by omega
      subst this
      have nm : ∀ v q j, md_rM v q j → ¬ (429 ≤ q ∧ q ≤ 432) := fun v q j y => by unfold md_rM md_rE md_rN at y; omega
      have k0 := (hv 0 (by omega)).ag a1 (nm 0)
      rw [o4] at k0
      refine bX3_readNowN_70 _ _ _ _ h1 (pk_le 96 96 (fun _ => ?_) (fun q => absurd q (by omega)))
      refine md_beginEdit (v := 0) (own' := ss_md S) (by omega) k0 (fun j hj => absurd hj (by simp)) (fun h2 m2 z2 a2 => ?_)
      have nm2 : ∀ v, v < 20 → ∀ q j, md_rM v q j → ¬ (md_rM 20 q j ∨ (q = 400 ∧ j = 6)) := fun v hv2 q j y => by unfold md_rM md_rE md_rN at y; unfold md_rM md_rE md_rN; omega
      refine L3 L.length 0 ([], []) (ss_md S) h2 (by omega) rfl (by simp) (Nat.le_refl _) (by omega) m2 ⟨0, z2⟩ ?_ ⟨fun j hj => ?_, fun j hj => ?_⟩ (fun v hv2 => ((hv v hv2).ag a1 (nm v)).ag a2 (nm2 v (by omega))) ?_ ((s.ag a1 (by omega) (by omega)).ag a2 (by unfold md_rM md_rE md_rN; omega) (by unfold md_rM md_rE md_rN; omega)) ((a1.mo (fun q j z => Or.inr (Or.inr z))).tr (a2.mo (fun q j z => by unfold md_rM md_rE md_rN at z; omega)))
      · rw [a2.2 _ _ (by unfold md_rM md_rE md_rN; omega), a1.2 _ _ (by omega)]; exact hmd
      · rw [a2.2 _ _ (by unfold md_rM md_rE md_rN; omega), a2.2 _ _ (by unfold md_rM md_rE md_rN; omega)]; exact as1 j hj
      · rw [a2.2 _ _ (by unfold md_rM md_rE md_rN; omega), a2.2 _ _ (by unfold md_rM md_rE md_rN; omega)]; exact as2 j hj
      · rw [a2.2 _ _ (by unfold md_rM md_rE md_rN; omega), a1.2 _ _ (by omega)]; exact hvs
    | succ t ih =>
      intro i h1 hi as1 as2 a1
      refine bX3_readNowN_70 _ _ _ _ h1 (pk_le 96 i (fun q => absurd q (by omega)) (fun q => ?_))
      rw [tv_1920, tv_nc i, tv_nc (1920 + i), nI_1]
      have hin : vp_in (nI (1920 + i)) 2112 := pk_in (1920 + i) 2112 (by omega)
      refine ⟨hin, pk_in i 96 (by omega), fun h2 w2 => ⟨hin, pk_in i 96 (by omega), fun h3 w3 => ?_⟩⟩
      have e2 : h2.1 419 (1920 + i) = h.1 419 (1920 + i) := by rw [w2, tv_wIc (by omega)]; exact a1.2 _ _ (by omega)
      rw [e2] at w3
      rw [a1.2 418 _ (by omega)] at w2
      have a3 : tv_ag (fun q j => (q = 431 ∨ q = 432) ∧ j = i) h1 h3 := by rw [w3, w2]; exact (tv_ag.rf.wI ⟨Or.inl rfl, rfl⟩).wI ⟨Or.inr rfl, rfl⟩
      refine ih (i + 1) h3 (by omega) (fun j hj => ?_) (fun j hj => ?_) (a1.tr (a3.mo (fun q j z => by omega)))
      · rw [a3.2 _ _ (by omega), a3.2 _ _ (by omega)]; exact as1 j hj
      · by_cases z : j = i
        · subst z
          rw [w3, tv_wIc (by omega), w2, tv_wIe, tv_wIe]
          exact ⟨rfl, rfl⟩
        · rw [a3.2 _ _ (by omega), a3.2 _ _ (by omega)]; exact as2 j (by omega)
  -- the entries are put aside
  have L1 : ∀ t i (h1 : tv_AH), i + t = 24 → (∀ j, j < i → h1.1 429 j = h.1 411 (480 + j) ∧ h1.1 430 j = h.1 412 (480 + j)) → tv_ag (fun q _ => 429 ≤ q ∧ q ≤ 432) h h1 → tv_Wp ad RX3 cX3_readNow 6 (some .int) (d + 7) (tv_pI K) 24 [(0, .ref (ad 400)), (1, .int (nI E0.length)), (2, .int x2), (3, .int x3), (4, .int (nI i))] [] h1 := by
    intro t
    induction t with
    | zero =>
      intro i h1 hi as1 a1
      have : i = 24 := by omega
      subst this
      exact bX3_readNowN_24 _ _ _ _ h1 (pk_le 24 24 (fun _ => L2 96 0 h1 (by omega) as1 (fun j hj => absurd hj (by omega)) a1) (fun q => absurd q (by omega)))
    | succ t ih =>
      intro i h1 hi as1 a1
      refine bX3_readNowN_24 _ _ _ _ h1 (pk_le 24 i (fun q => absurd q (by omega)) (fun q => ?_))
      refine md_keyAt (m := 20) (by omega) (by omega) ?_
      rw [tv_nc i, nI_1]
      refine ⟨pk_in i 24 (by omega), fun h2 w2 => ?_⟩
      refine md_valueAt (m := 20) (by omega) (by omega) ⟨pk_in i 24 (by omega), fun h3 w3 => ?_⟩
      have e2 : h2.1 412 (24 * 20 + i) = h.1 412 (480 + i) := by rw [w2, tv_wIc (by omega), show 24 * 20 + i = 480 + i by omega]; exact a1.2 _ _ (by omega)
      rw [e2] at w3
      rw [show 24 * 20 + i = 480 + i by omega, a1.2 411 _ (by omega)] at w2
      have a3 : tv_ag (fun q j => (q = 429 ∨ q = 430) ∧ j = i) h1 h3 := by rw [w3, w2]; exact (tv_ag.rf.wI ⟨Or.inl rfl, rfl⟩).wI ⟨Or.inr rfl, rfl⟩
      refine ih (i + 1) h3 (by omega) (fun j hj => ?_) (a1.tr (a3.mo (fun q j z => by omega)))
      by_cases z : j = i
      · subst z
        rw [w3, tv_wIc (by omega), w2, tv_wIe, tv_wIe]
        exact ⟨rfl, rfl⟩
      · rw [a3.2 _ _ (by omega), a3.2 _ _ (by omega)]; exact as1 j (by omega)
  exact L1 24 0 h (by omega) (fun j hj => absurd hj (by omega)) tv_ag.rf
end MEB
