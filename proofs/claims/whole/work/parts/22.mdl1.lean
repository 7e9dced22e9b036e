/-! THE REFERENCE: its small methods -/
/-- factor and width -/
def md_sc (f w : Nat) (h : tv_AH) : Prop := h.1 400 2 = nI f ∧ h.1 400 3 = nI w ∧ sp_sc f w
/-- the entries of a map -/
def md_E (m : Nat) (E : List (Nat × Nat)) (h : tv_AH) : Prop := h.1 410 m = nI E.length ∧ ∀ i, i < E.length → h.1 411 (24 * m + i) = nI (sp_k E i) ∧ h.1 412 (24 * m + i) = nI (sp_v E i)
/-- where a map's entries lie -/
def md_rE (m q i : Nat) : Prop := (q = 410 ∧ i = m) ∨ ((q = 411 ∨ q = 412) ∧ 24 * m ≤ i ∧ i < 24 * m + 24)
section MDA
variable {ad : Nat → Nat} {d : Nat} {h : tv_AH} {m k i f w : Nat} {E : List (Nat × Nat)}
theorem md_E.cg {h' : tv_AH} (e : md_E m E h) (hE : E.length ≤ 24) (c : ∀ q i, md_rE m q i → h'.1 q i = h.1 q i) : md_E m E h' := by
  refine ⟨by rw [c 410 m (Or.inl ⟨rfl, rfl⟩)]; exact e.1, fun i hi => ?_⟩
  rw [c 411 _ (Or.inr ⟨Or.inl rfl, by omega, by omega⟩), c 412 _ (Or.inr ⟨Or.inr rfl, by omega, by omega⟩)]
  exact e.2 i hi
theorem md_within {x a b : Int32} {K : Int32 → tv_AH → Prop} (hK : K (if a ≤ x ∧ x ≤ b then 1 else 0) h) : tv_CI ad (d + 1) yX3_within [.int x, .int a, .int b] h K := by
  refine nX3_within x a b h ⟨fun c => ?_, fun c => ⟨fun c2 => ?_, fun c2 => ?_⟩⟩
  · rw [if_neg (fun z => absurd z.1 (Int32.not_le.mpr c))] at hK; exact hK
  · rw [if_neg (fun z => absurd z.2 (Int32.not_le.mpr c2))] at hK; exact hK
  · rw [if_pos ⟨Int32.not_lt.mp c, Int32.not_lt.mp c2⟩] at hK; exact hK
theorem md_hashOf (s : md_sc f w h) (hk : k < 4096) {K : Int32 → tv_AH → Prop} (hK : K (nI (sp_hash f w k)) h) : tv_CI ad (d + 1) yX3_hashOf [.ref (ad 400), .int (nI k)] h K := by
  refine nX3_hashOf _ h ?_
  rw [s.1, s.2.1, tv_hash s.2.2 hk]
  exact hK
theorem md_partOf {g l : Nat} (hg : g < 2 ^ 30) (hl : l < 6) {K : Int32 → tv_AH → Prop} (hK : K (nI (sp_part g l)) h) : tv_CI ad (d + 1) yX3_partOf [.int (nI g), .int (nI l)] h K := by
  refine nX3_partOf _ _ h ?_
  rw [tv_part hg hl]
  exact hK
theorem md_keyAt (hm : m < 22) (hi : i < 24) {K : Int32 → tv_AH → Prop} (hK : K (h.1 411 (24 * m + i)) h) : tv_CI ad (d + 1) yX3_keyAt [.ref (ad 400), .int (nI m), .int (nI i)] h K := by
  refine nX3_keyAt _ _ h ?_
  rw [tv_24]
  refine ⟨pk_in (24 * m + i) 528 (by omega), ?_⟩
  rw [tv_nc (24 * m + i)]
  exact hK
theorem md_valueAt (hm : m < 22) (hi : i < 24) {K : Int32 → tv_AH → Prop} (hK : K (h.1 412 (24 * m + i)) h) : tv_CI ad (d + 1) yX3_valueAt [.ref (ad 400), .int (nI m), .int (nI i)] h K := by
  refine nX3_valueAt _ _ h ?_
  rw [tv_24]
  refine ⟨pk_in (24 * m + i) 528 (by omega), ?_⟩
  rw [tv_nc (24 * m + i)]
  exact hK
theorem md_placeOf (hm : m < 22) (e : md_E m E h) (hb : sp_eb E) (hk : k < 4096) {K : Int32 → tv_AH → Prop} (hK : K (sp_ix E k) h) : tv_CI ad (d + 2) yX3_placeOf [.ref (ad 400), .int (nI m), .int (nI k)] h K := by
  refine nX3_placeOf _ _ h ?_
  have H : ∀ n i, i + n = E.length → (∀ j, j < i → sp_k E j ≠ k) → tv_Wp ad RX3 cX3_placeOf 4 (some .int) (d + 1) (tv_pI K) 2 [(0, .ref (ad 400)), (1, .int (nI m)), (2, .int (nI k)), (3, .int (nI i))] [] h := by
    intro n
    have h24 := hb.1
    induction n with
    | zero =>
      intro i hi hne
      refine bX3_placeOf_2 _ _ _ h ?_
      rw [tv_nc m, e.1]
      refine ⟨pk_in m 22 hm, pk_le E.length i (fun _ => ?_) (fun c => absurd c (by omega))⟩
      rw [sp_ix_no (fun j hj => hne j (by omega))] at hK
      exact hK
    | succ n ih =>
      intro i hi hne
      refine bX3_placeOf_2 _ _ _ h ?_
      rw [tv_nc m, e.1]
      refine ⟨pk_in m 22 hm, pk_le E.length i (fun c => absurd c (by omega)) (fun c => ?_)⟩
      have hki := (hb.2 i c).1
      refine md_keyAt hm (by omega) ?_
      rw [(e.2 i c).1]
      refine tv_ne (sp_k E i) k (fun z => ?_) (fun z => ?_)
      · rw [nI_1]
        exact ih (i + 1) (by omega) (fun j hj => by
          rcases Nat.lt_or_ge j i with q | q
          · exact hne j q
          · rw [show j = i by omega]; exact z)
      · rw [sp_ix_is c z hne] at hK
        exact hK
  exact H E.length 0 (by omega) (fun j hj => absurd hj (by omega))
theorem md_isAhead {o : Nat} (s : md_sc f w h) (hk : k < 4096) (ho : o < 4096) {K : Int32 → tv_AH → Prop} (hK : K (if sp_ord f w k < sp_ord f w o then 1 else 0) h) : tv_CI ad (d + 2) yX3_isAhead [.ref (ad 400), .int (nI k), .int (nI o)] h K := by
  refine nX3_isAhead _ _ h (md_hashOf s hk (md_hashOf s ho ?_))
  have hg1 := sp_hash_lt (k := k) s.2.2
  have hg2 := sp_hash_lt (k := o) s.2.2
  unfold sp_ord at hK
  generalize sp_hash f w k = g1 at hK hg1 ⊢
  generalize sp_hash f w o = g2 at hK hg2 ⊢
  have H : ∀ n l, l + n = 6 → (∀ j, j < l → sp_part g1 j = sp_part g2 j) → tv_Wp ad RX3 cX3_isAhead 6 (some .boolean) (d + 1) (tv_pI K) 16 [(1, .int (nI k)), (2, .int (nI o)), (3, .int (nI g1)), (4, .int (nI g2)), (5, .int (nI l))] [] h := by
    intro n
    induction n with
    | zero =>
      intro l hl he
      have e6 : l = 6 := by omega
      subst e6
      refine bX3_isAhead_16 _ _ _ _ _ h (pk_le 6 6 (fun _ => ?_) (fun c => absurd c (by omega)))
      have er := sp_rank_eqI he
      rw [er] at hK
      refine pk_le o k (fun c => ?_) (fun c => ?_)
      · rw [if_neg (by omega)] at hK; exact hK
      · rw [if_pos (by omega)] at hK; exact hK
    | succ n ih =>
      intro l hl he
      have hl6 : l < 6 := by omega
      refine bX3_isAhead_16 _ _ _ _ _ h (pk_le 6 l (fun c => absurd c (by omega)) (fun c => ?_))
      have p1 := sp_part_lt g1 l
      have p2 := sp_part_lt g2 l
      refine md_partOf hg1 hl6 (md_partOf hg2 hl6 (pk_eq (sp_part g1 l) (sp_part g2 l) (fun z => ?_) (fun z => ?_)))
      · rw [nI_1]
        exact ih (l + 1) (by omega) (fun j hj => by
          rcases Nat.lt_or_ge j l with q | q
          · exact he j q
          · rw [show j = l by omega]; exact z)
      · refine md_partOf hg1 hl6 (md_partOf hg2 hl6 ?_)
        have hlt := sp_rank_ltI hl6 he z
        have hgt := sp_rank_ltI hl6 (fun i hi => (he i hi).symm) (fun q => z q.symm)
        refine pk_le (sp_part g2 l) (sp_part g1 l) (fun c => ?_) (fun c => ?_)
        · have := hgt.mpr (by omega)
          rw [if_neg (by omega)] at hK; exact hK
        · have := hlt.mpr (by omega)
          rw [if_pos (by omega)] at hK; exact hK
  exact H 6 0 (by omega) (fun j hj => absurd hj (by omega))
end MDA
