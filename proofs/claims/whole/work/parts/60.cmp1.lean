/-! THE COMPONENT: trees' entries -/
theorem tv_or {a b k : Nat} (hb : b < 2 ^ k) (ha : 2 ^ k * a + b < 2 ^ 32) : nI (2 ^ k * a) ||| nI b = nI (2 ^ k * a + b) := by
  apply Int32.toBitVec_inj.mp
  rw [Int32.toBitVec_or]
  apply BitVec.eq_of_toNat_eq
  rw [BitVec.toNat_or, pk_tn (by omega), pk_tn (by omega), pk_tn ha]
  exact (Nat.two_pow_add_eq_or_of_lt hb a).symm
/-- factor and width of the component -/
def ct_sc (f w : Nat) (h : tv_AH) : Prop := h.1 0 3 = nI f ∧ h.1 0 4 = nI w ∧ sp_sc f w
def sp_rkk (f w k : Nat) : Nat := sp_rank (sp_hash f w k)
/-- tree j holds these entries -/
def ct_E (f w : Nat) (j : Fin 22) (E : List (Nat × Nat)) (h : tv_AH) : Prop := h.1 (tv_tp j) 0 = nI E.length ∧ ∀ i, i < E.length → h.1 (tv_tp j + 1) i = nI (sp_k E i) ∧ h.1 (tv_tp j + 2) i = nI (sp_v E i) ∧ h.1 (tv_tp j + 3) i = nI (sp_rkk f w (sp_k E i))
def ct_rE (j : Fin 22) (q i : Nat) : Prop := (q = tv_tp j ∧ i = 0) ∨ q = tv_tp j + 1 ∨ q = tv_tp j + 2 ∨ q = tv_tp j + 3
theorem ct_tp (j : Fin 22) : tv_tp j = 16 * (j.val + 1) ∧ j.val < 22 := ⟨rfl, j.isLt⟩
theorem ct_ne {i j : Fin 22} (h : i ≠ j) : i.val ≠ j.val := fun z => h (Fin.ext z)
section CTA
variable {ad : Nat → Nat} {d f w : Nat} {h : tv_AH} {j : Fin 22} {E : List (Nat × Nat)} {k v : Nat}
theorem ct_E.cg {h' : tv_AH} (e : ct_E f w j E h) (c : ∀ q i, ct_rE j q i → h'.1 q i = h.1 q i) : ct_E f w j E h' := by
  refine ⟨by rw [c _ _ (Or.inl ⟨rfl, rfl⟩)]; exact e.1, fun i hi => ?_⟩
  rw [c _ i (Or.inr (Or.inl rfl)), c _ i (Or.inr (Or.inr (Or.inl rfl))), c _ i (Or.inr (Or.inr (Or.inr rfl)))]
  exact e.2 i hi
theorem ct_E.ag {h' : tv_AH} {P : Nat → Nat → Prop} (e : ct_E f w j E h) (a : tv_ag P h h') (n : ∀ q i, ct_rE j q i → ¬ P q i) : ct_E f w j E h' := e.cg (fun q i r => a.2 q i (n q i r))
theorem ct_rE_ne {i j : Fin 22} (n : i ≠ j) {q t : Nat} (r : ct_rE i q t) : ¬ ct_rE j q t := by
  have h1 := ct_tp i
  have h2 := ct_tp j
  have h3 := ct_ne n
  unfold ct_rE at *
  omega
theorem sp_rkk_lt (f w k : Nat) : sp_rkk f w k < 2 ^ 30 := sp_rank_lt _
theorem ct_hashOf (s : ct_sc f w h) (hk : k < 4096) {K : Int32 → tv_AH → Prop} (hK : K (nI (sp_hash f w k)) h) : tv_CI ad (d + 1) yX2_hashOf [.ref (ad 0), .int (nI k)] h K := by
  refine nX2_hashOf _ h ?_
  rw [s.1, s.2.1, tv_hash s.2.2 hk]
  exact hK
def sp_rks (g : Nat) : Nat → Nat
  | 0 => 0
  | l + 1 => sp_rks g l * 32 + sp_part g l
theorem sp_rks_lt (g : Nat) : ∀ l, sp_rks g l < 32 ^ l
  | 0 => Nat.one_pos
  | l + 1 => by
    have := sp_rks_lt g l
    have := sp_part_lt g l
    unfold sp_rks
    rw [Nat.pow_succ]
    omega
theorem sp_rks_6 (g : Nat) : sp_rks g 6 = sp_rank g := by
  unfold sp_rank
  simp only [sp_rks, Nat.zero_mul, Nat.zero_add]
theorem ct_rankOf (s : ct_sc f w h) (hk : k < 4096) {K : Int32 → tv_AH → Prop} (hK : K (nI (sp_rkk f w k)) h) : tv_CI ad (d + 2) yX2_rankOf [.ref (ad 0), .int (nI k)] h K := by
  refine nX2_rankOf _ h (ct_hashOf s hk ?_)
  have hg := sp_hash_lt (k := k) s.2.2
  unfold sp_rkk at hK
  generalize sp_hash f w k = g at hg hK
  have H : ∀ t l, l + t = 6 → tv_Wp ad RX2 cX2_rankOf 5 (some .int) (d + 1) (tv_pI K) 11 [(2, .int (nI g)), (3, .int (nI (sp_rks g l))), (4, .int (nI l))] [] h := by
    intro t
    induction t with
    | zero =>
      intro l hl
      have : l = 6 := by omega
      subst this
      rw [← sp_rks_6] at hK
      exact bX2_rankOf_11 _ _ _ h (pk_le 6 6 (fun _ => hK) (fun q => absurd q (by omega)))
    | succ t ih =>
      intro l hl
      refine bX2_rankOf_11 _ _ _ h (pk_le 6 l (fun q => absurd q (by omega)) (fun q => ?_))
      have h1 := sp_rks_lt g l
      have h2 := sp_part_lt g l
      have h3 : (32 : Nat) ^ l ≤ 32 ^ 5 := Nat.pow_le_pow_right (by decide) (by omega)
      rw [tv_part hg (by omega), show (5 : Int32) &&& 31 = nI 5 &&& 31 from rfl, tv_shl (by omega) (by omega), nI_1, show sp_rks g l * 2 ^ 5 = 2 ^ 5 * sp_rks g l by omega, tv_or (by omega) (by omega)]
      have := ih (l + 1) (by omega)
      unfold sp_rks at this
      rw [show 2 ^ 5 * sp_rks g l + sp_part g l = sp_rks g l * 32 + sp_part g l by omega]
      exact this
  exact H 6 0 (by omega)
theorem ct_indexOfKey (e : ct_E f w j E h) (hb : sp_eb E) (hk : k < 4096) {K : Int32 → tv_AH → Prop} (hK : K (sp_ix E k) h) : tv_CI ad (d + 1) yX1_indexOfKey [.ref (ad (tv_tp j)), .int (nI k)] h K := by
  have h24 := hb.1
  refine nX1_indexOfKey _ _ h ?_
  have H : ∀ n i, i + n = E.length → (∀ t, t < i → sp_k E t ≠ k) → tv_Wp ad RX1 cX1_indexOfKey 3 (some .int) d (tv_pI K) 2 [(0, .ref (ad (tv_tp j))), (1, .int (nI k)), (2, .int (nI i))] [] h := by
    intro n
    induction n with
    | zero =>
      intro i hi hne
      refine bX1_indexOfKey_2 _ _ _ h ?_
      rw [e.1]
      refine pk_le E.length i (fun _ => ?_) (fun c => absurd c (by omega))
      rw [sp_ix_no (fun t ht => hne t (by omega))] at hK
      exact hK
    | succ n ih =>
      intro i hi hne
      refine bX1_indexOfKey_2 _ _ _ h ?_
      rw [e.1, tv_nc i]
      refine pk_le E.length i (fun c => absurd c (by omega)) (fun c => ⟨pk_in i 24 (by omega), ?_⟩)
      rw [(e.2 i c).1, nI_1]
      have hki := (hb.2 i c).1
      refine tv_ne (sp_k E i) k (fun z => ?_) (fun z => ?_)
      · exact ih (i + 1) (by omega) (fun t ht => by
          rcases Nat.lt_or_ge t i with q | q
          · exact hne t q
          · rw [show t = i by omega]; exact z)
      · rw [sp_ix_is c z hne] at hK
        exact hK
  exact H E.length 0 (by omega) (fun t ht => absurd ht (by omega))
/-- what an index tells: below 0, or a place -/
theorem ct_ixlt {A B : Prop} (hl : E.length ≤ 24) (f1 : sp_fi E k = none → A) (g1 : ∀ i, sp_fi E k = some i → B) : (sp_ix E k < 0 → A) ∧ (¬ sp_ix E k < 0 → B) := by
  unfold sp_ix
  cases hf : sp_fi E k with
  | none => exact ⟨fun _ => f1 hf, fun z => absurd (by decide) z⟩
  | some i =>
    have := (sp_fi_some hf).1
    exact ⟨fun z => absurd z (nI_pos (by omega)), fun _ => g1 i hf⟩
theorem ct_ixge {A B : Prop} (hl : E.length ≤ 24) (f1 : sp_fi E k = none → B) (g1 : ∀ i, sp_fi E k = some i → A) : (0 ≤ sp_ix E k → A) ∧ (¬ 0 ≤ sp_ix E k → B) := by
  unfold sp_ix
  cases hf : sp_fi E k with
  | none => exact ⟨fun z => absurd z (by decide), fun _ => f1 hf⟩
  | some i =>
    have := (sp_fi_some hf).1
    exact ⟨fun _ => g1 i hf, fun z => absurd (nI_pos' (by omega)) z⟩
theorem sp_ix_some {i : Nat} (hf : sp_fi E k = some i) : sp_ix E k = nI i := by unfold sp_ix; rw [hf]
theorem ct_isBehind {i r : Nat} (e : ct_E f w j E h) (hb : sp_eb E) (hi : i < E.length) (hk : k < 4096) (hr : r = sp_rkk f w k) {K : Int32 → tv_AH → Prop} (hK : K (if sp_ord f w k < sp_ord f w (sp_k E i) then 1 else 0) h) : tv_CI ad (d + 1) yX1_isBehind [.ref (ad (tv_tp j)), .int (nI i), .int (nI k), .int (nI r)] h K := by
  have h24 := hb.1
  have h1 := sp_rkk_lt f w k
  have h2 := sp_rkk_lt f w (sp_k E i)
  have h3 := (hb.2 i hi).1
  have hin : vp_in (nI i) 24 := pk_in i 24 (by omega)
  unfold sp_ord at hK
  change K (if sp_rkk f w k * 4096 + k < sp_rkk f w (sp_k E i) * 4096 + sp_k E i then 1 else 0) h at hK
  subst hr
  refine nX1_isBehind _ _ _ _ h ?_
  rw [tv_nc i, (e.2 i hi).1, (e.2 i hi).2.2]
  refine ⟨hin, pk_lt (sp_rkk f w k) (sp_rkk f w (sp_k E i)) (fun z => ?_) (fun z => ⟨hin, tv_ne (sp_rkk f w (sp_k E i)) (sp_rkk f w k) (fun y => ?_) (fun y => ⟨hin, pk_le (sp_k E i) k (fun u => ?_) (fun u => ?_)⟩)⟩)⟩
  · rw [if_pos (by omega)] at hK; exact hK
  · rw [if_neg (by omega)] at hK; exact hK
  · rw [if_neg (by omega)] at hK; exact hK
  · rw [if_pos (by omega)] at hK; exact hK
/-- an entry more, in its place -/
theorem ct_insert {r : Nat} (e : ct_E f w j E h) (hb : sp_eb E) (hk : k < 4096) (hr : r = sp_rkk f w k) (hl : E.length < 24) {K : tv_AH → Prop} (hK : ∀ h', ct_E f w j (sp_ins E (sp_pos (sp_ord f w) E k E.length) (k, v)) h' → tv_ag (ct_rE j) h h' → K h') : tv_CV ad (d + 2) yX1_insert [.ref (ad (tv_tp j)), .int (nI k), .int (nI v), .int (nI r)] h K := by
  refine nX1_insert _ _ _ _ h ?_
  rw [e.1]
  have hin : ∀ c, c ≤ E.length → vp_in (nI c) 24 := fun c hc => pk_in c 24 (by omega)
  have fin : ∀ (c : Nat) (h2 : tv_AH), c ≤ E.length → sp_pos (sp_ord f w) E k E.length = c → tv_ag (ct_rE j) h h2 → h2.1 (tv_tp j) 0 = nI E.length → (∀ t, t < c → h2.1 (tv_tp j + 1) t = nI (sp_k E t) ∧ h2.1 (tv_tp j + 2) t = nI (sp_v E t) ∧ h2.1 (tv_tp j + 3) t = nI (sp_rkk f w (sp_k E t))) → (∀ t, c < t → t < E.length + 1 → h2.1 (tv_tp j + 1) t = nI (sp_k E (t - 1)) ∧ h2.1 (tv_tp j + 2) t = nI (sp_v E (t - 1)) ∧ h2.1 (tv_tp j + 3) t = nI (sp_rkk f w (sp_k E (t - 1)))) → (vp_in (nI c) 24 ∧ ∀ h1 : tv_AH, h1 = tv_wI h2 (tv_tp j + 1) c (nI k) → (vp_in (nI c) 24 ∧ ∀ h3 : tv_AH, h3 = tv_wI h1 (tv_tp j + 2) c (nI v) → (vp_in (nI c) 24 ∧ ∀ h4 : tv_AH, h4 = tv_wI h3 (tv_tp j + 3) c (nI r) → (∀ h5 : tv_AH, h5 = tv_wI h4 (tv_tp j) 0 (h4.1 (tv_tp j) 0 + 1) → K h5)))) := by
    intro c h2 hc hp a hs ha hb2
    refine ⟨hin c hc, fun h1 w1 => ⟨hin c hc, fun h3 w3 => ⟨hin c hc, fun h4 w4 h5 w5 => ?_⟩⟩⟩
    have e4 : h4.1 (tv_tp j) 0 = nI E.length := by
      subst w1 w3 w4
      rw [tv_wIc (by omega), tv_wIc (by omega), tv_wIc (by omega)]; exact hs
    rw [e4, nI_1] at w5
    rw [hp] at hK
    subst w1 w3 w4 w5
    refine hK _ ⟨?_, fun t ht => ?_⟩ ((((a.wI (Or.inr (Or.inl rfl))).wI (Or.inr (Or.inr (Or.inl rfl)))).wI (Or.inr (Or.inr (Or.inr rfl)))).wI (Or.inl ⟨rfl, rfl⟩))
    · rw [tv_wIe, sp_ins_len hc]
    · rw [sp_ins_len hc] at ht
      rw [sp_ins_k hc, sp_ins_v hc]
      rcases Nat.lt_trichotomy t c with z | z | z
      · rw [if_pos z, if_pos z]
        simp (disch := omega) only [tv_wIc]
        exact ha t z
      · subst z
        rw [if_neg (Nat.lt_irrefl t), if_neg (Nat.lt_irrefl t), if_pos (Eq.refl t), if_pos (Eq.refl t)]
        simp (disch := omega) only [tv_wIc, tv_wIe]
        exact ⟨trivial, trivial, by rw [hr]⟩
      · rw [if_neg (show ¬ t < c by omega), if_neg (show ¬ t < c by omega), if_neg (show ¬ t = c by omega), if_neg (show ¬ t = c by omega)]
        simp (disch := omega) only [tv_wIc]
        exact hb2 t z ht
  have H : ∀ c (h2 : tv_AH), c ≤ E.length → sp_pos (sp_ord f w) E k E.length = sp_pos (sp_ord f w) E k c → tv_ag (ct_rE j) h h2 → h2.1 (tv_tp j) 0 = nI E.length → (∀ t, t < c → h2.1 (tv_tp j + 1) t = nI (sp_k E t) ∧ h2.1 (tv_tp j + 2) t = nI (sp_v E t) ∧ h2.1 (tv_tp j + 3) t = nI (sp_rkk f w (sp_k E t))) → (∀ t, c < t → t < E.length + 1 → h2.1 (tv_tp j + 1) t = nI (sp_k E (t - 1)) ∧ h2.1 (tv_tp j + 2) t = nI (sp_v E (t - 1)) ∧ h2.1 (tv_tp j + 3) t = nI (sp_rkk f w (sp_k E (t - 1)))) → tv_Wp ad RX1 cX1_insert 5 none (d + 1) (tv_pV K) 6 [(0, .ref (ad (tv_tp j))), (1, .int (nI k)), (2, .int (nI v)), (3, .int (nI r)), (4, .int (nI c))] [] h2 := by
    intro c
    induction c with
    | zero =>
      intro h2 hc hp a hs ha hb2
      refine bX1_insert_6 _ _ _ _ _ h2 (pk_le 0 0 (fun _ => ?_) (fun z => absurd z (by omega)))
      rw [tv_nc 0]
      exact fin 0 h2 hc hp a hs ha hb2
    | succ c ih =>
      intro h2 hc hp a hs ha hb2
      -- the entries up to c stand in a list of their own
      have e2 : ct_E f w j (E.take (c + 1)) (tv_wI h2 (tv_tp j) 0 (nI (c + 1))) := by
        have hln : (E.take (c + 1)).length = c + 1 := by rw [List.length_take]; omega
        refine ⟨by rw [tv_wIe, hln], fun t ht => ?_⟩
        rw [hln] at ht
        have g : (E.take (c + 1)).getD t (0, 0) = E.getD t (0, 0) := by
          simp only [List.getD_eq_getElem?_getD, List.getElem?_take, ht, if_true]
        unfold sp_k sp_v
        rw [g, tv_wIc (by omega), tv_wIc (by omega), tv_wIc (by omega)]
        exact ha t ht
      refine bX1_insert_6 _ _ _ _ _ h2 (pk_le (c + 1) 0 (fun z => absurd z (by omega)) (fun _ => ?_))
      rw [show nI (c + 1) - 1 = nI c from nI_pred c]
      -- isBehind reads the row c alone
      have hbe : ∀ {K1 : Int32 → tv_AH → Prop}, K1 (if sp_ord f w k < sp_ord f w (sp_k E c) then 1 else 0) h2 → tv_CI ad (d + 1) yX1_isBehind [.ref (ad (tv_tp j)), .int (nI c), .int (nI k), .int (nI r)] h2 K1 := by
        intro K1 hK1
        have q1 := sp_rkk_lt f w k
        have q2 := sp_rkk_lt f w (sp_k E c)
        have q3 := (hb.2 c (by omega)).1
        have hin2 := hin c (by omega)
        unfold sp_ord at hK1
        change K1 (if sp_rkk f w k * 4096 + k < sp_rkk f w (sp_k E c) * 4096 + sp_k E c then 1 else 0) h2 at hK1
        rw [hr]
        refine nX1_isBehind _ _ _ _ h2 ?_
        rw [tv_nc c, (ha c (by omega)).1, (ha c (by omega)).2.2]
        refine ⟨hin2, pk_lt (sp_rkk f w k) (sp_rkk f w (sp_k E c)) (fun z => ?_) (fun z => ⟨hin2, tv_ne (sp_rkk f w (sp_k E c)) (sp_rkk f w k) (fun y => ?_) (fun y => ⟨hin2, pk_le (sp_k E c) k (fun u => ?_) (fun u => ?_)⟩)⟩)⟩
        · rw [if_pos (by omega)] at hK1; exact hK1
        · rw [if_neg (by omega)] at hK1; exact hK1
        · rw [if_neg (by omega)] at hK1; exact hK1
        · rw [if_pos (by omega)] at hK1; exact hK1
      refine hbe ?_
      rw [tv_nc (c + 1), tv_nc c]
      by_cases hlt : sp_ord f w k < sp_ord f w (sp_k E c)
      · rw [if_pos hlt]
        refine tv_c1 ?_
        have hin1 := hin c (by omega)
        have hin2 := hin (c + 1) (by omega)
        obtain ⟨r1, r2, r3⟩ := ha c (by omega)
        refine ⟨hin1, hin2, fun h3 w3 => ⟨hin1, hin2, fun h4 w4 => ⟨hin1, hin2, fun h5 w5 => ?_⟩⟩⟩
        have x3 : h3.1 (tv_tp j + 2) c = nI (sp_v E c) := by rw [w3, tv_wIc (by omega)]; exact r2
        have x4 : h4.1 (tv_tp j + 3) c = nI (sp_rkk f w (sp_k E c)) := by rw [w4, tv_wIc (by omega), w3, tv_wIc (by omega)]; exact r3
        rw [r1] at w3
        rw [x3] at w4
        rw [x4] at w5
        rw [pk_m1]
        subst w3 w4 w5
        refine ih _ (by omega) ?_ (((a.wI (Or.inr (Or.inl rfl))).wI (Or.inr (Or.inr (Or.inl rfl)))).wI (Or.inr (Or.inr (Or.inr rfl)))) ?_ ?_ ?_
        · rw [hp]; show (if _ then _ else _) = _; rw [if_pos hlt]
        · simp (disch := omega) only [tv_wIc]
          exact hs
        · intro t ht
          simp (disch := omega) only [tv_wIc]
          exact ha t (by omega)
        · intro t ht ht2
          by_cases z : t = c + 1
          · subst z
            simp (disch := omega) only [tv_wIc, tv_wIe, Nat.add_sub_cancel]
            exact ⟨trivial, trivial, trivial⟩
          · simp (disch := omega) only [tv_wIc]
            exact hb2 t (by omega) ht2
      · rw [if_neg hlt]
        exact tv_c0 (fin (c + 1) h2 hc (by rw [hp]; show (if _ then _ else _) = _; rw [if_neg hlt]) a hs ha hb2)
  exact H E.length h (Nat.le_refl _) rfl tv_ag.rf e.1 (fun t ht => e.2 t ht) (fun t h1 h2 => absurd h1 (by omega))
end CTA
