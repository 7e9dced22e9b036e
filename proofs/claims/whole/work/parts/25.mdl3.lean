/-! THE REFERENCE: the nodes of a map -/
/-- the pile of ranges, the top first -/
def md_st : List (Nat × Nat × Nat) → tv_AH → Prop
  | [], _ => True
  | x :: r, h => h.1 420 r.length = nI x.1 ∧ h.1 421 r.length = nI x.2.1 ∧ h.1 422 r.length = nI x.2.2 ∧ md_st r h
theorem md_st.cg {h h' : tv_AH} : ∀ {st : List (Nat × Nat × Nat)}, md_st st h → (∀ q i, 420 ≤ q → q ≤ 422 → i < st.length → h'.1 q i = h.1 q i) → md_st st h'
  | [], _, _ => trivial
  | x :: r, ⟨h1, h2, h3, h4⟩, c => by
    refine ⟨?_, ?_, ?_, h4.cg (fun q i a b z => c q i a b (Nat.lt_trans z (Nat.lt_succ_self _)))⟩
    · rw [c 420 _ (by omega) (by omega) (Nat.lt_succ_self _)]; exact h1
    · rw [c 421 _ (by omega) (by omega) (Nat.lt_succ_self _)]; exact h2
    · rw [c 422 _ (by omega) (by omega) (Nat.lt_succ_self _)]; exact h3
/-- the first nodes of a map are these -/
def md_N (m : Nat) (N : List sp_nd) (h : tv_AH) : Prop := ∀ i, i < N.length → h.1 414 (96 * m + i) = nI (sp_n N i).1 ∧ h.1 415 (96 * m + i) = nI (sp_n N i).2.1 ∧ h.1 416 (96 * m + i) = nI (sp_n N i).2.2.1 ∧ h.1 417 (96 * m + i) = nI (sp_n N i).2.2.2
def md_rN (m q i : Nat) : Prop := (q = 413 ∧ i = m) ∨ (414 ≤ q ∧ q ≤ 419 ∧ 96 * m ≤ i ∧ i < 96 * m + 96)
def md_rP (q i : Nat) : Prop := (420 ≤ q ∧ q ≤ 422) ∨ (q = 400 ∧ i = 23)
section MDC
variable {ad : Nat → Nat} {d : Nat} {h : tv_AH} {m f w a b l c : Nat} {E : List (Nat × Nat)} {st : List (Nat × Nat × Nat)}
theorem md_pile (hp : h.1 400 23 = nI st.length) (hs : md_st st h) (hr : st.length < 96) {K : tv_AH → Prop} (hK : ∀ h', h'.1 400 23 = nI (st.length + 1) → md_st ((a, b, l) :: st) h' → tv_ag (fun q i => (420 ≤ q ∧ q ≤ 422 ∧ st.length ≤ i) ∨ (q = 400 ∧ i = 23)) h h' → K h') : tv_CV ad (d + 1) yX3_pile [.ref (ad 400), .int (nI a), .int (nI b), .int (nI l)] h K := by
  refine nX3_pile _ _ _ h ?_
  rw [hp, tv_nc st.length]
  refine ⟨pk_in st.length 96 hr, fun h1 w1 => ?_⟩
  have e1 : h1.1 400 23 = nI st.length := by rw [w1, tv_wIc (by omega)]; exact hp
  rw [e1, tv_nc st.length]
  refine ⟨pk_in st.length 96 hr, fun h2 w2 => ?_⟩
  have e2 : h2.1 400 23 = nI st.length := by rw [w2, tv_wIc (by omega)]; exact e1
  rw [e2, tv_nc st.length]
  refine ⟨pk_in st.length 96 hr, fun h3 w3 h4 w4 => ?_⟩
  have e3 : h3.1 400 23 = nI st.length := by rw [w3, tv_wIc (by omega)]; exact e2
  rw [e3, nI_1] at w4
  have ag : tv_ag (fun q i => (420 ≤ q ∧ q ≤ 422 ∧ st.length ≤ i) ∨ (q = 400 ∧ i = 23)) h h4 := by
    subst w1 w2 w3 w4
    exact (((tv_ag.rf.wI (Or.inl ⟨by omega, by omega, Nat.le_refl _⟩)).wI (Or.inl ⟨by omega, by omega, Nat.le_refl _⟩)).wI (Or.inl ⟨by omega, by omega, Nat.le_refl _⟩)).wI (Or.inr ⟨rfl, rfl⟩)
  refine hK h4 (by rw [w4, tv_wIe]) ⟨?_, ?_, ?_, hs.cg (fun q i q1 q2 q3 => ag.2 q i (by omega))⟩ ag
  · subst w1 w2 w3 w4
    rw [tv_wIc (by omega), tv_wIc (by omega), tv_wIc (by omega), tv_wIe]
  · subst w1 w2 w3 w4
    rw [tv_wIc (by omega), tv_wIc (by omega), tv_wIe]
  · subst w1 w2 w3 w4
    rw [tv_wIc (by omega), tv_wIe]
theorem md_partAt {i : Nat} (hm : m < 22) (s : md_sc f w h) (e : md_E m E h) (hb : sp_eb E) (hi : i < E.length) (hl : l < 6) {K : Int32 → tv_AH → Prop} (hK : K (nI (sp_part (sp_g f w E i) l)) h) : tv_CI ad (d + 2) yX3_partAt [.ref (ad 400), .int (nI m), .int (nI i), .int (nI l)] h K := by
  have h24 := hb.1
  refine nX3_partAt _ _ _ h (md_keyAt hm (by omega) ?_)
  rw [(e.2 i hi).1]
  refine md_hashOf s (hb.2 i hi).1 (md_partOf (sp_hash_lt s.2.2) hl ?_)
  exact hK
theorem md_isOneHash (hm : m < 22) (s : md_sc f w h) (e : md_E m E h) (hb : sp_eb E) (hab : a < b) (hbn : b ≤ E.length) {K : Int32 → tv_AH → Prop} (hK : K (if sp_one (sp_g f w E) a b then 1 else 0) h) : tv_CI ad (d + 2) yX3_isOneHash [.ref (ad 400), .int (nI m), .int (nI a), .int (nI b)] h K := by
  have h24 := hb.1
  refine nX3_isOneHash _ _ _ h ?_
  have H : ∀ n i (x : Int32), i + n = b → a < i → x = (if sp_one (sp_g f w E) a i then 1 else 0) → tv_Wp ad RX3 cX3_isOneHash 6 (some .boolean) (d + 1) (tv_pI K) 8 [(0, .ref (ad 400)), (1, .int (nI m)), (2, .int (nI a)), (3, .int (nI b)), (4, .int x), (5, .int (nI i))] [] h := by
    intro n
    induction n with
    | zero =>
      intro i x hi hai hx
      refine bX3_isOneHash_8 _ _ _ _ _ h (pk_le b i (fun _ => ⟨?_, ?_⟩) (fun z => absurd z (by omega)))
      · rw [hx]; split <;> simp
      · rw [hx, show i = b by omega]; exact hK
    | succ n ih =>
      intro i x hi hai hx
      refine bX3_isOneHash_8 _ _ _ _ _ h (pk_le b i (fun z => absurd z (by omega)) (fun _ => ⟨fun z => ?_, fun z => ?_⟩))
      · rw [nI_1]
        refine ih (i + 1) 0 (by omega) (by omega) ?_
        have ho : ¬ sp_one (sp_g f w E) a i := fun q => by rw [hx, if_pos q] at z; exact absurd z (by decide)
        rw [if_neg (fun q => ho (fun j h1 h2 => q j (by omega) h2))]
      · have ho : sp_one (sp_g f w E) a i := Classical.byContradiction fun q => by rw [hx, if_neg q] at z; exact z rfl
        refine md_keyAt hm (by omega) ?_
        rw [(e.2 i (by omega)).1]
        refine md_hashOf s (hb.2 i (by omega)).1 (md_keyAt hm (by omega) ?_)
        rw [(e.2 a (by omega)).1]
        refine md_hashOf s (hb.2 a (by omega)).1 ?_
        have g1 := sp_hash_lt (k := sp_k E i) s.2.2
        have g2 := sp_hash_lt (k := sp_k E a) s.2.2
        rw [nI_1]
        refine tv_ne (sp_hash f w (sp_k E i)) (sp_hash f w (sp_k E a)) (fun q => ?_) (fun q => ?_)
        · exact ih (i + 1) 0 (by omega) (by omega) (by rw [if_neg (fun t => q (t i (by omega) (by omega)))])
        · refine ih (i + 1) 1 (by omega) (by omega) ?_
          rw [if_pos]
          intro j h1 h2
          by_cases t : j = i
          · rw [t]; exact q
          · exact ho j (by omega) h2
  rw [nI_1]
  exact H (b - (a + 1)) (a + 1) 1 (by omega) (by omega) (by rw [if_pos (fun i h1 h2 => by rw [show i = a by omega])])
/-- what a node's laying leaves on the pile -/
def sp_push (g : Nat → Nat) (a b l : Nat) (st : List (Nat × Nat × Nat)) : List (Nat × Nat × Nat) := if sp_one g a b then st else (sp_runs (fun i => sp_part (g i) l) a b).map (fun r => (r.1, r.2, l + 1)) ++ st
def sp_kd (g : Nat → Nat) (a b : Nat) : Nat := if sp_one g a b then (if b = a + 1 then 0 else 1) else 2
theorem md_layNode (hm : m < 22) (s : md_sc f w h) (e : md_E m E h) (hb : sp_eb E) (hab : a < b) (hbn : b ≤ E.length) (hl : l ≤ 6) (agr : sp_agr (sp_g f w E) a b l) (hc : h.1 413 m = nI c) (hc96 : c < 96) (hp : h.1 400 23 = nI st.length) (hs : md_st st h) (hr : st.length + (b - a) ≤ 96) {K : tv_AH → Prop}
    (hK : ∀ h', h'.1 413 m = nI (c + 1) → (h'.1 414 (96 * m + c) = nI (sp_kd (sp_g f w E) a b) ∧ h'.1 415 (96 * m + c) = nI l ∧ h'.1 416 (96 * m + c) = nI a ∧ h'.1 417 (96 * m + c) = nI (b - a) ∧ h'.1 419 (96 * m + c) = 0) → h'.1 400 23 = nI (sp_push (sp_g f w E) a b l st).length → md_st (sp_push (sp_g f w E) a b l st) h' → tv_ag (fun q i => (q = 413 ∧ i = m) ∨ (414 ≤ q ∧ q ≤ 419 ∧ i = 96 * m + c) ∨ (420 ≤ q ∧ q ≤ 422 ∧ st.length ≤ i) ∨ (q = 400 ∧ i = 23)) h h' → K h') :
    tv_CV ad (d + 3) yX3_layNode [.ref (ad 400), .int (nI m), .int (nI a), .int (nI b), .int (nI l)] h K := by
  have h24 := hb.1
  have T : tv_Wp ad RX3 cX3_layNode 8 none (d + 2) (tv_pV K) 45 [(0, .ref (ad 400)), (1, .int (nI m)), (2, .int (nI a)), (3, .int (nI b)), (4, .int (nI l)), (5, .int (nI (96 * m + c)))] [.int (nI (sp_kd (sp_g f w E) a b)), .int (nI (96 * m + c)), .ref (ad 414)] h := by
    refine bX3_layNode_45 _ _ _ _ _ _ _ h ?_
    have hin : vp_in (nI (96 * m + c)) 2112 := pk_in (96 * m + c) 2112 (by omega)
    rw [tv_nc (96 * m + c), tv_nc m, pk_sub (Nat.le_of_lt hab)]
    refine ⟨hin, fun h1 w1 => ⟨hin, fun h2 w2 => ⟨hin, fun h3 w3 => ⟨hin, fun h4 w4 => ⟨hin, fun h5 w5 => ⟨hin, fun h6 w6 => ⟨pk_in m 22 hm, pk_in m 22 hm, fun h7 w7 => ⟨hin, ?_⟩⟩⟩⟩⟩⟩⟩⟩
    have e6 : h6.1 413 m = nI c := by
      subst w1 w2 w3 w4 w5 w6
      rw [tv_wIc (by omega), tv_wIc (by omega), tv_wIc (by omega), tv_wIc (by omega), tv_wIc (by omega), tv_wIc (by omega)]
      exact hc
    rw [e6, nI_1] at w7
    have ag : tv_ag (fun q i => (q = 413 ∧ i = m) ∨ (414 ≤ q ∧ q ≤ 419 ∧ i = 96 * m + c) ∨ (420 ≤ q ∧ q ≤ 422 ∧ st.length ≤ i) ∨ (q = 400 ∧ i = 23)) h h7 := by
      subst w1 w2 w3 w4 w5 w6 w7
      refine ((((((tv_ag.rf.wI ?_).wI ?_).wI ?_).wI ?_).wI ?_).wI ?_).wI ?_ <;> omega
    have n7 : h7.1 414 (96 * m + c) = nI (sp_kd (sp_g f w E) a b) ∧ h7.1 415 (96 * m + c) = nI l ∧ h7.1 416 (96 * m + c) = nI a ∧ h7.1 417 (96 * m + c) = nI (b - a) ∧ h7.1 419 (96 * m + c) = 0 := by
      subst w1 w2 w3 w4 w5 w6 w7
      simp (disch := omega) only [tv_wIc, tv_wIe, and_self]
    have c7 : h7.1 413 m = nI (c + 1) := by rw [w7, tv_wIe]
    have p7 : h7.1 400 23 = nI st.length := by
      subst w1 w2 w3 w4 w5 w6 w7
      simp (disch := omega) only [tv_wIc]
      exact hp
    have s7 : md_st st h7 := hs.cg (fun q i q1 q2 q3 => ag.2 q i (by omega))
    rw [n7.1]
    by_cases ho : sp_one (sp_g f w E) a b
    · have hk2 : sp_kd (sp_g f w E) a b ≠ 2 := by unfold sp_kd; rw [if_pos ho]; split <;> omega
      have hk3 : sp_kd (sp_g f w E) a b < 3 := by unfold sp_kd; rw [if_pos ho]; split <;> omega
      refine tv_ne (sp_kd (sp_g f w E) a b) 2 (fun _ => ?_) (fun z => absurd z hk2)
      have hpu : sp_push (sp_g f w E) a b l st = st := by unfold sp_push; rw [if_pos ho]
      rw [hpu] at hK
      exact hK h7 c7 n7 p7 s7 ag
    · have hk2 : sp_kd (sp_g f w E) a b = 2 := by unfold sp_kd; rw [if_neg ho]
      refine tv_ne (sp_kd (sp_g f w E) a b) 2 (fun z => absurd hk2 z) (fun _ => ?_)
      have hl6 : l < 6 := by
        rcases Nat.lt_or_ge l 6 with z | z
        · exact z
        · exact absurd (sp_agr_one z (fun i _ => sp_hash_lt s.2.2) agr) ho
      have hpu : sp_push (sp_g f w E) a b l st = (sp_runs (fun i => sp_part (sp_g f w E i) l) a b).map (fun r => (r.1, r.2, l + 1)) ++ st := by unfold sp_push; rw [if_neg ho]
      rw [hpu] at hK
      generalize hpp : (fun i => sp_part (sp_g f w E i) l) = pp at hK
      have hpl : ∀ i, sp_part (sp_g f w E i) l < 2 ^ 31 := fun i => Nat.lt_trans (sp_part_lt _ _) (by omega)
      have H : ∀ n en (h8 : tv_AH) (rs : List (Nat × Nat)), en ≤ n → a ≤ en → en ≤ b → sp_isR pp b en rs → (a < en → en < b → pp (en - 1) ≠ pp en) → rs.length + (en - a) ≤ b - a → h8.1 400 23 = nI (rs.map (fun r => (r.1, r.2, l + 1)) ++ st).length → md_st (rs.map (fun r => (r.1, r.2, l + 1)) ++ st) h8 → tv_ag (fun q i => (420 ≤ q ∧ q ≤ 422 ∧ st.length ≤ i) ∨ (q = 400 ∧ i = 23)) h7 h8 → tv_Wp ad RX3 cX3_layNode 8 none (d + 2) (tv_pV K) 113 [(0, .ref (ad 400)), (1, .int (nI m)), (2, .int (nI a)), (4, .int (nI l)), (6, .int (nI en))] [] h8 := by
        intro n
        induction n with
        | zero =>
          intro en h8 rs h1 h2 h3 hR hne hlen hpl8 hst8 ag8
          have : en = a := by omega
          subst this
          refine bX3_layNode_113 _ _ _ _ h8 (pk_le en en (fun _ => ?_) (fun z => absurd z (by omega)))
          rw [sp_runs_eq h3 hR] at hK
          refine hK h8 ?_ ?_ hpl8 hst8 (ag.tr (ag8.mo (fun q i z => by omega)))
          · rw [ag8.2 _ _ (by omega)]; exact c7
          · rw [ag8.2 _ _ (by omega), ag8.2 _ _ (by omega), ag8.2 _ _ (by omega), ag8.2 _ _ (by omega), ag8.2 _ _ (by omega)]; exact n7
        | succ n ih =>
          intro en h8 rs h1 h2 h3 hR hne hlen hpl8 hst8 ag8
          refine bX3_layNode_113 _ _ _ _ h8 (pk_le en a (fun z => ?_) (fun z => ?_))
          · have : en = a := by omega
            subst this
            rw [sp_runs_eq h3 hR] at hK
            refine hK h8 ?_ ?_ hpl8 hst8 (ag.tr (ag8.mo (fun q i z => by omega)))
            · rw [ag8.2 _ _ (by omega)]; exact c7
            · rw [ag8.2 _ _ (by omega), ag8.2 _ _ (by omega), ag8.2 _ _ (by omega), ag8.2 _ _ (by omega), ag8.2 _ _ (by omega)]; exact n7
          · have agT := ag.tr (ag8.mo (P' := fun q i => (q = 413 ∧ i = m) ∨ (414 ≤ q ∧ q ≤ 419 ∧ i = 96 * m + c) ∨ (420 ≤ q ∧ q ≤ 422 ∧ st.length ≤ i) ∨ (q = 400 ∧ i = 23)) (fun q i z => by omega))
            have s8 : md_sc f w h8 := s.ag agT (by omega) (by omega)
            have e8 : md_E m E h8 := e.cg hb.1 (fun q i r => agT.2 q i (by unfold md_rE at r; omega))
            have L : ∀ k be, be = a + k → be < en → (∀ i, be ≤ i → i < en → pp i = pp be) → tv_Wp ad RX3 cX3_layNode 8 none (d + 2) (tv_pV K) 125 [(0, .ref (ad 400)), (1, .int (nI m)), (2, .int (nI a)), (4, .int (nI l)), (6, .int (nI en)), (7, .int (nI be))] [] h8 := by
              have push : ∀ be, a ≤ be → be < en → (∀ i, be ≤ i → i < en → pp i = pp be) → (a < be → pp (be - 1) ≠ pp be) → tv_CV ad (d + 2) yX3_pile [.ref (ad 400), .int (nI be), .int (nI en), .int (nI l + 1)] h8 (fun h1 => tv_Wp ad RX3 cX3_layNode 8 none (d + 2) (tv_pV K) 113 [(0, .ref (ad 400)), (1, .int (nI m)), (2, .int (nI a)), (4, .int (nI l)), (6, .int (nI be))] [] h1) := by
                intro be b1 b2 b3 b4
                rw [nI_1]
                have hlen2 : (rs.map (fun r => (r.1, r.2, l + 1)) ++ st).length = rs.length + st.length := by simp
                refine md_pile (st := rs.map (fun r => (r.1, r.2, l + 1)) ++ st) hpl8 hst8 (by omega) (fun h9 k1 k2 k3 => ?_)
                refine ih be h9 ((be, en) :: rs) (by omega) b1 (by omega) ⟨rfl, b2, h3, b3, fun z9 => ?_, hR⟩ (fun z1 z2 => b4 z1) (by simp only [List.length_cons]; omega) ?_ k2 ?_
                · intro q9
                  have := hne (by omega) z9
                  rw [b3 (en - 1) (by omega) (by omega)] at this
                  exact this q9.symm
                · rw [k1]; simp
                · refine ag8.tr (k3.mo (fun q i z => ?_))
                  rw [hlen2] at z
                  omega
              intro k
              induction k with
              | zero =>
                intro be hbe hlt hcon
                refine bX3_layNode_125 _ _ _ _ _ h8 (pk_le be a (fun _ => push be (by omega) hlt hcon (fun z => absurd z (by omega))) (fun z => absurd z (by omega)))
              | succ k ihk =>
                intro be hbe hlt hcon
                refine bX3_layNode_125 _ _ _ _ _ h8 (pk_le be a (fun z => absurd z (by omega)) (fun _ => ?_))
                rw [show be = (be - 1) + 1 by omega, show nI (be - 1 + 1) - 1 = nI (be - 1) from nI_pred _, show en = (en - 1) + 1 by omega, show nI (en - 1 + 1) - 1 = nI (en - 1) from nI_pred _, show be - 1 + 1 = be by omega, show en - 1 + 1 = en by omega]
                refine md_partAt hm s8 e8 hb (by omega) hl6 (md_partAt hm s8 e8 hb (by omega) hl6 ?_)
                have q1 := hpl (be - 1)
                have q2 := hpl (en - 1)
                have hpe : ∀ i, sp_part (sp_g f w E i) l = pp i := fun i => by rw [← hpp]
                refine tv_ne (sp_part (sp_g f w E (be - 1)) l) (sp_part (sp_g f w E (en - 1)) l) (fun z => ?_) (fun z => ?_)
                · rw [hpe, hpe, hcon (en - 1) (by omega) (by omega)] at z
                  exact push be (by omega) hlt hcon (fun _ => z)
                · rw [hpe, hpe, hcon (en - 1) (by omega) (by omega)] at z
                  rw [show be = (be - 1) + 1 by omega, pk_m1]
                  refine ihk (be - 1) (by omega) (by omega) (fun i i1 i2 => ?_)
                  by_cases t : i = be - 1
                  · rw [t]
                  · rw [hcon i (by omega) i2]; exact z.symm
            rw [show en = (en - 1) + 1 by omega, show nI (en - 1 + 1) - 1 = nI (en - 1) from nI_pred _, show en - 1 + 1 = en by omega]
            exact L (en - 1 - a) (en - 1) (by omega) (by omega) (fun i i1 i2 => by rw [show i = en - 1 by omega])
      exact H b b h7 [] (Nat.le_refl _) (Nat.le_of_lt hab) (Nat.le_refl _) rfl (fun _ z => absurd z (by omega)) (by simp) p7 s7 tv_ag.rf
  refine nX3_layNode _ _ _ _ h ?_
  rw [tv_nc m, hc, tv_96, pk_sub (Nat.le_of_lt hab)]
  refine ⟨pk_in m 22 hm, ?_⟩
  refine tv_ne (b - a) 1 (fun z => ?_) (fun z => ?_)
  · refine md_isOneHash hm s e hb hab hbn ?_
    by_cases ho : sp_one (sp_g f w E) a b
    · rw [if_pos ho]
      have hk : sp_kd (sp_g f w E) a b = 1 := by unfold sp_kd; rw [if_pos ho, if_neg (by omega)]
      rw [hk] at T
      exact ⟨fun q => absurd q (by decide), fun _ => T⟩
    · rw [if_neg ho]
      have hk : sp_kd (sp_g f w E) a b = 2 := by unfold sp_kd; rw [if_neg ho]
      rw [hk] at T
      exact ⟨fun _ => T, fun q => absurd rfl q⟩
  · have hk : sp_kd (sp_g f w E) a b = 0 := by
      unfold sp_kd
      rw [if_pos (fun i h1 h2 => by rw [show i = a by omega]), if_pos (by omega)]
    rw [hk] at T
    exact T
end MDC
