/-! THE COMPONENT: the page -/
/-- what the page holds along a scan -/
def ct_C (D : List (Nat × Nat)) (k : Nat) (v : Bool) (h : tv_AH) : Prop := h.1 2 3 = nI D.length ∧ (∀ i, i < D.length → h.1 4 i = nI (sp_k D i) ∧ h.1 5 i = nI (sp_v D i)) ∧ (v = true → h.1 4 D.length = nI k)
def ct_rP (q i : Nat) : Prop := (q = 2 ∧ (i = 2 ∨ i = 3)) ∨ q = 4 ∨ q = 5
def ct_pg (pg : List Nat) (h : tv_AH) : Prop := h.1 2 1 = nI pg.length ∧ ∀ i, i < pg.length → h.1 3 i = nI (pg.getD i 0)
/-- what a scan has found -/
def ct_mp (pg : List Nat) (h : tv_AH) : Prop := match sp_map pg with
  | some L => h.1 2 2 = 1 ∧ h.1 2 3 = nI L.length ∧ ∀ i, i < L.length → h.1 4 i = nI (sp_k L i) ∧ h.1 5 i = nI (sp_v L i)
  | none => h.1 2 2 = 0
section CTM
variable {ad : Nat → Nat} {d : Nat} {h : tv_AH} {pg : List Nat}
theorem ct_grown {o : Option Nat} {x m : Nat} (hx : x ≤ 9) (ho : ∀ n, o = some n → n ≤ 4095) (hm : m ≤ 4095) {K : Int32 → tv_AH → Prop} (h0 : o = none → K (nI x) h) (h1 : ∀ n, o = some n → (n ≠ 0 ∧ 10 * n + x ≤ m) → K (nI (10 * n + x)) h) (h2 : ∀ n, o = some n → ¬ (n ≠ 0 ∧ 10 * n + x ≤ m) → K (-2) h) : tv_CI ad (d + 1) yX0_grown [.int (sp_on o), .int (nI x), .int (nI m)] h K := by
  refine nX0_grown _ _ _ h ?_
  cases o with
  | none => exact ⟨fun z => absurd rfl z, fun _ => h0 rfl⟩
  | some n =>
    have hn := ho n rfl
    refine ⟨fun _ => ?_, fun z => absurd z (tv_m1 (by omega))⟩
    show (nI n = 0 → _) ∧ (¬ nI n = 0 → (nI n * 10 + nI x ≤ nI m → K (nI n * 10 + nI x) h) ∧ (¬ nI n * 10 + nI x ≤ nI m → _))
    rw [show nI n * 10 + nI x = nI (10 * n + x) from by rw [show (10 : Int32) = nI 10 from rfl, pk_mul, nI_add, Nat.mul_comm]]
    refine ⟨fun z => ?_, fun z => ?_⟩
    · have := (nI_eq (b := 0) (by omega) (by omega)).mp z
      exact h2 n rfl (fun y => y.1 this)
    · have hn0 : n ≠ 0 := fun y => z (by rw [y]; rfl)
      exact pk_le (10 * n + x) m (fun q => h1 n rfl ⟨hn0, q⟩) (fun q => h2 n rfl (fun y => by omega))
theorem ct_pg.ag {P : Nat → Nat → Prop} {h' : tv_AH} (p : ct_pg pg h) (a : tv_ag P h h') (n1 : ¬ P 2 1) (n2 : ∀ i, ¬ P 3 i) : ct_pg pg h' := ⟨by rw [a.2 _ _ n1]; exact p.1, fun i hi => by rw [a.2 _ _ (n2 i)]; exact p.2 i hi⟩
theorem ct_keepK {D : List (Nat × Nat)} {k n : Nat} {v : Bool} (c : ct_C D k v h) (hl : D.length < 60) {K : tv_AH → Prop} (hK : ∀ h', ct_C D n true h' → tv_ag (fun q _ => q = 4) h h' → K h') : tv_CV ad (d + 1) yX0_keep [.ref (ad 2), .int 1, .int (nI n)] h K := by
  refine nX0_keep _ _ h ?_
  rw [c.1, tv_nc D.length]
  refine pk_lt D.length 60 (fun _ => ⟨fun z => absurd z (by decide), fun _ => ⟨pk_in D.length 60 hl, fun h3 w3 => ?_⟩⟩) (fun q => absurd q (by omega))
  have ag : tv_ag (fun q _ => q = 4) h h3 := by rw [w3]; exact tv_ag.rf.wI rfl
  refine hK h3 ⟨by rw [ag.2 _ _ (by omega)]; exact c.1, fun i hi => ?_, fun _ => by rw [w3, tv_wIe]⟩ ag
  rw [w3, tv_wIc (by omega), tv_wIc (by omega)]
  exact c.2.1 i hi
theorem ct_keepV {D : List (Nat × Nat)} {k n k' : Nat} {v : Bool} (c : ct_C D k true h) (hl : D.length < 60) {K : tv_AH → Prop} (hK : ∀ h', ct_C (D ++ [(k, n)]) k' false h' → tv_ag (fun q i => q = 5 ∨ (q = 2 ∧ i = 3)) h h' → K h') : tv_CV ad (d + 1) yX0_keep [.ref (ad 2), .int 0, .int (nI n)] h K := by
  refine nX0_keep _ _ h ?_
  rw [c.1, tv_nc D.length]
  refine pk_lt D.length 60 (fun _ => ⟨fun _ => ⟨pk_in D.length 60 hl, fun h3 w3 h4 w4 => ?_⟩, fun z => absurd rfl z⟩) (fun q => absurd q (by omega))
  have e3 : h3.1 2 3 = nI D.length := by rw [w3, tv_wIc (by omega)]; exact c.1
  rw [e3, nI_1] at w4
  have ag : tv_ag (fun q i => q = 5 ∨ (q = 2 ∧ i = 3)) h h4 := by rw [w4, w3]; exact (tv_ag.rf.wI (Or.inl rfl)).wI (Or.inr ⟨rfl, rfl⟩)
  have hk : ∀ i, sp_k (D ++ [(k, n)]) i = if i < D.length then sp_k D i else if i = D.length then k else 0 := fun i => by
    unfold sp_k
    simp only [List.getD_eq_getElem?_getD, List.getElem?_append]
    by_cases c1 : i < D.length
    · simp [c1]
    · by_cases c2 : i = D.length
      · subst c2; simp
      · have : i - D.length = (i - D.length - 1) + 1 := by omega
        simp only [c1, c2, if_false]
        rw [this]
        simp
  have hv : ∀ i, sp_v (D ++ [(k, n)]) i = if i < D.length then sp_v D i else if i = D.length then n else 0 := fun i => by
    unfold sp_v
    simp only [List.getD_eq_getElem?_getD, List.getElem?_append]
    by_cases c1 : i < D.length
    · simp [c1]
    · by_cases c2 : i = D.length
      · subst c2; simp
      · have : i - D.length = (i - D.length - 1) + 1 := by omega
        simp only [c1, c2, if_false]
        rw [this]
        simp
  refine hK h4 ⟨by rw [w4, tv_wIe, List.length_append]; rfl, fun i hi => ?_, fun z => by cases z⟩ ag
  rw [List.length_append, List.length_singleton] at hi
  rw [hk, hv, w4, tv_wIc (by omega), tv_wIc (by omega), w3]
  by_cases z : i < D.length
  · rw [if_pos z, if_pos z, tv_wIc (by omega), tv_wIc (by omega)]
    exact c.2.1 i z
  · have e : i = D.length := by omega
    subst e
    rw [if_neg z, if_neg z, if_pos rfl, if_pos rfl, tv_wIc (by omega), tv_wIe]
    exact ⟨c.2.2 rfl, rfl⟩
theorem ct_scan (hl : pg.length ≤ 60) (hc : ∀ i, i < pg.length → 32 ≤ pg.getD i 0 ∧ pg.getD i 0 ≤ 126) (p : ct_pg pg h) {K : Int32 → tv_AH → Prop} (hK : ∀ h', ct_mp pg h' → tv_ag ct_rP h h' → K (nI (sp_along pg sp_c0 0).1) h') : tv_CI ad (d + 2) yX0_scan [.ref (ad 2)] h K := by
  refine nX0_scan h (fun h1 w1 h2 w2 => ?_)
  have a2 : tv_ag ct_rP h h2 := by
    rw [w2, w1]
    exact (tv_ag.rf.wI (Or.inl ⟨rfl, Or.inr rfl⟩)).wI (Or.inl ⟨rfl, Or.inl rfl⟩)
  have mono : ∀ {q i : Nat}, (q = 4 ∨ q = 5 ∨ (q = 2 ∧ i = 3)) → ct_rP q i := fun z => by unfold ct_rP; omega
  have H : ∀ t i (D : List (Nat × Nat)) (k : Nat) (v : Bool) (o : Option Nat) (h4 : tv_AH), i + t = pg.length → sp_along (pg.drop i) (D, k, v, o) i = sp_along pg sp_c0 0 → sp_cb (D, k, v, o) i → ct_C D k v h4 → h4.1 2 2 = 0 → tv_ag ct_rP h h4 → tv_Wp ad RX0 cX0_scan 5 (some .int) (d + 1) (tv_pI K) 16 [(0, .ref (ad 2)), (1, .int (if v then 0 else 1)), (2, .int (sp_on o)), (3, .int (nI i))] [] h4 := by
    intro t
    induction t with
    | zero =>
      intro i D k v o h4 hi he b m z4 a
      have p4 := p.ag a (by unfold ct_rP; omega) (fun i => by unfold ct_rP; omega)
      refine bX0_scan_16 _ _ _ h4 ?_
      rw [p4.1]
      have hd : pg.drop i = [] := List.drop_eq_nil_of_le (by omega)
      rw [hd] at he
      have e1 : sp_along pg sp_c0 0 = (i, (D, k, v, o)) := he.symm
      have b1 := b.1
      simp only at b1
      rw [e1] at hK
      refine pk_le pg.length i (fun _ => ?_) (fun q => absurd q (by omega))
      -- not a map, or the empty one
      have no : sp_map pg = none → pg.length ≠ 0 → tv_Wp ad RX0 cX0_scan 5 (some .int) (d + 1) (tv_pI K) 147 [(0, .ref (ad 2))] [] h4 := by
        intro hm hne
        refine bX0_scan_147 h4 ?_
        rw [z4, p4.1]
        refine ⟨fun y => absurd rfl y, fun _ => ⟨fun _ h5 w5 => ?_, fun y => ?_⟩⟩
        · have e5 : h5.1 2 1 = nI pg.length := by rw [w5, tv_wIc (by omega)]; exact p4.1
          rw [e5, show pg.length = i by omega]
          refine hK h5 ?_ (by rw [w5]; exact a.wI (Or.inl ⟨rfl, Or.inl rfl⟩))
          unfold ct_mp
          rw [hm]
          simp only
          rw [w5, tv_wIe]
        · exact absurd ((nI_eq (b := 0) (by omega) (by omega)).mp y) hne
      cases v with
      | false =>
        refine ⟨fun _ => ?_, fun y => absurd y (by decide)⟩
        by_cases hne : pg = []
        · refine bX0_scan_147 h4 ?_
          have e0 : pg.length = 0 := by rw [hne]; rfl
          rw [z4, p4.1, e0]
          refine ⟨fun y => absurd rfl y, fun _ => ⟨fun y => absurd rfl y, fun _ h5 w5 => ?_⟩⟩
          have e5 : h5.1 2 1 = nI pg.length := by rw [w5, tv_wIc (by omega)]; exact p4.1
          rw [e5, show pg.length = i by omega]
          refine hK h5 ?_ (by rw [w5]; exact a.wI (Or.inl ⟨rfl, Or.inl rfl⟩))
          have em : sp_map pg = some [] := by unfold sp_map; rw [if_pos hne]
          have eD : D.length = 0 := by omega
          unfold ct_mp
          rw [em]
          simp only
          refine ⟨by rw [w5, tv_wIe], ?_, fun i hi => absurd hi (by simp)⟩
          rw [w5, tv_wIc (by omega), m.1, eD]
          rfl
        · refine no ?_ (fun y => hne (List.length_eq_zero_iff.mp y))
          unfold sp_map
          rw [if_neg hne, e1, if_neg]
          intro y
          exact absurd y.2 (by simp)
      | true =>
        simp only [if_true] at b1
        have hne : pg ≠ [] := fun y => by rw [y] at hi; simp only [List.length_nil] at hi; omega
        refine ⟨fun y => absurd rfl y, fun _ => ?_⟩
        cases o with
        | none =>
          refine ⟨fun _ => ?_, fun y => absurd rfl y⟩
          refine no ?_ (fun y => hne (List.length_eq_zero_iff.mp y))
          unfold sp_map
          rw [if_neg hne, e1]
          simp
        | some n =>
          have hn := b.2.2.1 n rfl
          simp only [if_true] at hn
          refine ⟨fun y => absurd y (tv_m1 (by omega)), fun _ => ?_⟩
          refine ct_keepV (k' := 0) (v := false) m (by omega) (fun h5 m5 a5 h6 w6 => ?_)
          have a6 : tv_ag ct_rP h h6 := by
            rw [w6]
            exact (a.tr (a5.mo (fun q i z => mono (by omega)))).wI (Or.inl ⟨rfl, Or.inl rfl⟩)
          refine bX0_scan_147 h6 ?_
          refine ⟨fun _ h7 w7 => ?_, fun y => ?_⟩
          · have e7 : h7.1 2 1 = nI pg.length := by
              rw [w7, tv_wIc (by omega), a6.2 _ _ (by unfold ct_rP; omega)]; exact p.1
            rw [e7, show pg.length = i by omega]
            refine hK h7 ?_ (by rw [w7]; exact a6.wI (Or.inl ⟨rfl, Or.inl rfl⟩))
            have em : sp_map pg = some (D ++ [(k, n)]) := by
              unfold sp_map
              rw [if_neg hne, e1]
              simp only
              rw [if_pos ⟨by omega, trivial⟩]
            unfold ct_mp
            rw [em]
            simp only
            refine ⟨by rw [w7, tv_wIe], ?_, fun i hi => ?_⟩
            · rw [w7, tv_wIc (by omega), w6, tv_wIc (by omega)]; exact m5.1
            · rw [w7, tv_wIc (by omega), tv_wIc (by omega), w6, tv_wIc (by omega), tv_wIc (by omega)]; exact m5.2.1 i hi
          · rw [w6, tv_wIe] at y
            exact absurd y (by decide)
    | succ t ih =>
      intro i D k v o h4 hi he b m z4 a
      have p4 := p.ag a (by unfold ct_rP; omega) (fun i => by unfold ct_rP; omega)
      have hil : i < pg.length := by omega
      have hci := hc i hil
      have hDl : D.length < 60 := by have b1 := b.1; simp only at b1; omega
      refine bX0_scan_16 _ _ _ h4 ?_
      rw [p4.1, tv_nc i, p4.2 i hil]
      have hdr : pg.drop i = pg.getD i 0 :: pg.drop (i + 1) := by
        rw [List.drop_eq_getElem_cons hil]
        congr 1
        simp [List.getD_eq_getElem?_getD, hil]
      rw [hdr] at he
      have hne : pg ≠ [] := fun y => by rw [y] at hil; simp only [List.length_nil] at hil; omega
      generalize pg.getD i 0 = x at he hci
      -- a wrong character
      have bad : sp_take (D, k, v, o) x = none → K (nI i) h4 := by
        intro ts
        rw [sp_along_n ts] at he
        rw [← he] at hK
        refine hK h4 ?_ a
        have em : sp_map pg = none := by
          unfold sp_map
          rw [if_neg hne, ← he, if_neg]
          intro y
          have := y.1
          simp only at this
          omega
        unfold ct_mp
        rw [em]
        exact z4
      have good : ∀ (D' : List (Nat × Nat)) (k' : Nat) (v' : Bool) (o' : Option Nat) (h5 : tv_AH), sp_take (D, k, v, o) x = some (D', k', v', o') → ct_C D' k' v' h5 → h5.1 2 2 = 0 → tv_ag ct_rP h h5 → tv_Wp ad RX0 cX0_scan 5 (some .int) (d + 1) (tv_pI K) 121 [(0, .ref (ad 2)), (1, .int (if v' then 0 else 1)), (2, .int (sp_on o')), (3, .int (nI i))] [] h5 := by
        intro D' k' v' o' h5 ts m5 z5 a5
        refine bX0_scan_121 _ _ _ h5 ?_
        rw [nI_1]
        refine ih (i + 1) D' k' v' o' h5 (by omega) ?_ (sp_cb_take b ts) m5 z5 a5
        rw [sp_along_s ts] at he
        exact he
      have oth : ¬ (48 ≤ x ∧ x ≤ 57) → tv_Wp ad RX0 cX0_scan 5 (some .int) (d + 1) (tv_pI K) 77 [(0, .ref (ad 2)), (1, .int (if v then 0 else 1)), (2, .int (sp_on o)), (3, .int (nI i)), (4, .int (nI x))] [] h4 := by
        intro hd
        refine bX0_scan_77 _ _ _ _ h4 ?_
        cases o with
        | none => exact ⟨fun _ => bad (sp_take_o0 hd), fun y => absurd rfl y⟩
        | some n =>
          have hn : n ≤ 4095 := by
            have := b.2.2.1 n rfl
            simp only at this
            split at this <;> omega
          refine ⟨fun y => absurd y (tv_m1 (by omega)), fun _ => ?_⟩
          cases v with
          | true =>
            refine ⟨fun _ => tv_ne x 59 (fun q => bad (by rw [sp_take_ot hd, if_neg q])) (fun q => ?_), fun y => absurd rfl y⟩
            refine ct_keepV (k' := k) (v := false) m hDl (fun h5 m5 a5 => ⟨fun y => absurd rfl y, fun _ => ?_⟩)
            exact good (D ++ [(k, n)]) k false none h5 (by rw [sp_take_ot hd, if_pos q]) m5 (by rw [a5.2 _ _ (by omega)]; exact z4) (a.tr (a5.mo (fun q i z => mono (by omega))))
          | false =>
            refine ⟨fun y => absurd y (by decide), fun _ => tv_ne x 61 (fun q => bad (by rw [sp_take_of hd, if_neg q])) (fun q => ?_)⟩
            refine ct_keepK m hDl (fun h5 m5 a5 => ⟨fun _ => ?_, fun y => absurd y (by decide)⟩)
            exact good D n true none h5 (by rw [sp_take_of hd, if_pos q]) m5 (by rw [a5.2 _ _ (by omega)]; exact z4) (a.tr (a5.mo (fun q i z => mono (Or.inl z))))
      refine pk_le pg.length i (fun q => absurd q (by omega)) (fun q => ⟨pk_in i 60 (by omega), ?_⟩)
      refine pk_lt x 48 (fun q => oth (by omega)) (fun q1 => pk_lt 57 x (fun q => oth (by omega)) (fun q2 => ?_))
      have hd : 48 ≤ x ∧ x ≤ 57 := ⟨q1, q2⟩
      rw [show nI x - 48 = nI (x - 48) from pk_sub q1]
      have hob : ∀ n, o = some n → n ≤ 4095 := fun n hn => by
        have := b.2.2.1 n hn
        simp only at this
        split at this <;> omega
      have nm2 : ∀ n, n ≤ 50000 → ¬ nI n = -2 := fun n hn z => by
        have := congrArg Int32.toInt z
        rw [nI_toInt (by omega)] at this
        have h2 : (-2 : Int32).toInt = -2 := by decide
        omega
      cases v with
      | true =>
        refine ⟨fun _ => ?_, fun y => absurd rfl y⟩
        refine ct_grown (m := 999) (by omega) hob (by omega) (fun ho => ?_) (fun n ho hg => ?_) (fun n ho hg => ?_)
        · subst ho
          exact ⟨fun _ => good D k true (some (x - 48)) h4 (sp_take_d0 hd) m z4 a, fun y => absurd y (nm2 _ (by omega))⟩
        · subst ho
          exact ⟨fun _ => good D k true (some (10 * n + (x - 48))) h4 (by rw [sp_take_d1 hd]; exact if_pos hg) m z4 a, fun y => absurd y (nm2 _ (by omega))⟩
        · subst ho
          exact ⟨fun y => absurd rfl y, fun _ => bad (by rw [sp_take_d1 hd]; exact if_neg hg)⟩
      | false =>
        refine ⟨fun y => absurd y (by decide), fun _ => ?_⟩
        refine ct_grown (m := 4095) (by omega) hob (by omega) (fun ho => ?_) (fun n ho hg => ?_) (fun n ho hg => ?_)
        · subst ho
          exact ⟨fun _ => good D k false (some (x - 48)) h4 (sp_take_d0 hd) m z4 a, fun y => absurd y (nm2 _ (by omega))⟩
        · subst ho
          exact ⟨fun _ => good D k false (some (10 * n + (x - 48))) h4 (by rw [sp_take_d1 hd]; exact if_pos hg) m z4 a, fun y => absurd y (nm2 _ (by omega))⟩
        · subst ho
          exact ⟨fun y => absurd rfl y, fun _ => bad (by rw [sp_take_d1 hd]; exact if_neg hg)⟩
  refine H pg.length 0 [] 0 false none h2 (by omega) rfl ⟨by decide, by decide, (fun n hn => by cases hn), fun e he => absurd he List.not_mem_nil⟩ ⟨?_, fun i hi => absurd hi (by simp), fun z => by cases z⟩ ?_ a2
  · rw [w2, tv_wIc (by omega), w1, tv_wIe]; rfl
  · rw [w2, tv_wIe]
end CTM
