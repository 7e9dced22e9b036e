/-! THE REFERENCE: along the page -/
def sp_on (o : Option Nat) : Int32 := match o with
  | some n => nI n
  | none => -1
def md_C (s : sp_C) (h : tv_AH) : Prop := h.1 400 24 = nI s.1.length ∧ (∀ i, i < s.1.length → h.1 425 i = nI (sp_k s.1 i) ∧ h.1 426 i = nI (sp_v s.1 i)) ∧ (s.2.2.1 = true → h.1 425 s.1.length = nI s.2.1) ∧ h.1 400 27 = (if s.2.2.1 then 1 else 0) ∧ h.1 400 28 = sp_on s.2.2.2
/-- bounds along the page, behind i characters -/
def sp_cb (s : sp_C) (i : Nat) : Prop := 4 * s.1.length + (if s.2.2.1 then 2 else 0) + (if s.2.2.2.isSome then 1 else 0) ≤ i ∧ s.2.1 < 4096 ∧ (∀ n, s.2.2.2 = some n → n ≤ (if s.2.2.1 then 999 else 4095)) ∧ ∀ e ∈ s.1, e.1 < 4096 ∧ e.2 < 1000
def md_rC (q i : Nat) : Prop := (q = 400 ∧ (i = 24 ∨ i = 27 ∨ i = 28)) ∨ q = 425 ∨ q = 426
theorem sp_take_d0 {D : List (Nat × Nat)} {k c : Nat} {v : Bool} (hd : 48 ≤ c ∧ c ≤ 57) : sp_take (D, k, v, none) c = some (D, k, v, some (c - 48)) := by
  unfold sp_take
  rw [if_pos hd]
theorem sp_take_d1 {D : List (Nat × Nat)} {k c n : Nat} {v : Bool} (hd : 48 ≤ c ∧ c ≤ 57) : sp_take (D, k, v, some n) c = if n ≠ 0 ∧ 10 * n + (c - 48) ≤ (if v then 999 else 4095) then some (D, k, v, some (10 * n + (c - 48))) else none := by
  unfold sp_take
  rw [if_pos hd]
theorem sp_take_o0 {D : List (Nat × Nat)} {k c : Nat} {v : Bool} (hd : ¬ (48 ≤ c ∧ c ≤ 57)) : sp_take (D, k, v, none) c = none := by
  unfold sp_take
  rw [if_neg hd]
theorem sp_take_ot {D : List (Nat × Nat)} {k c n : Nat} (hd : ¬ (48 ≤ c ∧ c ≤ 57)) : sp_take (D, k, true, some n) c = if c = 59 then some (D ++ [(k, n)], k, false, none) else none := by
  unfold sp_take
  rw [if_neg hd]
  rfl
theorem sp_take_of {D : List (Nat × Nat)} {k c n : Nat} (hd : ¬ (48 ≤ c ∧ c ≤ 57)) : sp_take (D, k, false, some n) c = if c = 61 then some (D, n, true, none) else none := by
  unfold sp_take
  rw [if_neg hd]
  rfl
theorem sp_cb_take {s s' : sp_C} {i c : Nat} (b : sp_cb s i) (h : sp_take s c = some s') : sp_cb s' (i + 1) := by
  obtain ⟨D, k, v, n⟩ := s
  obtain ⟨b1, b2, b3, b4⟩ := b
  simp only at b1 b2 b3 b4
  by_cases hd : 48 ≤ c ∧ c ≤ 57
  · cases n with
    | none =>
      rw [sp_take_d0 hd] at h
      cases h
      refine ⟨by simp only [Option.isSome_some, if_true]; simp only [Option.isSome_none, Bool.false_eq_true, if_false] at b1; omega, b2, fun m hm => ?_, b4⟩
      cases hm
      simp only
      split <;> omega
    | some m =>
      rw [sp_take_d1 hd] at h
      by_cases hc : m ≠ 0 ∧ 10 * m + (c - 48) ≤ (if v then 999 else 4095)
      · rw [if_pos hc] at h
        cases h
        refine ⟨by simp only [Option.isSome_some, if_true] at b1 ⊢; omega, b2, fun m' hm => ?_, b4⟩
        cases hm
        exact hc.2
      · rw [if_neg hc] at h
        cases h
  · cases n with
    | none =>
      rw [sp_take_o0 hd] at h
      cases h
    | some m =>
      have hm := b3 m rfl
      cases v with
      | true =>
        rw [sp_take_ot hd] at h
        by_cases hc : c = 59
        · rw [if_pos hc] at h
          cases h
          simp only [if_true] at hm
          refine ⟨by simp only [List.length_append, List.length_singleton, Option.isSome_none, Bool.false_eq_true, if_false]; simp only [if_true, Option.isSome_some] at b1; omega, b2, (fun m' hm' => by cases hm'), fun e he => ?_⟩
          rcases List.mem_append.mp he with z | z
          · exact b4 e z
          · rw [List.mem_singleton] at z
            subst z
            exact ⟨b2, by simp only; omega⟩
        · rw [if_neg hc] at h
          cases h
      | false =>
        rw [sp_take_of hd] at h
        by_cases hc : c = 61
        · rw [if_pos hc] at h
          cases h
          simp only [Bool.false_eq_true, if_false] at hm
          refine ⟨by simp only [if_true, Option.isSome_none, Bool.false_eq_true, if_false]; simp only [Bool.false_eq_true, if_false, Option.isSome_some, if_true] at b1; omega, by simp only; omega, (fun m' hm' => by cases hm'), b4⟩
        · rw [if_neg hc] at h
          cases h
section MEA
variable {ad : Nat → Nat} {d c : Nat} {h : tv_AH} {S : sp_S}
theorem md_C.ag {s : sp_C} {h' : tv_AH} {P : Nat → Nat → Prop} (k : md_C s h) (a : tv_ag P h h') (n : ∀ q i, md_rC q i → ¬ P q i) : md_C s h' := by
  obtain ⟨k1, k2, k3, k4, k5⟩ := k
  refine ⟨?_, fun i hi => ?_, fun z => ?_, ?_, ?_⟩
  · rw [a.2 _ _ (n _ _ (Or.inl ⟨rfl, Or.inl rfl⟩))]; exact k1
  · rw [a.2 _ _ (n _ _ (Or.inr (Or.inl rfl))), a.2 _ _ (n _ _ (Or.inr (Or.inr rfl)))]; exact k2 i hi
  · rw [a.2 _ _ (n _ _ (Or.inr (Or.inl rfl)))]; exact k3 z
  · rw [a.2 _ _ (n _ _ (Or.inl ⟨rfl, Or.inr (Or.inl rfl)⟩))]; exact k4
  · rw [a.2 _ _ (n _ _ (Or.inl ⟨rfl, Or.inr (Or.inr rfl)⟩))]; exact k5
theorem md_keepEntry {s : sp_C} {n : Nat} (k : md_C s h) (hl : s.1.length < 24) (hn : s.2.2.2 = some n) (hv : s.2.2.1 = true) {K : tv_AH → Prop} (hK : ∀ h', h'.1 400 24 = nI (s.1.length + 1) → (∀ i, i < (s.1 ++ [(s.2.1, n)]).length → h'.1 425 i = nI (sp_k (s.1 ++ [(s.2.1, n)]) i) ∧ h'.1 426 i = nI (sp_v (s.1 ++ [(s.2.1, n)]) i)) → tv_ag md_rC h h' → h'.1 400 27 = h.1 400 27 → K h') : tv_CV ad (d + 1) yX3_keepEntry [.ref (ad 400)] h K := by
  obtain ⟨k1, k2, k3, k4, k5⟩ := k
  refine nX3_keepEntry h ?_
  rw [k1, tv_nc s.1.length, k5, hn]
  refine ⟨pk_in s.1.length 24 hl, fun h1 w1 h2 w2 => ?_⟩
  have e1 : h1.1 400 24 = nI s.1.length := by rw [w1, tv_wIc (by omega)]; exact k1
  rw [e1, nI_1] at w2
  have a2 : tv_ag md_rC h h2 := by rw [w2, w1]; exact (tv_ag.rf.wI (Or.inr (Or.inr rfl))).wI (Or.inl ⟨rfl, Or.inl rfl⟩)
  refine hK h2 (by rw [w2, tv_wIe]) (fun i hi => ?_) a2 (by rw [w2, tv_wIc (by omega), w1, tv_wIc (by omega)])
  rw [List.length_append, List.length_singleton] at hi
  have g : ∀ (B : List (Nat × Nat)), (s.1 ++ [(s.2.1, n)]).getD i (0, 0) = if i < s.1.length then s.1.getD i (0, 0) else (s.2.1, n) := by
    intro _
    simp only [List.getD_eq_getElem?_getD, List.getElem?_append]
    by_cases z : i < s.1.length
    · simp [z]
    · have : i = s.1.length := by omega
      subst this
      simp
  unfold sp_k sp_v
  rw [g []]
  by_cases z : i < s.1.length
  · rw [if_pos z, w2, tv_wIc (by omega), w1, tv_wIc (by omega), tv_wIc (by omega), tv_wIc (by omega)]
    exact k2 i z
  · have : i = s.1.length := by omega
    subst this
    rw [if_neg z, w2, tv_wIc (by omega), w1, tv_wIc (by omega), tv_wIc (by omega), tv_wIe]
    exact ⟨k3 hv, rfl⟩
theorem tv_idw {q i : Nat} : tv_wI h q i (h.1 q i) = h := by
  unfold tv_wI
  refine Prod.ext ?_ rfl
  funext a b
  simp only
  split
  · rename_i z; rw [z.1, z.2]
  · rfl
theorem md_takesFigure {s : sp_C} {x : Nat} (k : md_C s h) (hx : x ≤ 9) (hnb : ∀ n, s.2.2.2 = some n → n ≤ 4095) {K : Int32 → tv_AH → Prop} (h1 : ∀ s' h', sp_take s (x + 48) = some s' → md_C s' h' → tv_ag md_rC h h' → K 1 h') (h0 : sp_take s (x + 48) = none → K 0 h) : tv_CI ad (d + 1) yX3_takesFigure [.ref (ad 400), .int (nI x)] h K := by
  obtain ⟨D, ky, v, n⟩ := s
  obtain ⟨k1, k2, k3, k4, k5⟩ := id k
  simp only at k1 k2 k3 k4 k5 hnb
  have end1 : ∀ m, m < 2 ^ 31 → sp_take (D, ky, v, n) (x + 48) = some (D, ky, v, some m) → tv_Wp ad RX3 cX3_takesFigure 4 (some .boolean) d (tv_pI K) 54 [(0, .ref (ad 400)), (2, .int (nI m))] [.int 1] h := by
    intro m hm ht
    refine bX3_takesFigure_54 _ _ h (tv_c1 (fun h2 w2 => ⟨Or.inr rfl, ?_⟩))
    have a2 : tv_ag (fun q i => q = 400 ∧ i = 28) h h2 := by rw [w2]; exact tv_ag.rf.wI ⟨rfl, rfl⟩
    refine h1 _ h2 ht ⟨?_, fun i hi => ?_, fun z => ?_, ?_, ?_⟩ (a2.mo (fun q i z => Or.inl ⟨z.1, Or.inr (Or.inr z.2)⟩))
    · rw [a2.2 _ _ (by omega)]; exact k1
    · rw [a2.2 _ _ (by omega), a2.2 _ _ (by omega)]; exact k2 i hi
    · rw [a2.2 _ _ (by omega)]; exact k3 z
    · rw [a2.2 _ _ (by omega)]; exact k4
    · rw [w2, tv_wIe]; rfl
  have end0 : ∀ y : Int32, sp_take (D, ky, v, n) (x + 48) = none → tv_Wp ad RX3 cX3_takesFigure 4 (some .boolean) d (tv_pI K) 54 [(0, .ref (ad 400)), (2, .int y)] [.int 0] h := by
    intro y ht
    refine bX3_takesFigure_54 _ _ h (tv_c0 (fun h2 w2 => ⟨Or.inl rfl, ?_⟩))
    rw [w2, tv_idw]
    exact h0 ht
  refine nX3_takesFigure _ h ?_
  have mid : ∀ m, m < 2 ^ 31 → (n = none → m = x) → (∀ u, n = some u → m = 10 * u + x) → tv_Wp ad RX3 cX3_takesFigure 4 (some .boolean) d (tv_pI K) 21 [(0, .ref (ad 400))] [.int (nI m)] h := by
    intro m hm m1 m2
    refine bX3_takesFigure_21 _ h ?_
    rw [k4, k5]
    cases n with
    | none =>
      have := m1 rfl
      subst this
      have tk : sp_take (D, ky, v, none) (m + 48) = some (D, ky, v, some m) := by rw [sp_take_d0 (by omega), show m + 48 - 48 = m by omega]
      refine ⟨fun z => absurd z (by decide), fun _ => ?_⟩
      cases v with
      | true => exact tv_c1 (pk_lt 999 m (fun z => absurd z (by omega)) (fun _ => end1 m hm tk))
      | false => exact tv_c0 (pk_lt 4095 m (fun z => absurd z (by omega)) (fun _ => end1 m hm tk))
    | some u =>
      have hm2 := m2 u rfl
      have hu := hnb u rfl
      have tk := sp_take_d1 (D := D) (k := ky) (v := v) (n := u) (c := x + 48) (by omega)
      have e48 : x + 48 - 48 = x := by omega
      rw [e48] at tk
      refine pk_eq u 0 (fun z => end0 _ (by rw [tk, if_neg (fun y => y.1 z)])) (fun z => ?_)
      cases v with
      | true =>
        refine tv_c1 (pk_lt 999 m (fun y => end0 _ (by rw [tk, if_neg (fun q => by have := q.2; simp only [if_true] at this; omega)])) (fun y => end1 m hm ?_))
        rw [tk, if_pos ⟨z, by simp only [if_true]; omega⟩, hm2]
      | false =>
        refine tv_c0 (pk_lt 4095 m (fun y => end0 _ (by rw [tk, if_neg (fun q => by have := q.2; simp only [Bool.false_eq_true, if_false] at this; omega)])) (fun y => end1 m hm ?_))
        rw [tk, if_pos ⟨z, by simp only [Bool.false_eq_true, if_false]; omega⟩, hm2]
  rw [k5]
  cases n with
  | none => exact ⟨fun z => absurd rfl z, fun _ => mid x (by omega) (fun _ => rfl) (fun u z => by cases z)⟩
  | some u =>
    have hu := hnb u rfl
    refine ⟨fun _ => ?_, fun z => absurd z (tv_m1 (by omega))⟩
    show tv_Wp _ _ _ _ _ _ _ _ _ [.int (10 * nI u + nI x)] h
    rw [show (10 : Int32) = nI 10 from rfl, pk_mul, nI_add]
    exact mid (10 * u + x) (by omega) (fun z => by cases z) (fun w z => by cases z; rfl)
theorem md_takes {s : sp_C} {x i : Nat} (k : md_C s h) (b : sp_cb s i) (hi : i < 60) (hx : x ≤ 126) {K : Int32 → tv_AH → Prop} (h1 : ∀ s' h', sp_take s x = some s' → md_C s' h' → tv_ag md_rC h h' → K 1 h') (h0 : sp_take s x = none → K 0 h) : tv_CI ad (d + 2) yX3_takes [.ref (ad 400), .int (nI x)] h K := by
  have b1 := b.1
  have hnb : ∀ n, s.2.2.2 = some n → n ≤ 4095 := fun n hn => by
    have := b.2.2.1 n hn
    split at this <;> omega
  obtain ⟨k1, k2, k3, k4, k5⟩ := id k
  refine nX3_takes _ h (md_within ?_)
  have hiff : ((48 : Int32) ≤ nI x ∧ nI x ≤ 57) ↔ (48 ≤ x ∧ x ≤ 57) := by
    rw [show (48 : Int32) = nI 48 from rfl, show (57 : Int32) = nI 57 from rfl, nI_leI (by omega) (by omega), nI_leI (by omega) (by omega)]
  by_cases hd : 48 ≤ x ∧ x ≤ 57
  · rw [if_pos (hiff.mpr hd), show (48 : Int32) = nI 48 from rfl, pk_sub hd.1]
    refine tv_c1 (md_takesFigure k (by omega) hnb (fun s' h' t m a => ⟨Or.inr rfl, h1 s' h' ?_ m a⟩) (fun t => ⟨Or.inl rfl, h0 ?_⟩))
    · rw [show x - 48 + 48 = x by omega] at t; exact t
    · rw [show x - 48 + 48 = x by omega] at t; exact t
  · rw [if_neg (fun z => hd (hiff.mp z))]
    have no : sp_take s x = none → tv_Wp ad RX3 cX3_takes 3 (some .boolean) (d + 1) (tv_pI K) 51 [(0, .ref (ad 400))] [.int 0] h := fun t => bX3_takes_51 _ h (tv_c0 ⟨Or.inl rfl, h0 t⟩)
    have tk : ∀ v n, s.2.2.1 = v → s.2.2.2 = n → sp_take s x = sp_take (s.1, s.2.1, v, n) x := fun v n e1 e2 => by rw [← e1, ← e2]
    refine tv_c0 ?_
    rw [k5, k4]
    cases hn : s.2.2.2 with
    | none => exact ⟨fun _ => no ((tk _ _ rfl hn).trans (sp_take_o0 hd)), fun z => absurd rfl z⟩
    | some n =>
      have hnn := hnb n hn
      rw [hn] at b1
      simp only [Option.isSome_some, if_true] at b1
      refine ⟨fun z => absurd z (tv_m1 (by omega)), fun _ => ?_⟩
      cases hv : s.2.2.1 with
      | false =>
        have tk := (tk _ _ hv hn).trans (sp_take_of hd)
        rw [hv] at b1 k4
        simp only [Bool.false_eq_true, if_false] at b1 k4
        refine tv_c0 (tv_ne x 61 (fun z => no (by rw [tk, if_neg z])) (fun z => bX3_takes_51 _ h (tv_c1 ?_)))
        rw [if_pos z] at tk
        rw [k4, k1, tv_nc s.1.length, k5, hn]
        refine tv_c0 ⟨pk_in s.1.length 24 (by omega), fun h2 w2 => ?_⟩
        have e2 : h2.1 400 27 = 0 := by rw [w2, tv_wIc (by omega)]; exact k4
        rw [e2]
        refine tv_b0 (fun h4 w4 h5 w5 => ⟨Or.inr rfl, ?_⟩)
        have a5 : tv_ag (fun q i => (q = 425 ∧ i = s.1.length) ∨ (q = 400 ∧ (i = 27 ∨ i = 28))) h h5 := by
          rw [w5, w4, w2]
          exact ((tv_ag.rf.wI (Or.inl ⟨rfl, rfl⟩)).wI (Or.inr ⟨rfl, Or.inl rfl⟩)).wI (Or.inr ⟨rfl, Or.inr rfl⟩)
        refine h1 _ h5 tk ⟨?_, fun i hi => ?_, fun _ => ?_, ?_, ?_⟩ (a5.mo (fun q i z => by unfold md_rC; omega))
        · rw [a5.2 _ _ (by omega)]; exact k1
        · rw [a5.2 _ _ (by simp only at hi; omega), a5.2 _ _ (by omega)]; exact k2 i hi
        · rw [w5, tv_wIc (by omega), w4, tv_wIc (by omega), w2, tv_wIe]; rfl
        · rw [w5, tv_wIc (by omega), w4, tv_wIe]; rfl
        · rw [w5, tv_wIe]; rfl
      | true =>
        have tk := (tk _ _ hv hn).trans (sp_take_ot hd)
        rw [hv] at b1 k4
        simp only [if_true] at b1 k4
        refine tv_c1 (tv_ne x 59 (fun z => no (by rw [tk, if_neg z])) (fun z => bX3_takes_51 _ h (tv_c1 ?_)))
        rw [if_pos z] at tk
        rw [k4]
        refine tv_c1 (md_keepEntry k (by omega) hn hv (fun h2 q1 q2 q3 q4 => ?_))
        rw [q4, k4]
        refine tv_b1 (fun h4 w4 h5 w5 => ⟨Or.inr rfl, ?_⟩)
        have a5 : tv_ag (fun q i => q = 400 ∧ (i = 27 ∨ i = 28)) h2 h5 := by
          rw [w5, w4]
          exact (tv_ag.rf.wI ⟨rfl, Or.inl rfl⟩).wI ⟨rfl, Or.inr rfl⟩
        refine h1 _ h5 tk ⟨?_, fun i hi => ?_, fun z => by simp at z, ?_, ?_⟩ (q3.tr (a5.mo (fun q i z => by unfold md_rC; omega)))
        · rw [a5.2 _ _ (by omega), q1]; simp
        · rw [a5.2 _ _ (by omega), a5.2 _ _ (by omega)]; exact q2 i hi
        · rw [w5, tv_wIc (by omega), w4, tv_wIe]; rfl
        · rw [w5, tv_wIe]; rfl
theorem sp_along_s {x : Nat} {L : List Nat} {s s' : sp_C} {i : Nat} (h : sp_take s x = some s') : sp_along (x :: L) s i = sp_along L s' (i + 1) := by
  show (match sp_take s x with | some s' => sp_along L s' (i + 1) | none => (i, s)) = _
  rw [h]
theorem sp_along_n {x : Nat} {L : List Nat} {s : sp_C} {i : Nat} (h : sp_take s x = none) : sp_along (x :: L) s i = (i, s) := by
  show (match sp_take s x with | some s' => sp_along L s' (i + 1) | none => (i, s)) = _
  rw [h]
theorem sp_along_le : ∀ (L : List Nat) (s : sp_C) (i : Nat), (sp_along L s i).1 ≤ i + L.length
  | [], s, i => Nat.le_refl _
  | x :: L, s, i => by
    cases h : sp_take s x with
    | some s' =>
      rw [sp_along_s h]
      have := sp_along_le L s' (i + 1)
      simp only [List.length_cons]
      omega
    | none =>
      rw [sp_along_n h]
      simp only
      omega
theorem sp_cb_along : ∀ (L : List Nat) (s : sp_C) (i : Nat), sp_cb s i → sp_cb (sp_along L s i).2 (sp_along L s i).1
  | [], s, i, b => b
  | x :: L, s, i, b => by
    cases h : sp_take s x with
    | some s' =>
      rw [sp_along_s h]
      exact sp_cb_along L s' (i + 1) (sp_cb_take b h)
    | none =>
      rw [sp_along_n h]
      exact b
theorem md_goAlong (ok : ss_ok S c) (r : md_rep S h) {K : Int32 → tv_AH → Prop} (hK : ∀ h', md_C (sp_along (ss_pg S) sp_c0 0).2 h' → tv_ag md_rC h h' → K (nI (sp_along (ss_pg S) sp_c0 0).1) h') : tv_CI ad (d + 3) yX3_goAlong [.ref (ad 400)] h K := by
  obtain ⟨o1, o2, o3, o4, o5, o6⟩ := ok
  have r4 := r.2.2.2.1
  refine nX3_goAlong h (fun h1 w1 h2 w2 h3 w3 => ?_)
  have a3 : tv_ag md_rC h h3 := by
    rw [w3, w2, w1]
    exact ((tv_ag.rf.wI (Or.inl ⟨rfl, Or.inl rfl⟩)).wI (Or.inl ⟨rfl, Or.inr (Or.inl rfl)⟩)).wI (Or.inl ⟨rfl, Or.inr (Or.inr rfl)⟩)
  have H : ∀ t i (s : sp_C) (h4 : tv_AH), i + t = (ss_pg S).length → sp_along ((ss_pg S).drop i) s i = sp_along (ss_pg S) sp_c0 0 → sp_cb s i → md_C s h4 → tv_ag md_rC h h4 → tv_Wp ad RX3 cX3_goAlong 2 (some .int) (d + 2) (tv_pI K) 17 [(0, .ref (ad 400)), (1, .int (nI i))] [] h4 := by
    intro t
    induction t with
    | zero =>
      intro i s h4 hi he b m a
      refine bX3_goAlong_17 _ h4 ?_
      rw [a.2 400 0 (by unfold md_rC; omega), r4.1]
      have hd : (ss_pg S).drop i = [] := List.drop_eq_nil_of_le (by omega)
      rw [hd] at he
      have e1 : sp_along (ss_pg S) sp_c0 0 = (i, s) := he.symm
      rw [e1] at hK
      exact pk_le (ss_pg S).length i (fun _ => hK h4 m a) (fun q => absurd q (by omega))
    | succ t ih =>
      intro i s h4 hi he b m a
      have hil : i < (ss_pg S).length := by omega
      refine bX3_goAlong_17 _ h4 ?_
      have hc := o4.2 i hil
      rw [a.2 400 0 (by unfold md_rC; omega), r4.1, tv_nc i, a.2 401 i (by unfold md_rC; omega), r4.2 i hil]
      have hdr : (ss_pg S).drop i = (ss_pg S).getD i 0 :: (ss_pg S).drop (i + 1) := by
        rw [List.drop_eq_getElem_cons hil]
        congr 1
        simp [List.getD_eq_getElem?_getD, hil]
      rw [hdr] at he
      generalize (ss_pg S).getD i 0 = x at he hc
      refine pk_le (ss_pg S).length i (fun q => absurd q (by omega)) (fun q => ⟨pk_in i 60 (by omega), md_takes m b (by omega) hc.2 (fun s' h5 ts m5 a5 => tv_c1 ?_) (fun ts => tv_c0 ?_)⟩)
      · rw [nI_1]
        refine ih (i + 1) s' h5 (by omega) ?_ (sp_cb_take b ts) m5 (a.tr a5)
        rw [sp_along_s ts] at he
        exact he
      · rw [sp_along_n ts] at he
        have e1 : sp_along (ss_pg S) sp_c0 0 = (i, s) := he.symm
        rw [e1] at hK
        exact hK h4 m a
  refine H (ss_pg S).length 0 sp_c0 h3 (by omega) rfl ⟨by decide, by decide, (fun n hn => by cases hn), fun e he => absurd he List.not_mem_nil⟩ ⟨?_, fun i hi => absurd hi (by simp [sp_c0]), fun z => by simp [sp_c0] at z, ?_, ?_⟩ a3
  · rw [w3, tv_wIc (by omega), w2, tv_wIc (by omega), w1, tv_wIe]; rfl
  · rw [w3, tv_wIc (by omega), w2, tv_wIe]; rfl
  · rw [w3, tv_wIe]; rfl
theorem md_rep.rC {h' : tv_AH} {P : Nat → Nat → Prop} (ok : ss_ok S c) (r : md_rep S h) (a : tv_ag P h h') (np : ∀ q i, P q i → (q = 400 ∧ 24 ≤ i ∧ i ≤ 28) ∨ (420 ≤ q)) : md_rep S h' := by
  obtain ⟨r1, r2, r3, r4, r5, r6⟩ := id r
  have no : ∀ q i, ((q = 400 ∧ i < 24) ∨ q = 401 ∨ (410 ≤ q ∧ q ≤ 419)) → ¬ P q i := fun q i z y => by have := np q i y; omega
  refine r.mk' a rfl ?_ (fun v hv => ⟨hv, rfl⟩) (fun v _ q i y => no q i (by unfold md_rM md_rE md_rN at y; omega)) ok.2.1.2.1 (no _ _ (by omega)) (no _ _ (by omega)) ⟨?_, fun i hi => ?_⟩ ⟨?_, ?_, ?_⟩ ?_
  · rw [a.2 _ _ (no _ _ (by omega))]; exact r2
  · rw [a.2 _ _ (no _ _ (by omega))]; exact r4.1
  · rw [a.2 _ _ (no _ _ (by omega))]; exact r4.2 i hi
  · rw [a.2 _ _ (no _ _ (by omega))]; exact r5.1
  · rw [a.2 _ _ (no _ _ (by omega))]; exact r5.2.1
  · rw [a.2 _ _ (no _ _ (by omega))]; exact r5.2.2
  · exact r6.ag a (fun q i y => no q i (by unfold md_rM md_rE md_rN at y; omega)) (no _ _ (by omega)) (no _ _ (by omega))
theorem mt_fault (ok : ss_ok S c) (r : md_rep S h) {K : Int32 → tv_AH → Prop} (hK : ∀ h', md_rep (ss_fault S).2 h' → tv_ag md_hi h h' → K (ss_fault S).1 h') : tv_CI ad (d + 4) yX3_fault [.ref (ad 400)] h K := by
  refine nX3_fault h (md_goAlong ok r (fun h1 m1 a1 => ?_))
  exact hK h1 (md_rep.rC ok r a1 (fun q i z => by unfold md_rC at z; omega)) (a1.mo (fun q i z => by unfold md_rC at z; unfold md_hi; omega))
end MEA
