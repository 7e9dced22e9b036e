/-! THE COMPONENT: a node by its place -/
section CTH
variable {ad : Nat → Nat} {d f w : Nat} {h : tv_AH} {j : Fin 22} {E : List (Nat × Nat)}
theorem tv_lm1 {m z : Nat} (hz : 1 ≤ z) : nI m - 1 + nI z = nI (m + z - 1) := by
  have e : nI (m + z - 1) = nI (m + z) - nI 1 := (pk_sub (by omega)).symm
  rw [e, ← nI_add, show nI 1 = (1 : Int32) from rfl, Int32.sub_eq_add_neg, Int32.sub_eq_add_neg, Int32.add_assoc, Int32.add_comm (-1), Int32.add_assoc]
theorem ct_indexOfPlace {p : Nat} (s : sp_sc f w) (x : ct_Nd f w j E h) (hb : sp_eb E) (hs : sp_srt f w E) (hp : p < 2 ^ 63) {K : Int32 → tv_AH → Prop} (h1 : ∀ i, i < (sp_N f w E).length → sp_pl f w E (sp_n (sp_N f w E) i) = p → K (nI i) h) (h0 : (∀ i, i < (sp_N f w E).length → sp_pl f w E (sp_n (sp_N f w E) i) ≠ p) → K (-1) h) : tv_CI ad (d + 1) yX1_indexOfPlace [.ref (ad (tv_tp j)), .long (lN p)] h K := by
  have hN96 := sp_N_len (f := f) (w := w) hb.1
  refine nX1_indexOfPlace _ _ h ?_
  have hinc : ∀ i t, i < t → t < (sp_N f w E).length → sp_pl f w E (sp_n (sp_N f w E) i) < sp_pl f w E (sp_n (sp_N f w E) t) := fun i t h1 h2 => sp_pl_inc s hb hs h1 h2
  have hlt : ∀ i, i < (sp_N f w E).length → sp_pl f w E (sp_n (sp_N f w E) i) < 2 ^ 63 := fun i hi => Nat.lt_trans (sp_pl_lt s hb hs hi) (by omega)
  -- how many places are not above p
  have hT : ∃ T, T ≤ (sp_N f w E).length ∧ (∀ i, i < T → sp_pl f w E (sp_n (sp_N f w E) i) ≤ p) ∧ ∀ i, T ≤ i → i < (sp_N f w E).length → p < sp_pl f w E (sp_n (sp_N f w E) i) := by
    have G : ∀ n, n ≤ (sp_N f w E).length → ∃ T, T ≤ n ∧ (∀ i, i < T → sp_pl f w E (sp_n (sp_N f w E) i) ≤ p) ∧ ∀ i, T ≤ i → i < n → p < sp_pl f w E (sp_n (sp_N f w E) i) := by
      intro n
      induction n with
      | zero => exact fun _ => ⟨0, Nat.le_refl _, fun i hi => absurd hi (by omega), fun i _ hi => absurd hi (by omega)⟩
      | succ n ih =>
        intro hn
        by_cases z : sp_pl f w E (sp_n (sp_N f w E) n) ≤ p
        · refine ⟨n + 1, Nat.le_refl _, fun i hi => ?_, fun i i1 i2 => absurd i2 (by omega)⟩
          by_cases y : i = n
          · rw [y]; exact z
          · exact Nat.le_trans (Nat.le_of_lt (hinc i n (by omega) (by omega))) z
        · obtain ⟨T, t1, t2, t3⟩ := ih (by omega)
          refine ⟨T, by omega, t2, fun i i1 i2 => ?_⟩
          by_cases y : i = n
          · rw [y]; exact Nat.lt_of_not_le z
          · exact t3 i i1 (by omega)
    exact G _ (Nat.le_refl _)
  obtain ⟨T, t1, t2, t3⟩ := hT
  have fin : T = 0 ∨ (∃ i, i + 1 = T) := by
    cases T with
    | zero => exact Or.inl rfl
    | succ i => exact Or.inr ⟨i, rfl⟩
  have H : ∀ n m, m ≤ T → T < m + 2 ^ n → n ≤ 7 → tv_Wp ad RX1 cX1_indexOfPlace 5 (some .int) d (tv_pI K) 6 [(0, .ref (ad (tv_tp j))), (1, .long (lN p)), (3, .int (nI m - 1)), (4, .int (nI (2 ^ n / 2)))] [] h := by
    intro n
    induction n with
    | zero =>
      intro m hm hm2 _
      have : m = T := by omega
      subst this
      refine bX1_indexOfPlace_6 _ _ _ _ h (pk_le 0 0 (fun _ => ?_) (fun z => absurd z (by omega)))
      rcases fin with z | ⟨i, z⟩
      · subst z
        refine ⟨fun _ => h0 (fun i hi y => ?_), fun y => absurd (show nI 0 - 1 < 0 by decide) y⟩
        have := t3 i (by omega) hi
        omega
      · subst z
        have e : nI (i + 1) - 1 = nI i := nI_pred i
        rw [e, tv_nc i, (x.2.1 i (by omega)).2.2.2.2.2.2, lg_cmp_eq, pk_lEQ (hlt i (by omega)) hp]
        refine ⟨fun y => absurd y (nI_pos (by omega)), fun _ => ⟨pk_in i 96 (by omega), fun y => h0 (fun t ht u => ?_), fun y => h1 i (by omega) y⟩⟩
        rcases Nat.lt_trichotomy t i with q | q | q
        · have := hinc t i q (by omega)
          have := t2 i (by omega)
          omega
        · rw [q] at u; exact y u
        · have := t3 t (by omega) ht
          omega
    | succ n ih =>
      intro m hm hm2 hn
      have hz := Nat.two_pow_pos n
      have hz2 : 2 ^ n ≤ 2 ^ 6 := Nat.pow_le_pow_right (by decide) (by omega)
      rw [Nat.pow_succ] at hm2
      have e2 : 2 ^ (n + 1) / 2 = 2 ^ n := by rw [Nat.pow_succ]; omega
      rw [e2]
      refine bX1_indexOfPlace_6 _ _ _ _ h (pk_le (2 ^ n) 0 (fun z => absurd z (by omega)) (fun _ => ?_))
      have e3 : nI (2 ^ n) / 2 = nI (2 ^ n / 2) := pk_div (d := 2) (by omega) (by omega) (by omega)
      rw [tv_lm1 (by omega), x.1, e3, tv_nc (m + 2 ^ n - 1)]
      refine pk_le (sp_N f w E).length (m + 2 ^ n - 1) (fun z => ih m hm (by omega) (by omega)) (fun z => ⟨pk_in (m + 2 ^ n - 1) 96 (by omega), ?_⟩)
      rw [(x.2.1 _ z).2.2.2.2.2.2, lg_cmp_gt, pk_lLT hp (hlt _ z)]
      refine ⟨fun y => ih m hm ?_ (by omega), fun y => ?_⟩
      · rcases Nat.lt_or_ge (m + 2 ^ n - 1) T with u | u
        · have := t2 _ u; omega
        · omega
      · have u : m + 2 ^ n ≤ T := by
          rcases Nat.lt_or_ge (m + 2 ^ n - 1) T with u | u
          · omega
          · exact absurd (t3 _ u z) y
        have e4 : nI (m + 2 ^ n - 1) = nI (m + 2 ^ n) - 1 := by rw [show (1 : Int32) = nI 1 from rfl, pk_sub (by omega)]
        rw [e4]
        exact ih (m + 2 ^ n) u (by omega) (by omega)
  exact H 7 0 (Nat.zero_le _) (by omega) (Nat.le_refl _)
end CTH
