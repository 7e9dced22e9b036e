/-! PLACES grow along the nodes of sorted entries -/
theorem sp_rank_q {x y l : Nat} (hl : l ≤ 6) (he : ∀ t, t < l → sp_part x t = sp_part y t) : sp_rank x / 2 ^ (30 - 5 * l) = sp_rank y / 2 ^ (30 - 5 * l) := by
  have a0 := sp_part_lt x 0
  have a1 := sp_part_lt x 1
  have a2 := sp_part_lt x 2
  have a3 := sp_part_lt x 3
  have a4 := sp_part_lt x 4
  have a5 := sp_part_lt x 5
  have b0 := sp_part_lt y 0
  have b1 := sp_part_lt y 1
  have b2 := sp_part_lt y 2
  have b3 := sp_part_lt y 3
  have b4 := sp_part_lt y 4
  have b5 := sp_part_lt y 5
  unfold sp_rank
  match l, hl with
  | 0, _ => simp only [Nat.reduceAdd, Nat.reduceMul, Nat.reduceSub, Nat.reducePow]; omega
  | 1, _ => have := he 0 (by omega); simp only [Nat.reduceAdd, Nat.reduceMul, Nat.reduceSub, Nat.reducePow]; omega
  | 2, _ => have := he 0 (by omega); have := he 1 (by omega); simp only [Nat.reduceAdd, Nat.reduceMul, Nat.reduceSub, Nat.reducePow]; omega
  | 3, _ => have := he 0 (by omega); have := he 1 (by omega); have := he 2 (by omega); simp only [Nat.reduceAdd, Nat.reduceMul, Nat.reduceSub, Nat.reducePow]; omega
  | 4, _ => have := he 0 (by omega); have := he 1 (by omega); have := he 2 (by omega); have := he 3 (by omega); simp only [Nat.reduceAdd, Nat.reduceMul, Nat.reduceSub, Nat.reducePow]; omega
  | 5, _ => have := he 0 (by omega); have := he 1 (by omega); have := he 2 (by omega); have := he 3 (by omega); have := he 4 (by omega); simp only [Nat.reduceAdd, Nat.reduceMul, Nat.reduceSub, Nat.reducePow]; omega
  | 6, _ => have := he 0 (by omega); have := he 1 (by omega); have := he 2 (by omega); have := he 3 (by omega); have := he 4 (by omega); have := he 5 (by omega); simp only [Nat.reduceAdd, Nat.reduceMul, Nat.reduceSub, Nat.reducePow]; omega
theorem sp_pw5 {l : Nat} (hl : l < 6) : 2 ^ (30 - 5 * l) = 2 ^ (30 - 5 * (l + 1)) * 32 := by
  rw [show 30 - 5 * l = 30 - 5 * (l + 1) + 5 by omega, Nat.pow_add]
theorem sp_ar1 {A B r P l : Nat} (m1 : A ≤ r) (m2 : r < B) (h1 : r * 32768 + 6 * 4096 ≤ P) (h2 : P < r * 32768 + 32768) (hl : l ≤ 6) : A * 32768 + l * 4096 ≤ P ∧ P < B * 32768 := by omega
theorem sp_ar2 {A B P l : Nat} (h2 : A ≤ B) (h3 : B * 32768 + l * 4096 ≤ P) : A * 32768 + l * 4096 ≤ P := Nat.le_trans (Nat.add_le_add_right (Nat.mul_le_mul_right _ h2) _) h3
theorem sp_ar3 {A B l : Nat} (h2 : A < B) (h3 : l ≤ 6) : A * 32768 + l * 4096 < B * 32768 := by omega
theorem sp_ar4 {A B P l l' : Nat} (h2 : A ≤ B) (h3 : B * 32768 + l' * 4096 ≤ P) (h : l < l') : A * 32768 + l * 4096 < P := by omega
theorem sp_ar5 {A P Q l : Nat} (h2 : P < A * 32768) (h3 : A * 32768 + l * 4096 ≤ Q) : P < Q := by omega
theorem sp_pl_lay {f w : Nat} {E : List (Nat × Nat)} (s : sp_sc f w) (hb : sp_eb E) (hs : sp_srt f w E) : ∀ k, k ≤ 7 → ∀ a b, a < b → b ≤ E.length → sp_agr (sp_g f w E) a b (7 - k) → (∀ x ∈ sp_lay (sp_g f w E) k a b, sp_rank (sp_g f w E a) / 2 ^ (30 - 5 * (7 - k)) * 2 ^ (30 - 5 * (7 - k)) * 32768 + (7 - k) * 4096 ≤ sp_pl f w E x ∧ sp_pl f w E x < (sp_rank (sp_g f w E a) / 2 ^ (30 - 5 * (7 - k)) + 1) * 2 ^ (30 - 5 * (7 - k)) * 32768) ∧ (sp_lay (sp_g f w E) k a b).Pairwise (fun x y => sp_pl f w E x < sp_pl f w E y)
  | 0, _, a, b, _, _, _ => ⟨fun x hx => absurd hx List.not_mem_nil, List.Pairwise.nil⟩
  | k + 1, hk, a, b, hab, hbn, agr => by
    rw [show 7 - (k + 1) = 6 - k by omega] at agr ⊢
    have hka := (hb.2 a (by omega)).1
    have hM := Nat.two_pow_pos (30 - 5 * (6 - k))
    have m1 : sp_rank (sp_g f w E a) / 2 ^ (30 - 5 * (6 - k)) * 2 ^ (30 - 5 * (6 - k)) ≤ sp_rank (sp_g f w E a) := Nat.div_mul_le_self _ _
    have m2 : sp_rank (sp_g f w E a) < (sp_rank (sp_g f w E a) / 2 ^ (30 - 5 * (6 - k)) + 1) * 2 ^ (30 - 5 * (6 - k)) := by
      rw [Nat.mul_comm]; exact Nat.lt_mul_div_succ _ hM
    by_cases o : sp_one (sp_g f w E) a b
    · rw [sp_lay_one hab o]
      refine ⟨fun x hx => ?_, List.pairwise_singleton _ _⟩
      rw [List.mem_singleton] at hx
      subst hx
      have hpl : sp_rank (sp_g f w E a) * 32768 + 6 * 4096 ≤ sp_pl f w E (if b = a + 1 then 0 else 1, 6 - k, a, b - a) ∧ sp_pl f w E (if b = a + 1 then 0 else 1, 6 - k, a, b - a) < sp_rank (sp_g f w E a) * 32768 + 32768 := by
        unfold sp_pl
        simp only
        change _ ≤ (if _ then sp_rank (sp_g f w E a) * 32768 + 7 * 4096 + sp_k E a else if _ then sp_rank (sp_g f w E a) * 32768 + 6 * 4096 else _) ∧ (if _ then sp_rank (sp_g f w E a) * 32768 + 7 * 4096 + sp_k E a else if _ then sp_rank (sp_g f w E a) * 32768 + 6 * 4096 else _) < _
        by_cases z : b = a + 1
        · rw [if_pos z, if_pos rfl]; omega
        · rw [if_neg z, if_neg (by omega), if_pos rfl]; omega
      exact sp_ar1 m1 m2 hpl.1 hpl.2 (by omega)
    · have hk1 : 6 - k < 6 := by
        rcases Nat.lt_or_ge (6 - k) 6 with z | z
        · exact z
        · exact absurd (sp_agr_one z (fun i _ => sp_hash_lt s) agr) o
      have h7 : 6 - k + 1 = 7 - k := by omega
      have pw := sp_pw5 hk1
      rw [h7] at pw
      have hq : ∀ i, sp_rank (sp_g f w E i) / 2 ^ (30 - 5 * (7 - k)) / 32 = sp_rank (sp_g f w E i) / 2 ^ (30 - 5 * (6 - k)) := fun i => by rw [Nat.div_div_eq_div_mul, ← pw]
      have hp : ∀ i, sp_rank (sp_g f w E i) / 2 ^ (30 - 5 * (7 - k)) % 32 = sp_part (sp_g f w E i) (6 - k) := fun i => by rw [← h7]; exact sp_rank_part hk1
      have hqa : ∀ i, a ≤ i → i < b → sp_rank (sp_g f w E i) / 2 ^ (30 - 5 * (6 - k)) = sp_rank (sp_g f w E a) / 2 ^ (30 - 5 * (6 - k)) := fun i i1 i2 => sp_rank_q (by omega) (fun t ht => agr i i1 i2 t ht)
      have hmono : ∀ i j, i ≤ j → j < b → sp_rank (sp_g f w E i) / 2 ^ (30 - 5 * (7 - k)) ≤ sp_rank (sp_g f w E j) / 2 ^ (30 - 5 * (7 - k)) := fun i j h1 h2 => Nat.div_le_div_right (sp_srt_rk hs hb h1 (by omega))
      have L : ∀ (rs : List (Nat × Nat)) (a' : Nat), a ≤ a' → sp_isR (fun i => sp_part (sp_g f w E i) (6 - k)) b a' rs → (∀ x ∈ rs.flatMap (fun r => sp_lay (sp_g f w E) k r.1 r.2), sp_rank (sp_g f w E a') / 2 ^ (30 - 5 * (7 - k)) * 2 ^ (30 - 5 * (7 - k)) * 32768 + (7 - k) * 4096 ≤ sp_pl f w E x ∧ sp_pl f w E x < (sp_rank (sp_g f w E a) / 2 ^ (30 - 5 * (6 - k)) + 1) * 2 ^ (30 - 5 * (6 - k)) * 32768) ∧ (rs.flatMap (fun r => sp_lay (sp_g f w E) k r.1 r.2)).Pairwise (fun x y => sp_pl f w E x < sp_pl f w E y) := by
        intro rs
        induction rs with
        | nil => exact fun a' _ _ => ⟨fun x hx => absurd hx (by simp), List.Pairwise.nil⟩
        | cons r rs ih =>
          intro a' ha' ⟨r1, r2, r3, r4, r5, r6⟩
          have ihr := ih r.2 (by omega) r6
          subst r1
          have agr' := sp_agr_sub agr ha' r2 r3 r4
          rw [h7] at agr'
          have me := sp_pl_lay s hb hs k (by omega) r.1 r.2 r2 (by omega) agr'
          have up : (sp_rank (sp_g f w E r.1) / 2 ^ (30 - 5 * (7 - k)) + 1) * 2 ^ (30 - 5 * (7 - k)) ≤ (sp_rank (sp_g f w E a) / 2 ^ (30 - 5 * (6 - k)) + 1) * 2 ^ (30 - 5 * (6 - k)) := by
            rw [pw, Nat.mul_comm (2 ^ (30 - 5 * (7 - k))) 32, ← Nat.mul_assoc]
            refine Nat.mul_le_mul_right _ ?_
            have := hq r.1
            rw [hqa r.1 ha' (by omega)] at this
            rw [pw, Nat.mul_comm (2 ^ (30 - 5 * (7 - k))) 32] at this
            generalize sp_rank (sp_g f w E a) / (32 * 2 ^ (30 - 5 * (7 - k))) = u at *
            clear m1 m2 hM pw hq hp hqa hmono me ihr
            omega
          have lo : ∀ x ∈ rs.flatMap (fun r => sp_lay (sp_g f w E) k r.1 r.2), (sp_rank (sp_g f w E r.1) / 2 ^ (30 - 5 * (7 - k)) + 1) * 2 ^ (30 - 5 * (7 - k)) * 32768 + (7 - k) * 4096 ≤ sp_pl f w E x := by
            intro x hx
            have hlt : r.2 < b := by
              cases rs with
              | nil => exact absurd hx (by simp)
              | cons r' rs' =>
                have q1 := r6.2.1
                have q2 := r6.2.2.1
                omega
            have hne := r5 hlt
            simp only at hne
            rw [← hp, ← hp] at hne
            have hle := hmono r.1 r.2 (by omega) hlt
            have h1 : sp_rank (sp_g f w E r.1) / 2 ^ (30 - 5 * (7 - k)) + 1 ≤ sp_rank (sp_g f w E r.2) / 2 ^ (30 - 5 * (7 - k)) := by
              rcases Nat.lt_or_eq_of_le hle with z | z
              · exact z
              · exact absurd (by rw [z]) hne
            have h2 := Nat.mul_le_mul_right (2 ^ (30 - 5 * (7 - k))) h1
            have h3 := (ihr.1 x hx).1
            exact sp_ar2 h2 h3
          have up1 : sp_rank (sp_g f w E r.1) / 2 ^ (30 - 5 * (7 - k)) * 2 ^ (30 - 5 * (7 - k)) ≤ (sp_rank (sp_g f w E r.1) / 2 ^ (30 - 5 * (7 - k)) + 1) * 2 ^ (30 - 5 * (7 - k)) := Nat.mul_le_mul_right _ (Nat.le_succ _)
          rw [List.flatMap_cons]
          refine ⟨fun x hx => ?_, List.pairwise_append.mpr ⟨me.2, ihr.2, fun x hx y hy => ?_⟩⟩
          · rcases List.mem_append.mp hx with z | z
            · have q := me.1 x z
              refine ⟨q.1, Nat.lt_of_lt_of_le q.2 (Nat.mul_le_mul_right _ up)⟩
            · have q := ihr.1 x z
              have q2 := lo x z
              refine ⟨?_, q.2⟩
              exact sp_ar2 up1 q2
          · have q := (me.1 x hx).2
            have q2 := lo y hy
            exact sp_ar5 q q2
      have T := L _ a (Nat.le_refl _) (sp_runs_is (fun i => sp_part (sp_g f w E i) (6 - k)) (Nat.le_of_lt hab))
      rw [sp_lay_br hab o]
      have hpl : sp_pl f w E (2, 6 - k, a, b - a) = sp_rank (sp_g f w E a) / 2 ^ (30 - 5 * (6 - k)) * 2 ^ (30 - 5 * (6 - k)) * 32768 + (6 - k) * 4096 := by
        unfold sp_pl
        simp only
        rw [if_neg (by omega), if_neg (by omega)]
        rfl
      have hbb : sp_rank (sp_g f w E a) / 2 ^ (30 - 5 * (6 - k)) * 2 ^ (30 - 5 * (6 - k)) ≤ sp_rank (sp_g f w E a) / 2 ^ (30 - 5 * (7 - k)) * 2 ^ (30 - 5 * (7 - k)) := by
        rw [pw, Nat.mul_comm (2 ^ (30 - 5 * (7 - k))) 32, ← Nat.mul_assoc]
        refine Nat.mul_le_mul_right _ ?_
        have := hq a
        rw [pw, Nat.mul_comm (2 ^ (30 - 5 * (7 - k))) 32] at this
        omega
      refine ⟨fun x hx => ?_, List.pairwise_cons.mpr ⟨fun y hy => ?_, T.2⟩⟩
      · rcases List.mem_cons.mp hx with z | z
        · subst z
          rw [hpl]
          refine ⟨Nat.le_refl _, ?_⟩
          have m3 : sp_rank (sp_g f w E a) / 2 ^ (30 - 5 * (6 - k)) * 2 ^ (30 - 5 * (6 - k)) < (sp_rank (sp_g f w E a) / 2 ^ (30 - 5 * (6 - k)) + 1) * 2 ^ (30 - 5 * (6 - k)) := by omega
          exact sp_ar3 m3 (by omega)
        · have q := T.1 x z
          refine ⟨?_, q.2⟩
          have q1 := q.1
          exact Nat.le_of_lt (sp_ar4 hbb q1 (by omega))
      · rw [hpl]
        have q1 := (T.1 y hy).1
        exact sp_ar4 hbb q1 (by omega)
theorem sp_pl_inc {f w i j : Nat} {E : List (Nat × Nat)} (s : sp_sc f w) (hb : sp_eb E) (hs : sp_srt f w E) (hij : i < j) (hj : j < (sp_N f w E).length) : sp_pl f w E (sp_n (sp_N f w E) i) < sp_pl f w E (sp_n (sp_N f w E) j) := by
  rcases Nat.lt_or_ge 0 E.length with z | z
  · have := (sp_pl_lay s hb hs 7 (by omega) 0 E.length z (Nat.le_refl _) sp_agr_0).2
    have := List.pairwise_iff_getElem.mp this i j (Nat.lt_trans hij hj) hj hij
    rw [sp_n_get hj, sp_n_get (Nat.lt_trans hij hj)]
    exact this
  · have hN : sp_N f w E = [] := sp_lay_nil z
    rw [hN] at hj
    exact absurd hj (by simp)
theorem sp_pl_lt {f w i : Nat} {E : List (Nat × Nat)} (s : sp_sc f w) (hb : sp_eb E) (hs : sp_srt f w E) (hi : i < (sp_N f w E).length) : sp_pl f w E (sp_n (sp_N f w E) i) < 2 ^ 45 := by
  rcases Nat.lt_or_ge 0 E.length with z | z
  · have := ((sp_pl_lay s hb hs 7 (by omega) 0 E.length z (Nat.le_refl _) sp_agr_0).1 _ (sp_n_mem (N := sp_N f w E) hi)).2
    have hr := sp_rank_lt (sp_g f w E 0)
    simp only [Nat.sub_self, Nat.mul_zero, Nat.sub_zero] at this
    rw [Nat.div_eq_of_lt hr] at this
    omega
  · have hN : sp_N f w E = [] := sp_lay_nil z
    rw [hN] at hi
    exact absurd hi (by simp)
