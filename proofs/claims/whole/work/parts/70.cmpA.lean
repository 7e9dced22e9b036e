/-! LIKE NODES stand in one place; nodes taken from a source -/
theorem sp_ar6 {r k : Nat} (h : k < 4096) : (r * 32768 + 7 * 4096 + k) % 32768 / 4096 = 7 := by omega
theorem sp_ar7 {r l : Nat} (h : l < 8) : (r * 32768 + l * 4096) % 32768 / 4096 = l := by omega
theorem sp_lay_l6 (g : Nat → Nat) : ∀ k, k ≤ 7 → ∀ a b, (∀ i, i < b → g i < 2 ^ 30) → sp_agr g a b (7 - k) → ∀ x ∈ sp_lay g k a b, x.1 = 2 → x.2.1 < 6
  | 0, _, a, b, _, _, x, hx, _ => absurd hx List.not_mem_nil
  | k + 1, hk, a, b, hg, agr, x, hx, h2 => by
    rw [show 7 - (k + 1) = 6 - k by omega] at agr
    by_cases hab : a < b
    · by_cases o : sp_one g a b
      · rw [sp_lay_one hab o, List.mem_singleton] at hx
        subst hx
        simp only at h2
        split at h2 <;> omega
      · have hk1 : 6 - k < 6 := by
          rcases Nat.lt_or_ge (6 - k) 6 with z | z
          · exact z
          · exact absurd (sp_agr_one z hg agr) o
        rw [sp_lay_br hab o] at hx
        rcases List.mem_cons.mp hx with z | z
        · subst z; exact hk1
        · obtain ⟨r, hr, hx⟩ := List.mem_flatMap.mp z
          obtain ⟨r1, r2, r3, r4⟩ := sp_isR_mem _ a (sp_runs_is _ (Nat.le_of_lt hab)) r hr
          have agr' := sp_agr_sub agr r1 r2 r3 r4
          rw [show 6 - k + 1 = 7 - k by omega] at agr'
          exact sp_lay_l6 g k (by omega) r.1 r.2 (fun i hi => hg i (by omega)) agr' x hx h2
    · rw [sp_lay_nil (by omega)] at hx
      exact absurd hx List.not_mem_nil
/-- what a place tells: 7 a leaf, 6 a clash, less a branch of that level -/
theorem sp_pl_t {f w i : Nat} {E : List (Nat × Nat)} (s : sp_sc f w) (hb : sp_eb E) (hi : i < (sp_N f w E).length) : sp_pl f w E (sp_n (sp_N f w E) i) % 32768 / 4096 = (if (sp_n (sp_N f w E) i).1 = 0 then 7 else if (sp_n (sp_N f w E) i).1 = 1 then 6 else (sp_n (sp_N f w E) i).2.1) ∧ (sp_n (sp_N f w E) i).1 ≤ 2 ∧ ((sp_n (sp_N f w E) i).1 = 2 → (sp_n (sp_N f w E) i).2.1 < 6) := by
  have h6 := sp_lay_l6 (sp_g f w E) 7 (Nat.le_refl _) 0 E.length (fun i _ => sp_hash_lt s) sp_agr_0 _ (sp_n_mem (N := sp_N f w E) hi)
  have ok := sp_N_ok hi
  have hk := (hb.2 (sp_n (sp_N f w E) i).2.2.1 (by have := ok.2.1; have := ok.2.2.1; omega)).1
  have h2 : (sp_n (sp_N f w E) i).1 ≤ 2 := by rw [ok.2.2.2.2.2]; exact sp_kd_le
  generalize sp_n (sp_N f w E) i = x at *
  refine ⟨?_, h2, h6⟩
  unfold sp_pl
  simp only
  by_cases z0 : x.1 = 0
  · rw [if_pos z0, if_pos z0]; exact sp_ar6 hk
  · by_cases z1 : x.1 = 1
    · rw [if_neg z0, if_pos z1, if_neg z0, if_pos z1]; exact sp_ar7 (by omega)
    · rw [if_neg z0, if_neg z1, if_neg z0, if_neg z1]
      have := h6 (by omega)
      exact sp_ar7 (by omega)
theorem sp_eqn_like {f w i l : Nat} {E E' : List (Nat × Nat)} (s : sp_sc f w) (hb' : sp_eb E') (hb : sp_eb E) (hi : i < (sp_N f w E').length) (hl : l < (sp_N f w E).length) : sp_eqn f w E' (sp_n (sp_N f w E') i) E (sp_n (sp_N f w E) l) ↔ sp_like E' (sp_n (sp_N f w E') i) E (sp_n (sp_N f w E) l) := by
  have t1 := sp_pl_t s hb' hi
  have t2 := sp_pl_t s hb hl
  have o1 := (sp_N_ok hi).2.1
  generalize sp_n (sp_N f w E') i = x' at *
  generalize sp_n (sp_N f w E) l = x at *
  constructor
  · intro ⟨e1, e2, e3⟩
    rw [e1, t2.1] at t1
    obtain ⟨t11, t12, t13⟩ := t1
    obtain ⟨-, t22, t23⟩ := t2
    have hk : x'.1 = x.1 ∧ (x'.1 = 2 → x'.2.1 = x.2.1) := by
      by_cases a0 : x'.1 = 0
      · by_cases b0 : x.1 = 0
        · exact ⟨by omega, fun z => by omega⟩
        · by_cases b1 : x.1 = 1
          · rw [if_neg b0, if_pos b1, if_pos a0] at t11; omega
          · rw [if_neg b0, if_neg b1, if_pos a0] at t11
            have := t23 (by omega); omega
      · by_cases a1 : x'.1 = 1
        · by_cases b0 : x.1 = 0
          · rw [if_pos b0, if_neg a0, if_pos a1] at t11; omega
          · by_cases b1 : x.1 = 1
            · exact ⟨by omega, fun z => by omega⟩
            · rw [if_neg b0, if_neg b1, if_neg a0, if_pos a1] at t11
              have := t23 (by omega); omega
        · have := t13 (by omega)
          rw [if_neg a0, if_neg a1] at t11
          by_cases b0 : x.1 = 0
          · rw [if_pos b0] at t11; omega
          · by_cases b1 : x.1 = 1
            · rw [if_neg b0, if_pos b1] at t11; omega
            · rw [if_neg b0, if_neg b1] at t11
              exact ⟨by omega, fun _ => t11.symm⟩
    exact ⟨hk.1, e2, hk.2, e3⟩
  · intro ⟨e1, e2, e3, e4⟩
    refine ⟨?_, e2, e4⟩
    have k0 := (e4 0 (by omega)).1
    rw [Nat.add_zero, Nat.add_zero] at k0
    unfold sp_pl
    simp only
    rw [e1, k0]
    by_cases z0 : x.1 = 0
    · rw [if_pos z0, if_pos z0]
    · by_cases z1 : x.1 = 1
      · rw [if_neg z0, if_pos z1, if_neg z0, if_pos z1]
      · rw [if_neg z0, if_neg z1, if_neg z0, if_neg z1, e3 (by omega)]
theorem sp_pl_inj {f w i l : Nat} {E : List (Nat × Nat)} (s : sp_sc f w) (hb : sp_eb E) (hs : sp_srt f w E) (hi : i < (sp_N f w E).length) (hl : l < (sp_N f w E).length) (h : sp_pl f w E (sp_n (sp_N f w E) i) = sp_pl f w E (sp_n (sp_N f w E) l)) : i = l := by
  rcases Nat.lt_trichotomy i l with u | u | u
  · have := sp_pl_inc s hb hs u hl; omega
  · exact u
  · have := sp_pl_inc s hb hs u hi; omega
theorem sp_fl_is {f w i l : Nat} {E E' : List (Nat × Nat)} (s : sp_sc f w) (hb' : sp_eb E') (hb : sp_eb E) (hs : sp_srt f w E) (hi : i < (sp_N f w E').length) (hl : l < (sp_N f w E).length) (e : sp_eqn f w E' (sp_n (sp_N f w E') i) E (sp_n (sp_N f w E) l)) : sp_fl E' (sp_n (sp_N f w E') i) E (sp_N f w E) = some l := by
  unfold sp_fl
  refine sp_fst_some.mpr ⟨hl, decide_eq_true ((sp_eqn_like s hb' hb hi hl).mp e), fun t ht => ?_⟩
  have hn : ¬ sp_like E' (sp_n (sp_N f w E') i) E (sp_n (sp_N f w E) t) := fun z => by
    have e2 := (sp_eqn_like s hb' hb hi (by omega : t < (sp_N f w E).length)).mpr z
    have := sp_pl_inj s hb hs (by omega) hl (e2.1.symm.trans e.1)
    omega
  exact decide_eq_false hn
theorem sp_fl_no {f w i : Nat} {E E' : List (Nat × Nat)} (s : sp_sc f w) (hb' : sp_eb E') (hb : sp_eb E) (hi : i < (sp_N f w E').length) (e : ∀ l, l < (sp_N f w E).length → ¬ sp_eqn f w E' (sp_n (sp_N f w E') i) E (sp_n (sp_N f w E) l)) : sp_fl E' (sp_n (sp_N f w E') i) E (sp_N f w E) = none := by
  unfold sp_fl
  refine sp_fst_none.mpr (fun t ht => decide_eq_false (fun z => e t ht ((sp_eqn_like s hb' hb hi ht).mpr z)))
