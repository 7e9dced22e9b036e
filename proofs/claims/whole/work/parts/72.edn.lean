/-! THE EDIT, NODE BY NODE: a node in the place of an old one takes its number, if that is its own or the two are alike -/
theorem sp_rank_rks {g : Nat} : ∀ l, l ≤ 6 → sp_rank g / 2 ^ (30 - 5 * l) = sp_rks g l := by
  intro l hl
  have h0 := sp_part_lt g 0
  have h1 := sp_part_lt g 1
  have h2 := sp_part_lt g 2
  have h3 := sp_part_lt g 3
  have h4 := sp_part_lt g 4
  have h5 := sp_part_lt g 5
  unfold sp_rank
  match l, hl with
  | 0, _ => simp only [sp_rks, Nat.mul_zero, Nat.sub_zero]; omega
  | 1, _ => simp only [sp_rks]; omega
  | 2, _ => simp only [sp_rks]; omega
  | 3, _ => simp only [sp_rks]; omega
  | 4, _ => simp only [sp_rks]; omega
  | 5, _ => simp only [sp_rks]; omega
  | 6, _ => simp only [sp_rks]; omega
theorem sp_rks_part {a b : Nat} : ∀ l, sp_rks a l = sp_rks b l → ∀ t, t < l → sp_part a t = sp_part b t
  | 0, _, t, ht => absurd ht (by omega)
  | l + 1, h, t, ht => by
    have h1 := sp_part_lt a l
    have h2 := sp_part_lt b l
    unfold sp_rks at h
    have e1 : sp_rks a l = sp_rks b l := by omega
    by_cases c : t = l
    · subst c; omega
    · exact sp_rks_part l e1 t (by omega)
theorem sp_part_mod {a b : Nat} : ∀ l, (∀ t, t < l → sp_part a t = sp_part b t) → a % 32 ^ l = b % 32 ^ l
  | 0, _ => by rw [Nat.pow_zero, Nat.mod_one, Nat.mod_one]
  | l + 1, h => by
    have e1 := sp_part_mod l (fun t ht => h t (by omega))
    have e2 := h l (by omega)
    unfold sp_part at e2
    rw [Nat.mod_pow_succ, Nat.mod_pow_succ, e1, e2]
theorem sp_mod_part {a b l : Nat} (h : a % 32 ^ l = b % 32 ^ l) : ∀ t, t < l → sp_part a t = sp_part b t := by
  have key : ∀ a t, t < l → sp_part a t = a % 32 ^ l / 32 ^ t % 32 := by
    intro a t ht
    have e : (32 : Nat) ^ l = 32 ^ t * 32 ^ (l - t) := by rw [← Nat.pow_add]; congr 1; omega
    have e2 : (32 : Nat) ^ (l - t) = 32 * 32 ^ (l - t - 1) := by
      rw [← Nat.pow_succ']
      congr 1; omega
    rw [e, Nat.mod_mul_right_div_self, e2, Nat.mod_mod_of_dvd _ (Nat.dvd_mul_right _ _)]
    rfl
  intro t ht
  rw [key a t ht, key b t ht, h]
theorem sp_ar8 {a b k l : Nat} (ha : k < 4096) (hb : l < 4096) (h : a * 32768 + 7 * 4096 + k = b * 32768 + 7 * 4096 + l) : k = l := by omega
theorem sp_ar9 {a b : Nat} (h : a * 32768 + 6 * 4096 = b * 32768 + 6 * 4096) : a = b := by omega
theorem sp_arA {a b p l : Nat} (hp : 0 < p) (h : a * p * 32768 + l * 4096 = b * p * 32768 + l * 4096) : a = b := by
  have h1 : a * p = b * p := by omega
  exact Nat.eq_of_mul_eq_mul_right hp h1
/-- one place: one kind, and for branches one level -/
theorem sp_pl_kd {f w i l : Nat} {E E' : List (Nat × Nat)} (s : sp_sc f w) (hb' : sp_eb E') (hb : sp_eb E) (hi : i < (sp_N f w E').length) (hl : l < (sp_N f w E).length) (e1 : sp_pl f w E' (sp_n (sp_N f w E') i) = sp_pl f w E (sp_n (sp_N f w E) l)) : (sp_n (sp_N f w E') i).1 = (sp_n (sp_N f w E) l).1 ∧ ((sp_n (sp_N f w E') i).1 = 2 → (sp_n (sp_N f w E') i).2.1 = (sp_n (sp_N f w E) l).2.1) := by
  have t1 := sp_pl_t s hb' hi
  have t2 := sp_pl_t s hb hl
  generalize sp_n (sp_N f w E') i = x' at *
  generalize sp_n (sp_N f w E) l = x at *
  rw [e1, t2.1] at t1
  obtain ⟨t11, t12, t13⟩ := t1
  obtain ⟨-, t22, t23⟩ := t2
  by_cases a0 : x'.1 = 0
  · by_cases b0 : x.1 = 0
    · exact ⟨by omega, fun z => by omega⟩
    · by_cases b1 : x.1 = 1
      · rw [if_neg b0, if_pos b1, if_pos a0] at t11; omega
      · rw [if_neg b0, if_neg b1, if_pos a0] at t11
        have := t23 (by omega); omega
  · by_cases a1 : x'.1 = 1
    · by_cases b0 : x.1 = 0
      · rw [if_pos b0, if_neg a0, if_pos a1] at t11; omega
      · by_cases b1 : x.1 = 1
        · exact ⟨by omega, fun z => by omega⟩
        · rw [if_neg b0, if_neg b1, if_neg a0, if_pos a1] at t11
          have := t23 (by omega); omega
    · have := t13 (by omega)
      rw [if_neg a0, if_neg a1] at t11
      by_cases b0 : x.1 = 0
      · rw [if_pos b0] at t11; omega
      · by_cases b1 : x.1 = 1
        · rw [if_neg b0, if_pos b1] at t11; omega
        · rw [if_neg b0, if_neg b1] at t11
          exact ⟨by omega, fun _ => t11.symm⟩
/-- standing in one's place is having the same place -/
theorem sp_std_pl {f w i l : Nat} {E E' : List (Nat × Nat)} (s : sp_sc f w) (hb' : sp_eb E') (hb : sp_eb E) (hi : i < (sp_N f w E').length) (hl : l < (sp_N f w E).length) : sp_std f w E' (sp_n (sp_N f w E') i) E (sp_n (sp_N f w E) l) ↔ sp_pl f w E (sp_n (sp_N f w E) l) = sp_pl f w E' (sp_n (sp_N f w E') i) := by
  have kd := sp_pl_kd s hb' hb hi hl
  have t1 := sp_pl_t s hb' hi
  have o1 := sp_N_ok hi
  have o2 := sp_N_ok hl
  have k1 := (hb'.2 (sp_n (sp_N f w E') i).2.2.1 (by have := o1.2.1; have := o1.2.2.1; omega)).1
  have k2 := (hb.2 (sp_n (sp_N f w E) l).2.2.1 (by have := o2.2.1; have := o2.2.2.1; omega)).1
  have g1 := sp_hash_lt (k := sp_k E' (sp_n (sp_N f w E') i).2.2.1) s
  have g2 := sp_hash_lt (k := sp_k E (sp_n (sp_N f w E) l).2.2.1) s
  obtain ⟨-, t12, t13⟩ := t1
  clear o1 o2
  generalize sp_n (sp_N f w E') i = x' at *
  generalize sp_n (sp_N f w E) l = x at *
  constructor
  · intro ⟨e1, e2⟩
    unfold sp_pl
    simp only
    rw [e1]
    by_cases z0 : x'.1 = 0
    · rw [if_pos z0] at e2
      rw [if_pos z0, if_pos z0, e2]
    · by_cases z1 : x'.1 = 1
      · rw [if_neg z0, if_pos z1] at e2
        rw [if_neg z0, if_pos z1, if_neg z0, if_pos z1, e2]
      · rw [if_neg z0, if_neg z1] at e2
        have := t13 (by omega)
        rw [if_neg z0, if_neg z1, if_neg z0, if_neg z1, ← e2.1, sp_rank_rks _ (by omega), sp_rank_rks _ (by omega)]
        rw [← sp_rank_rks _ (by omega), ← sp_rank_rks (g := sp_hash f w (sp_k E' x'.2.2.1)) _ (by omega), sp_rank_q (by omega) (sp_mod_part e2.2)]
  · intro e
    obtain ⟨c1, c2⟩ := kd e.symm
    refine ⟨c1.symm, ?_⟩
    unfold sp_pl at e
    simp only at e
    rw [← c1] at e
    by_cases z0 : x'.1 = 0
    · rw [if_pos z0]
      rw [if_pos z0, if_pos z0] at e
      exact (sp_ar8 k2 k1 e).symm
    · by_cases z1 : x'.1 = 1
      · rw [if_neg z0, if_pos z1]
        rw [if_neg z0, if_pos z1, if_neg z0, if_pos z1] at e
        exact sp_rank_inj g1 g2 (sp_ar9 e).symm
      · rw [if_neg z0, if_neg z1]
        have l6 := t13 (by omega)
        have el := c2 (by omega)
        rw [if_neg z0, if_neg z1, if_neg z0, if_neg z1, ← el] at e
        have e2 := sp_arA (Nat.two_pow_pos _) e
        rw [sp_rank_rks _ (by omega), sp_rank_rks _ (by omega)] at e2
        exact ⟨el, sp_part_mod _ (sp_rks_part _ e2.symm)⟩
/-- numbers given node by node -/
def sp_ea (G : Nat → Nat → Nat × Nat) : Nat → Nat → Nat → List Nat × Nat
  | 0, _, md => ([], md)
  | n + 1, i, md => ((G i md).1 :: (sp_ea G n (i + 1) (G i md).2).1, (sp_ea G n (i + 1) (G i md).2).2)
theorem sp_ea_take {G : Nat → Nat → Nat × Nat} {m : Nat} : ∀ (l : List Nat) (i md : Nat), (∀ t, t < l.length → ∀ md, G (i + t) md = (sp_id l t, md)) → sp_ea G (l.length + m) i md = (l ++ (sp_ea G m (i + l.length) md).1, (sp_ea G m (i + l.length) md).2)
  | [], i, md, _ => by simp
  | a :: l, i, md, h => by
    have h0 := h 0 (by simp) md
    rw [Nat.add_zero] at h0
    have ih := sp_ea_take (G := G) (m := m) l (i + 1) md (fun t ht md => by
      have := h (t + 1) (by simpa using ht) md
      rw [show i + 1 + t = i + (t + 1) by omega, this]
      rfl)
    rw [show (a :: l).length + m = (l.length + m) + 1 by simp only [List.length_cons]; omega]
    show ((G i md).1 :: (sp_ea G (l.length + m) (i + 1) (G i md).2).1, (sp_ea G (l.length + m) (i + 1) (G i md).2).2) = _
    rw [h0]
    show (a :: (sp_ea G (l.length + m) (i + 1) md).1, (sp_ea G (l.length + m) (i + 1) md).2) = _
    rw [ih, show i + 1 + l.length = i + (a :: l).length by simp only [List.length_cons]; omega]
    rfl
theorem sp_go_ea {L : Nat} {wd : Nat → Nat} {F : Nat → Option (List Nat)} {G G' : Nat → Nat → Nat × Nat} (hF : ∀ i l, i < L → F i = some l → l.length = wd i ∧ i + wd i ≤ L ∧ 1 ≤ wd i ∧ ∀ t, t < wd i → ∀ md, G' (i + t) md = (sp_id l t, md)) (hG : ∀ i, i < L → F i = none → ∀ md, G' i md = G i md) : ∀ n i md, i ≤ L → L - i < n → sp_go L wd F G n i md = sp_ea G' (L - i) i md
  | 0, i, md, _, h => absurd h (by omega)
  | n + 1, i, md, h1, h2 => by
    unfold sp_go
    by_cases c : i < L
    · rw [if_pos c]
      cases hf : F i with
      | some l =>
        obtain ⟨a1, a2, a3, a4⟩ := hF i l c hf
        simp only
        rw [sp_go_ea hF hG n (i + wd i) md a2 (by omega)]
        have := sp_ea_take (G := G') (m := L - (i + wd i)) l i md (by rw [a1]; exact a4)
        rw [a1, show wd i + (L - (i + wd i)) = L - i by omega] at this
        exact this.symm
      | none =>
        simp only
        have e := hG i c hf md
        rw [sp_go_ea hF hG n (i + 1) _ (by omega) (by omega), show L - i = (L - (i + 1)) + 1 by omega]
        show _ = ((G' i md).1 :: _, _)
        rw [e]
    · rw [if_neg c, show L - i = 0 by omega]
      rfl
/-- the number of a node of the edit -/
def sp_eG (f w : Nat) (E' E : List (Nat × Nat)) (ids : List Nat) (own i md : Nat) : Nat × Nat := match sp_fst (fun k => decide (sp_pl f w E (sp_n (sp_N f w E) k) = sp_pl f w E' (sp_n (sp_N f w E') i))) (sp_N f w E).length with
  | some k => if own ≤ sp_id ids k ∨ sp_like E' (sp_n (sp_N f w E') i) E (sp_n (sp_N f w E) k) then (sp_id ids k, md) else (md, md + 1)
  | none => (md, md + 1)
theorem sp_fp_is {f w p k : Nat} {E : List (Nat × Nat)} (s : sp_sc f w) (hb : sp_eb E) (hs : sp_srt f w E) (hk : k < (sp_N f w E).length) (e : sp_pl f w E (sp_n (sp_N f w E) k) = p) : sp_fst (fun k => decide (sp_pl f w E (sp_n (sp_N f w E) k) = p)) (sp_N f w E).length = some k := by
  refine sp_fst_some.mpr ⟨hk, decide_eq_true e, fun t ht => decide_eq_false (fun z => ?_)⟩
  have := sp_pl_inj s hb hs (by omega) hk (z.trans e.symm)
  omega
theorem sp_fp_no {f w p : Nat} {E : List (Nat × Nat)} (e : ∀ k, k < (sp_N f w E).length → sp_pl f w E (sp_n (sp_N f w E) k) ≠ p) : sp_fst (fun k => decide (sp_pl f w E (sp_n (sp_N f w E) k) = p)) (sp_N f w E).length = none := sp_fst_none.mpr (fun t ht => decide_eq_false (e t ht))
/-- a node that is no branch has nothing below -/
theorem sp_wd_1 {f w i : Nat} {E : List (Nat × Nat)} (hi : i < (sp_N f w E).length) (h : (sp_n (sp_N f w E) i).1 ≠ 2) : sp_wd (sp_N f w E) i = 1 := by
  rw [← sp_N_wd hi]
  obtain ⟨o1, o2, o3, o4, o5, o6⟩ := sp_N_ok hi
  rw [o6] at h
  rw [show 7 - (sp_n (sp_N f w E) i).2.1 = (6 - (sp_n (sp_N f w E) i).2.1) + 1 by omega, sp_lay_1 o2 h]
  rfl
/-- what lies below alike nodes is alike -/
theorem sp_like_t {f w i k t : Nat} {E' E : List (Nat × Nat)} (hi : i < (sp_N f w E').length) (hk : k < (sp_N f w E).length) (h : sp_like E' (sp_n (sp_N f w E') i) E (sp_n (sp_N f w E) k)) (ht : t < sp_wd (sp_N f w E') i) : sp_like E' (sp_n (sp_N f w E') (i + t)) E (sp_n (sp_N f w E) (k + t)) := by
  obtain ⟨e1, e2⟩ := sp_like_wd hi hk h
  obtain ⟨a1, a2, a3, z, a4, a5, a6⟩ := e2 t ht
  refine ⟨a1, a3, fun c => ?_, fun u hu => ?_⟩
  · by_cases c2 : (sp_n (sp_N f w E') i).1 = 2
    · exact a2 c2
    · have := sp_wd_1 hi c2
      have t0 : t = 0 := by omega
      subst t0
      exact absurd c c2
  · rw [a4, a5, Nat.add_assoc, Nat.add_assoc]
    exact h.2.2.2 (z + u) (by omega)
theorem sp_edn_ea {f w own md : Nat} {E' E : List (Nat × Nat)} {ids : List Nat} (s : sp_sc f w) (hb' : sp_eb E') (hb : sp_eb E) (hs : sp_srt f w E) (hl : ids.length = (sp_N f w E).length) : sp_edn f w E' E ids own md = sp_ea (sp_eG f w E' E ids own) (sp_N f w E').length 0 md := by
  unfold sp_edn
  refine sp_go_ea ?_ ?_ _ 0 md (by omega) (by omega)
  · intro i l hi hf
    unfold sp_tk at hf
    cases hk : sp_fl E' (sp_n (sp_N f w E') i) E (sp_N f w E) with
    | none => simp only [hk] at hf; cases hf
    | some k =>
      simp only [hk, Option.some.injEq] at hf
      obtain ⟨w1, w2, w3⟩ := sp_fl_wd hi hl hk
      obtain ⟨k1, k2, -⟩ := sp_fst_some.mp hk
      have lk := of_decide_eq_true k2
      subst hf
      refine ⟨sp_dt_len w1, w3, w2, fun t ht md => ?_⟩
      have lt := sp_like_t hi k1 lk ht
      have et := (sp_eqn_like s hb' hb (by omega) (by omega : k + t < (sp_N f w E).length)).mpr lt
      unfold sp_eG
      rw [sp_fp_is s hb hs (by omega : k + t < (sp_N f w E).length) et.1.symm]
      simp only
      rw [if_pos (Or.inr lt), sp_id_dt ht]
  · intro i hi hf md
    unfold sp_tk at hf
    cases hk : sp_fl E' (sp_n (sp_N f w E') i) E (sp_N f w E) with
    | some k => simp only [hk] at hf; cases hf
    | none =>
      have nl : ∀ k, k < (sp_N f w E).length → ¬ sp_like E' (sp_n (sp_N f w E') i) E (sp_n (sp_N f w E) k) := fun k hk2 => of_decide_eq_false (sp_fst_none.mp hk k hk2)
      unfold sp_eG
      cases hp : sp_fst (fun k => decide (sp_pl f w E (sp_n (sp_N f w E) k) = sp_pl f w E' (sp_n (sp_N f w E') i))) (sp_N f w E).length with
      | some k =>
        obtain ⟨p1, p2, -⟩ := sp_fst_some.mp hp
        have p2 := of_decide_eq_true p2
        have st := (sp_std_pl s hb' hb hi p1).mpr p2
        simp only
        by_cases o : own ≤ sp_id ids k
        · rw [if_pos (Or.inl o)]
          have : sp_fs f w E' (sp_n (sp_N f w E') i) E ids own = some k := by
            refine sp_fst_some.mpr ⟨p1, decide_eq_true ⟨o, st⟩, fun t ht => decide_eq_false (fun z => ?_)⟩
            have := (sp_std_pl s hb' hb hi (by omega : t < (sp_N f w E).length)).mp z.2
            have := sp_pl_inj s hb hs (by omega) p1 (this.trans p2.symm)
            omega
          rw [this]
        · rw [if_neg (fun z => z.elim o (nl k p1))]
          have : sp_fs f w E' (sp_n (sp_N f w E') i) E ids own = none := by
            refine sp_fst_none.mpr (fun t ht => decide_eq_false (fun z => ?_))
            have := (sp_std_pl s hb' hb hi ht).mp z.2
            have := sp_pl_inj s hb hs ht p1 (this.trans p2.symm)
            subst this
            exact o z.1
          rw [this]
      | none =>
        simp only
        have : sp_fs f w E' (sp_n (sp_N f w E') i) E ids own = none := by
          refine sp_fst_none.mpr (fun t ht => decide_eq_false (fun z => ?_))
          exact of_decide_eq_false (sp_fst_none.mp hp t ht) ((sp_std_pl s hb' hb hi ht).mp z.2)
        rw [this]
theorem sp_ea_len {G : Nat → Nat → Nat × Nat} : ∀ n i md, (sp_ea G n i md).1.length = n
  | 0, _, _ => rfl
  | n + 1, i, md => by
    show ((G i md).1 :: _).length = _
    rw [List.length_cons, sp_ea_len n]
theorem sp_eG_md {f w own i md : Nat} {E' E : List (Nat × Nat)} {ids : List Nat} : md ≤ (sp_eG f w E' E ids own i md).2 ∧ (sp_eG f w E' E ids own i md).2 ≤ md + 1 := by
  unfold sp_eG
  split
  · split
    · exact ⟨Nat.le_refl _, Nat.le_succ _⟩
    · exact ⟨Nat.le_succ _, Nat.le_refl _⟩
  · exact ⟨Nat.le_succ _, Nat.le_refl _⟩
theorem sp_ea_md {G : Nat → Nat → Nat × Nat} (hG : ∀ i md, md ≤ (G i md).2 ∧ (G i md).2 ≤ md + 1) : ∀ n i md, md ≤ (sp_ea G n i md).2 ∧ (sp_ea G n i md).2 ≤ md + n
  | 0, _, _ => ⟨Nat.le_refl _, Nat.le_refl _⟩
  | n + 1, i, md => by
    have h1 := hG i md
    have h2 := sp_ea_md hG n (i + 1) (G i md).2
    show md ≤ (sp_ea G n (i + 1) (G i md).2).2 ∧ (sp_ea G n (i + 1) (G i md).2).2 ≤ md + (n + 1)
    omega
