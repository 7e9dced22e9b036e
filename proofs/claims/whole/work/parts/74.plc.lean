/-! NUMBERS AND PLACES: what is handed on keeps its place, what is new gets one -/
theorem sp_go_pl {L md0 : Nat} {wd : Nat → Nat} {F : Nat → Option (List Nat)} {G : Nat → Nat → Nat × Nat} {pl P0 : Nat → Nat} (hF : ∀ i l, i < L → F i = some l → l.length = wd i ∧ i + wd i ≤ L ∧ 1 ≤ wd i ∧ ∀ t, t < wd i → sp_id l t < md0 ∧ P0 (sp_id l t) = pl (i + t)) (hG : ∀ i md, i < L → F i = none → G i md = (md, md + 1) ∨ ∃ k, G i md = (k, md) ∧ k < md0 ∧ P0 k = pl i) : ∀ n i md (P : Nat → Nat), i ≤ L → L - i < n → md0 ≤ md → (∀ x, x < md0 → P x = P0 x) → ∃ P' : Nat → Nat, (∀ x, x < md → P' x = P x) ∧ md ≤ (sp_go L wd F G n i md).2 ∧ (sp_go L wd F G n i md).2 ≤ md + (L - i) ∧ (sp_go L wd F G n i md).1.length = L - i ∧ ∀ t, t < L - i → sp_id (sp_go L wd F G n i md).1 t < (sp_go L wd F G n i md).2 ∧ P' (sp_id (sp_go L wd F G n i md).1 t) = pl (i + t)
  | 0, i, md, P, _, h, _, _ => absurd h (by omega)
  | n + 1, i, md, P, h1, h2, h3, h4 => by
    by_cases c : i < L
    · cases hf : F i with
      | some l =>
        obtain ⟨a1, a2, a3, a4⟩ := hF i l c hf
        obtain ⟨P', b1, b2, b3, b4, b5⟩ := sp_go_pl hF hG n (i + wd i) md P a2 (by omega) h3 h4
        have e : sp_go L wd F G (n + 1) i md = (l ++ (sp_go L wd F G n (i + wd i) md).1, (sp_go L wd F G n (i + wd i) md).2) := by
          show (if i < L then _ else _) = _
          rw [if_pos c, hf]
        rw [e]
        refine ⟨P', b1, b2, by simp only; omega, by simp only [List.length_append]; omega, fun t ht => ?_⟩
        by_cases ct : t < wd i
        · simp only
          rw [sp_id_l (by omega)]
          obtain ⟨u1, u2⟩ := a4 t ct
          exact ⟨by omega, by rw [b1 _ (by omega), h4 _ u1]; exact u2⟩
        · simp only
          rw [sp_id_r (by omega), a1]
          have := b5 (t - wd i) (by omega)
          rw [show i + wd i + (t - wd i) = i + t by omega] at this
          exact this
      | none =>
        have e : sp_go L wd F G (n + 1) i md = ((G i md).1 :: (sp_go L wd F G n (i + 1) (G i md).2).1, (sp_go L wd F G n (i + 1) (G i md).2).2) := by
          show (if i < L then _ else _) = _
          rw [if_pos c, hf]
        rw [e]
        rcases hG i md c hf with g | ⟨k, g, g1, g2⟩
        · rw [g]
          obtain ⟨P', b1, b2, b3, b4, b5⟩ := sp_go_pl hF hG n (i + 1) (md + 1) (fun x => if x = md then pl i else P x) (by omega) (by omega) (by omega) (fun x hx => by rw [if_neg (by omega)]; exact h4 x hx)
          refine ⟨P', fun x hx => ?_, by simp only; omega, by simp only; omega, by simp only [List.length_cons]; omega, fun t ht => ?_⟩
          · rw [b1 x (by omega)]
            rw [if_neg (by omega)]
          · cases t with
            | zero =>
              refine ⟨by show md < _; simp only; omega, ?_⟩
              show P' md = _
              rw [b1 md (by omega)]
              rw [if_pos rfl, Nat.add_zero]
            | succ t =>
              have := b5 t (by omega)
              rw [show i + 1 + t = i + (t + 1) by omega] at this
              exact this
        · rw [g]
          obtain ⟨P', b1, b2, b3, b4, b5⟩ := sp_go_pl hF hG n (i + 1) md P (by omega) (by omega) h3 h4
          refine ⟨P', b1, b2, by simp only; omega, by simp only [List.length_cons]; omega, fun t ht => ?_⟩
          cases t with
          | zero =>
            refine ⟨by show k < _; simp only; omega, ?_⟩
            show P' k = _
            rw [b1 k (by omega), h4 k g1, g2, Nat.add_zero]
          | succ t =>
            have := b5 t (by omega)
            rw [show i + 1 + t = i + (t + 1) by omega] at this
            exact this
    · have e : sp_go L wd F G (n + 1) i md = ([], md) := by
        show (if i < L then _ else _) = _
        rw [if_neg c]
      rw [e]
      exact ⟨P, fun _ _ => rfl, Nat.le_refl _, by simp only; omega, by simp only [List.length_nil]; omega, fun t ht => absurd ht (by omega)⟩
section PLC
variable {f w md : Nat} {E' : List (Nat × Nat)} {V V1 : sp_V} {P : Nat → Nat}
theorem sp_vok.mo {md' : Nat} (k : sp_vok f w md V) (h : md ≤ md') : sp_vok f w md' V := ⟨k.1, k.2.1, k.2.2.1, fun i hi => Nat.lt_of_lt_of_le (k.2.2.2 i hi) h⟩
theorem sp_plc.cg {P' : Nat → Nat} (k : sp_plc f w P V) (v : sp_vok f w md V) (h : ∀ x, x < md → P' x = P x) : sp_plc f w P' V := fun i hi => by rw [h _ (v.2.2.2 i hi)]; exact k i hi
theorem sp_tk_pl {i : Nat} {l : List Nat} (s : sp_sc f w) (hb' : sp_eb E') (v : sp_vok f w md V) (p : sp_plc f w P V) (hi : i < (sp_N f w E').length) (hf : sp_tk f w E' i V = some l) : l.length = sp_wd (sp_N f w E') i ∧ i + sp_wd (sp_N f w E') i ≤ (sp_N f w E').length ∧ 1 ≤ sp_wd (sp_N f w E') i ∧ ∀ t, t < sp_wd (sp_N f w E') i → sp_id l t < md ∧ P (sp_id l t) = sp_pl f w E' (sp_n (sp_N f w E') (i + t)) := by
  obtain ⟨hb, hs, hl, hm⟩ := v
  unfold sp_tk at hf
  cases hk : sp_fl E' (sp_n (sp_N f w E') i) V.1 (sp_N f w V.1) with
  | none => simp only [hk] at hf; cases hf
  | some k =>
    simp only [hk, Option.some.injEq] at hf
    obtain ⟨w1, w2, w3⟩ := sp_fl_wd hi hl hk
    obtain ⟨k1, k2, -⟩ := sp_fst_some.mp hk
    have lk := of_decide_eq_true k2
    subst hf
    refine ⟨sp_dt_len w1, w3, w2, fun t ht => ?_⟩
    have lt := sp_like_t hi k1 lk ht
    have et := (sp_eqn_like s hb' hb (by omega) (by omega : k + t < (sp_N f w V.1).length)).mpr lt
    rw [sp_id_dt ht]
    exact ⟨hm _ (by omega), by rw [← p (k + t) (by omega)]; exact et.1.symm⟩
theorem sp_new_ok {two : Option sp_V} (s : sp_sc f w) (hb' : sp_eb E') (hs' : sp_srt f w E') (v1 : sp_vok f w md V1) (p1 : sp_plc f w P V1) (v2 : ∀ V, two = some V → sp_vok f w md V ∧ sp_plc f w P V) : ∃ P' : Nat → Nat, (∀ x, x < md → P' x = P x) ∧ md ≤ (sp_new f w E' V1 two md).2 ∧ (sp_new f w E' V1 two md).2 ≤ md + 96 ∧ sp_vok f w (sp_new f w E' V1 two md).2 (E', (sp_new f w E' V1 two md).1) ∧ sp_plc f w P' (E', (sp_new f w E' V1 two md).1) := by
  have hN96 := sp_N_len (f := f) (w := w) hb'.1
  obtain ⟨P', b1, b2, b3, b4, b5⟩ := sp_go_pl (L := (sp_N f w E').length) (md0 := md) (wd := sp_wd (sp_N f w E')) (F := fun i => sp_tk2 f w E' i V1 two) (G := fun _ md => (md, md + 1)) (pl := fun i => sp_pl f w E' (sp_n (sp_N f w E') i)) (P0 := P) (fun i l hi hf => by
    unfold sp_tk2 at hf
    cases h1 : sp_tk f w E' i V1 with
    | some l1 =>
      simp only [h1, Option.some.injEq] at hf
      subst hf
      exact sp_tk_pl s hb' v1 p1 hi h1
    | none =>
      simp only [h1] at hf
      cases two with
      | none => simp only at hf; cases hf
      | some V2 =>
        simp only at hf
        obtain ⟨q1, q2⟩ := v2 V2 rfl
        exact sp_tk_pl s hb' q1 q2 hi hf) (fun i md _ _ => Or.inl rfl) ((sp_N f w E').length + 1) 0 md P (by omega) (by omega) (Nat.le_refl _) (fun _ _ => rfl)
  rw [Nat.sub_zero] at b3 b4 b5
  refine ⟨P', b1, b2, Nat.le_trans b3 (by omega), ⟨hb', hs', b4, fun i hi => ?_⟩, fun i hi => ?_⟩
  · exact (b5 i (by rw [← b4]; exact hi)).1
  · have := (b5 i (by rw [← b4]; exact hi)).2
    rw [Nat.zero_add] at this
    exact this.symm
theorem sp_edn_ok {own : Nat} (s : sp_sc f w) (hb' : sp_eb E') (hs' : sp_srt f w E') (v : sp_vok f w md V) (p : sp_plc f w P V) : ∃ P' : Nat → Nat, (∀ x, x < md → P' x = P x) ∧ md ≤ (sp_edn f w E' V.1 V.2 own md).2 ∧ (sp_edn f w E' V.1 V.2 own md).2 ≤ md + 96 ∧ sp_vok f w (sp_edn f w E' V.1 V.2 own md).2 (E', (sp_edn f w E' V.1 V.2 own md).1) ∧ sp_plc f w P' (E', (sp_edn f w E' V.1 V.2 own md).1) := by
  have hN96 := sp_N_len (f := f) (w := w) hb'.1
  obtain ⟨P', b1, b2, b3, b4, b5⟩ := sp_go_pl (L := (sp_N f w E').length) (md0 := md) (wd := sp_wd (sp_N f w E')) (F := fun i => sp_tk f w E' i (V.1, V.2)) (G := fun i md => match sp_fs f w E' (sp_n (sp_N f w E') i) V.1 V.2 own with
    | some k => (sp_id V.2 k, md)
    | none => (md, md + 1)) (pl := fun i => sp_pl f w E' (sp_n (sp_N f w E') i)) (P0 := P) (fun i l hi hf => sp_tk_pl s hb' v p hi hf) (fun i md1 hi _ => by
      cases hk : sp_fs f w E' (sp_n (sp_N f w E') i) V.1 V.2 own with
      | none => exact Or.inl rfl
      | some k =>
        obtain ⟨k1, k2, -⟩ := sp_fst_some.mp hk
        have k2 := of_decide_eq_true k2
        have e := (sp_std_pl s hb' v.1 hi k1).mp k2.2
        have hl := v.2.2.1
        refine Or.inr ⟨sp_id V.2 k, rfl, v.2.2.2 k (by omega), ?_⟩
        rw [← p k (by omega)]
        exact e) ((sp_N f w E').length + 1) 0 md P (by omega) (by omega) (Nat.le_refl _) (fun _ _ => rfl)
  rw [Nat.sub_zero] at b3 b4 b5
  refine ⟨P', b1, b2, Nat.le_trans b3 (by omega), ⟨hb', hs', b4, fun i hi => ?_⟩, fun i hi => ?_⟩
  · exact (b5 i (by rw [← b4]; exact hi)).1
  · have := (b5 i (by rw [← b4]; exact hi)).2
    rw [Nat.zero_add] at this
    exact this.symm
end PLC
