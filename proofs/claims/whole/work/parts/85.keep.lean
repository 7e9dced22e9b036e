/-! WHAT HOLDS OF STATES IS KEPT BY EVERY CALL -/
section KEE
variable {S : sp_S} {c : Nat}
theorem ss_ok.up (ok : ss_ok S c) (hc : c < 512) : ss_ok S (c + 1) := by
  obtain ⟨o1, o2, o3, o4, o5, o6⟩ := ok
  exact ⟨o1, o2, o3, o4, ⟨by omega, by omega, by omega, by omega⟩, o6⟩
theorem ss_eok.mo {S' : sp_S} {P P' : Nat → Nat} (k : ss_eok S P) (e1 : S'.1 = S.1) (e2 : ss_ed S' = ss_ed S) (hm : ss_md S ≤ ss_md S') (hP : ∀ x, x < ss_md S → P' x = P x) : ss_eok S' P' := by
  unfold ss_eok at k ⊢
  rw [e2]
  cases hed : ss_ed S with
  | none => trivial
  | some t =>
    obtain ⟨V, own, mi⟩ := t
    rw [hed] at k
    obtain ⟨k1, k2, k3, k4⟩ := k
    show sp_vok (ss_f S') (ss_w S') (ss_md S') V ∧ own ≤ ss_md S' ∧ mi ≤ ss_md S' ∧ sp_plc (ss_f S') (ss_w S') P' V
    unfold ss_f ss_w
    rw [e1]
    exact ⟨k1.mo hm, by omega, by omega, k4.cg k1 hP⟩
theorem ss_ver_some {v : Int32} {n : Nat} (ok : ss_ok S c) (h : ss_ver S v = some n) : n < (ss_vs S).length := by
  have o2 := ok.2.1
  have := (sp_rg_some (by omega) h).1
  omega
/-- a version more -/
theorem ss_ok.more {V : sp_V} {pg : List Nat} {md rd sl : Nat} {ed : Option (sp_V × Nat × Nat)} {P' : Nat → Nat} (ok : ss_ok S c) (hc : c < 512) (hv : (ss_vs S).length < 20) (hpg : pg.length ≤ 60 ∧ ∀ i, i < pg.length → 32 ≤ pg.getD i 0 ∧ pg.getD i 0 ≤ 126) (h1 : ss_md S ≤ md) (h2 : md ≤ 1440 * (c + 1)) (h3 : rd ≤ c + 1) (h4 : sl ≤ c + 1) (vok : sp_vok (ss_f S) (ss_w S) md V) (pl : sp_plc (ss_f S) (ss_w S) P' V) (hP : ∃ P, (∀ v, v < (ss_vs S).length → sp_plc (ss_f S) (ss_w S) P (ss_v S v)) ∧ (∀ x, x < ss_md S → P' x = P x)) (he : ss_eok (S.1, ss_vs S ++ [V], pg, (md, rd, sl), ed) P') : ss_ok (S.1, ss_vs S ++ [V], pg, (md, rd, sl), ed) (c + 1) := by
  obtain ⟨o1, o2, o3, o4, o5, o6⟩ := ok
  obtain ⟨P, p1, p2⟩ := hP
  have gt : ∀ v, ss_v (S.1, ss_vs S ++ [V], pg, (md, rd, sl), ed) v = if v < (ss_vs S).length then ss_v S v else if v = (ss_vs S).length then V else ([], []) := fun v => ss_v_add
  have ln : (ss_vs S ++ [V]).length = (ss_vs S).length + 1 := by rw [List.length_append]; rfl
  refine ⟨o1, ⟨?_, ?_, ?_⟩, fun v hv2 => ?_, hpg, ⟨h2, h3, h4, by omega⟩, P', fun v hv2 => ?_, he⟩
  · show 1 ≤ (ss_vs S ++ [V]).length
    omega
  · show (ss_vs S ++ [V]).length ≤ 20
    omega
  · rw [gt, if_pos (by omega)]; exact o2.2.2
  · change v < (ss_vs S ++ [V]).length at hv2
    rw [gt]
    by_cases z : v < (ss_vs S).length
    · rw [if_pos z]; exact (o3 v z).mo h1
    · rw [if_neg z, if_pos (by omega)]; exact vok
  · change v < (ss_vs S ++ [V]).length at hv2
    rw [gt]
    by_cases z : v < (ss_vs S).length
    · rw [if_pos z]; exact (p1 v z).cg (o3 v z) p2
    · rw [if_neg z, if_pos (by omega)]; exact pl
theorem ss_ok_add {E' : List (Nat × Nat)} {n : Nat} {two : Option Nat} (ok : ss_ok S c) (hc : c < 512) (hv : (ss_vs S).length < 20) (hn : n < (ss_vs S).length) (ht : ∀ m, two = some m → m < (ss_vs S).length) (hb : sp_eb E') (hs : sp_srt (ss_f S) (ss_w S) E') : ss_ok (ss_add S E' (ss_v S n) (two.map (ss_v S))).2 (c + 1) := by
  obtain ⟨o1, o2, o3, o4, o5, P, o6, o7⟩ := id ok
  obtain ⟨P', b1, b2, b3, b4, b5⟩ := sp_new_ok (E' := E') (two := two.map (ss_v S)) o1 hb hs (o3 n hn) (o6 n hn) (fun V z => by
    cases two with
    | none => cases z
    | some m =>
      simp only [Option.map_some, Option.some.injEq] at z
      subst z
      exact ⟨o3 m (ht m rfl), o6 m (ht m rfl)⟩)
  exact ss_ok.more ok hc hv o4 b2 (by omega) (by omega) (by omega) b4 b5 ⟨P, o6, b1⟩ (o7.mo rfl rfl b2 b1)
theorem ss_put_ok {v x y : Int32} (ok : ss_ok S c) (hc : c < 512) : ss_ok (ss_put S v x y).2 (c + 1) := by
  unfold ss_put
  cases ev : ss_ver S v with
  | none => exact ok.up hc
  | some n =>
    cases evx : sp_rg x 4095 with
    | none => exact ok.up hc
    | some k =>
      cases evy : sp_rg y 999 with
      | none => exact ok.up hc
      | some u =>
        have hk := (sp_rg_some (by omega) evx).1
        have hu := (sp_rg_some (by omega) evy).1
        have hn := ss_ver_some ok ev
        have vn := ok.2.2.1 n hn
        have v24 := vn.1.1
        have o2 := ok.2.1
        simp only
        by_cases g : (ss_vs S).length = 20 ∨ ((ss_v S n).1.length = 24 ∧ sp_fi (ss_v S n).1 k = none)
        · rw [if_pos g]; exact ok.up hc
        · rw [if_neg g]
          have hr : sp_fi (ss_v S n).1 k = none → (ss_v S n).1.length < 24 := fun z => by
            rcases Nat.lt_or_ge (ss_v S n).1.length 24 with q | q
            · exact q
            · exact absurd (Or.inr ⟨by omega, z⟩) g
          exact ss_ok_add (two := none) ok hc (by omega) hn (fun m z => absurd z (by simp)) (sp_eb_give vn.1 (by omega) (by omega) hr) (sp_srt_give vn.1 vn.2.1 (by omega))
theorem ss_remove_ok {v x : Int32} (ok : ss_ok S c) (hc : c < 512) : ss_ok (ss_remove S v x).2 (c + 1) := by
  unfold ss_remove
  cases ev : ss_ver S v with
  | none => exact ok.up hc
  | some n =>
    cases evx : sp_rg x 4095 with
    | none => exact ok.up hc
    | some k =>
      have hn := ss_ver_some ok ev
      have vn := ok.2.2.1 n hn
      have o2 := ok.2.1
      simp only
      by_cases g : (ss_vs S).length = 20
      · rw [if_pos g]; exact ok.up hc
      · rw [if_neg g]
        exact ss_ok_add (two := none) ok hc (by omega) hn (fun m z => absurd z (by simp)) (sp_eb_del vn.1) (sp_srt_del vn.2.1)
theorem ss_chosen_ok {v x y : Int32} (ok : ss_ok S c) (hc : c < 512) : ss_ok (ss_chosen S v x y).2 (c + 1) := by
  unfold ss_chosen
  cases ev : ss_ver S v with
  | none => exact ok.up hc
  | some n =>
    cases evx : sp_rg x 999 with
    | none => exact ok.up hc
    | some b =>
      simp only
      by_cases b0 : b = 0
      · rw [if_pos b0]; exact ok.up hc
      · rw [if_neg b0]
        cases evy : sp_rg y (b - 1) with
        | none => exact ok.up hc
        | some u =>
          have hn := ss_ver_some ok ev
          have vn := ok.2.2.1 n hn
          have o2 := ok.2.1
          simp only
          by_cases g : (ss_vs S).length = 20
          · rw [if_pos g]; exact ok.up hc
          · rw [if_neg g]
            exact ss_ok_add (two := none) ok hc (by omega) hn (fun m z => absurd z (by simp)) (sp_eb_filter vn.1) (sp_srt_filter vn.2.1)
theorem ss_both_ok {v u x : Int32} (ok : ss_ok S c) (hc : c < 512) : ss_ok (ss_both S v u x).2 (c + 1) := by
  unfold ss_both
  cases ev : ss_ver S v with
  | none => exact ok.up hc
  | some n =>
    cases evm : ss_ver S u with
    | none => exact ok.up hc
    | some m =>
      cases evx : sp_rg x 2 with
      | none => exact ok.up hc
      | some how =>
        have hn := ss_ver_some ok ev
        have hm := ss_ver_some ok evm
        have vn := ok.2.2.1 n hn
        have vm := ok.2.2.1 m hm
        have o2 := ok.2.1
        have sym := sp_inb_sym vn.2.1 vm.2.1
        simp only
        by_cases g : (ss_vs S).length = 20 ∨ (how = 0 ∧ 24 < (ss_v S n).1.length + (ss_v S m).1.length - sp_inb (ss_v S n).1 (ss_v S m).1)
        · rw [if_pos g]; exact ok.up hc
        · rw [if_neg g]
          have bok := sp_bth_ok (f := ss_f S) (w := ss_w S) (how := how) vn.1 vn.2.1 vm.1 (fun z => by
            rw [← sym]
            rcases Nat.lt_or_ge 24 ((ss_v S n).1.length + (ss_v S m).1.length - sp_inb (ss_v S n).1 (ss_v S m).1) with q | q
            · exact absurd (Or.inr ⟨z, q⟩) g
            · exact q)
          exact ss_ok_add (two := some m) ok hc (by omega) hn (fun m2 z => by cases z; exact hm) bok.1 bok.2
theorem ss_redo_ok {V : sp_V} {own mi : Nat} {E' : List (Nat × Nat)} (ok : ss_ok S c) (hc : c < 512) (hed : ss_ed S = some (V, own, mi)) (hb : sp_eb E') (hs : sp_srt (ss_f S) (ss_w S) E') : ss_ok (ss_redo S V own mi E').2 (c + 1) := by
  obtain ⟨o1, o2, o3, o4, o5, P, o6, o7⟩ := id ok
  obtain ⟨q1, q2, q3, q4⟩ := o7.ed hed
  obtain ⟨P', b1, b2, b3, b4, b5⟩ := sp_edn_ok (E' := E') (own := own) o1 hb hs q1 q4
  refine ⟨o1, o2, fun v hv => (o3 v hv).mo b2, o4, ⟨?_, ?_, ?_, by omega⟩, P', fun v hv => (o6 v hv).cg (o3 v hv) b1, b4, ?_, ?_, b5⟩
  · show (sp_edn (ss_f S) (ss_w S) E' V.1 V.2 own (ss_md S)).2 ≤ 1440 * (c + 1)
    omega
  · show ss_rd S ≤ c + 1
    omega
  · show ss_sl S ≤ c + 1
    omega
  · show own ≤ (sp_edn (ss_f S) (ss_w S) E' V.1 V.2 own (ss_md S)).2
    omega
  · show mi + ((sp_edn (ss_f S) (ss_w S) E' V.1 V.2 own (ss_md S)).2 - ss_md S) ≤ (sp_edn (ss_f S) (ss_w S) E' V.1 V.2 own (ss_md S)).2
    omega
theorem ss_set_ok {x y : Int32} (ok : ss_ok S c) (hc : c < 512) : ss_ok (ss_set S x y).2 (c + 1) := by
  unfold ss_set
  cases hed : ss_ed S with
  | none => exact ok.up hc
  | some t =>
    obtain ⟨V, own, mi⟩ := t
    obtain ⟨o1, o2, o3, o4, o5, P, o6, o7⟩ := id ok
    obtain ⟨q1, q2, q3, q4⟩ := o7.ed hed
    cases evx : sp_rg x 4095 with
    | none => exact ok.up hc
    | some k =>
      cases evy : sp_rg y 999 with
      | none => exact ok.up hc
      | some u =>
        have hk := (sp_rg_some (by omega) evx).1
        have hu := (sp_rg_some (by omega) evy).1
        have v24 := q1.1.1
        simp only
        by_cases g : V.1.length = 24 ∧ sp_fi V.1 k = none
        · rw [if_pos g]; exact ok.up hc
        · rw [if_neg g]
          have hr : sp_fi V.1 k = none → V.1.length < 24 := fun z => by
            rcases Nat.lt_or_ge V.1.length 24 with q | q
            · exact q
            · exact absurd ⟨by omega, z⟩ g
          exact ss_redo_ok ok hc hed (sp_eb_give q1.1 (by omega) (by omega) hr) (sp_srt_give q1.1 q1.2.1 (by omega))
theorem ss_unset_ok {x : Int32} (ok : ss_ok S c) (hc : c < 512) : ss_ok (ss_unset S x).2 (c + 1) := by
  unfold ss_unset
  cases hed : ss_ed S with
  | none => exact ok.up hc
  | some t =>
    obtain ⟨V, own, mi⟩ := t
    obtain ⟨o1, o2, o3, o4, o5, P, o6, o7⟩ := id ok
    obtain ⟨q1, q2, q3, q4⟩ := o7.ed hed
    cases evx : sp_rg x 4095 with
    | none => exact ok.up hc
    | some k => exact ss_redo_ok ok hc hed (sp_eb_del q1.1) (sp_srt_del q1.2.1)
theorem ss_begin_ok {v : Int32} (ok : ss_ok S c) (hc : c < 512) : ss_ok (ss_begin S v).2 (c + 1) := by
  unfold ss_begin
  cases ev : ss_ver S v with
  | none => exact ok.up hc
  | some n =>
    have hn := ss_ver_some ok ev
    obtain ⟨o1, o2, o3, o4, o5, P, o6, o7⟩ := id ok
    cases hed : ss_ed S with
    | some t => exact ok.up hc
    | none =>
      refine ⟨o1, o2, o3, o4, ⟨?_, ?_, ?_, by omega⟩, P, o6, o3 n hn, Nat.le_refl _, Nat.zero_le _, o6 n hn⟩
      · show ss_md S ≤ 1440 * (c + 1)
        omega
      · show ss_rd S ≤ c + 1
        omega
      · show ss_sl S ≤ c + 1
        omega
theorem ss_leave_ok (ok : ss_ok S c) (hc : c < 512) : ss_ok (ss_leave S).2 (c + 1) := by
  unfold ss_leave
  obtain ⟨o1, o2, o3, o4, o5, P, o6, o7⟩ := id ok
  cases hed : ss_ed S with
  | none => exact ok.up hc
  | some t =>
    obtain ⟨V, own, mi⟩ := t
    refine ⟨o1, o2, o3, o4, ⟨?_, ?_, ?_, by omega⟩, P, o6, trivial⟩
    · show ss_md S ≤ 1440 * (c + 1)
      omega
    · show ss_rd S ≤ c + 1
      omega
    · show ss_sl S ≤ c + 1
      omega
theorem ss_seal_ok (ok : ss_ok S c) (hc : c < 512) : ss_ok (ss_seal S).2 (c + 1) := by
  unfold ss_seal
  obtain ⟨o1, o2, o3, o4, o5, P, o6, o7⟩ := id ok
  cases hed : ss_ed S with
  | none => exact ok.up hc
  | some t =>
    obtain ⟨V, own, mi⟩ := t
    obtain ⟨q1, q2, q3, q4⟩ := o7.ed hed
    simp only
    by_cases g : (ss_vs S).length = 20
    · rw [if_pos g]; exact ok.up hc
    · rw [if_neg g]
      exact ss_ok.more (P' := P) ok hc (by omega) o4 (Nat.le_refl _) (by omega) (by omega) (by omega) q1 q4 ⟨P, o6, fun _ _ => rfl⟩ trivial
theorem ss_letter_ok {x : Int32} (ok : ss_ok S c) (hc : c < 512) : ss_ok (ss_letter S x).2 (c + 1) := by
  unfold ss_letter
  cases evx : sp_rg x 126 with
  | none => exact ok.up hc
  | some k =>
    have hk := (sp_rg_some (by omega) evx).1
    simp only
    by_cases g : k < 32
    · rw [if_pos g]; exact ok.up hc
    · rw [if_neg g]
      by_cases g2 : (ss_pg S).length = 60
      · rw [if_pos g2]; exact ok.up hc
      · rw [if_neg g2]
        obtain ⟨o1, o2, o3, o4, o5, o6⟩ := ok.up hc
        refine ⟨o1, o2, o3, ⟨?_, fun i hi => ?_⟩, o5, o6⟩
        · show (ss_pg S ++ [k]).length ≤ 60
          rw [List.length_append, List.length_singleton]
          omega
        · change i < (ss_pg S ++ [k]).length at hi
          rw [List.length_append, List.length_singleton] at hi
          show 32 ≤ (ss_pg S ++ [k]).getD i 0 ∧ (ss_pg S ++ [k]).getD i 0 ≤ 126
          have eg : (ss_pg S ++ [k]).getD i 0 = if i < (ss_pg S).length then (ss_pg S).getD i 0 else k := by
            simp only [List.getD_eq_getElem?_getD, List.getElem?_append]
            by_cases z : i < (ss_pg S).length
            · simp [z]
            · have : i = (ss_pg S).length := by omega
              subst this
              simp
          rw [eg]
          by_cases z : i < (ss_pg S).length
          · rw [if_pos z]; exact o4.2 i z
          · rw [if_neg z]; omega
theorem ss_blank_ok (ok : ss_ok S c) (hc : c < 512) : ss_ok (ss_blank S).2 (c + 1) := by
  obtain ⟨o1, o2, o3, o4, o5, o6⟩ := ok.up hc
  exact ⟨o1, o2, o3, ⟨Nat.zero_le _, fun i hi => absurd hi (Nat.not_lt_zero i)⟩, o5, o6⟩
theorem ss_forget_ok (ok : ss_ok S c) (hc : c < 512) : ss_ok (ss_forget S).2 (c + 1) := by
  unfold ss_forget
  by_cases g : (ss_vs S).length = 1
  · rw [if_pos g]; exact ok.up hc
  · rw [if_neg g]
    obtain ⟨o1, o2, o3, o4, o5, P, o6, o7⟩ := ok.up hc
    have l1 : ((ss_vs S).take ((ss_vs S).length - 1)).length = (ss_vs S).length - 1 := by rw [List.length_take]; omega
    have gv : ∀ v, v < (ss_vs S).length - 1 → ((ss_vs S).take ((ss_vs S).length - 1)).getD v ([], []) = ss_v S v := fun v hv => by
      unfold ss_v
      simp only [List.getD_eq_getElem?_getD, List.getElem?_take]
      rw [if_pos hv]
    refine ⟨o1, ⟨?_, ?_, ?_⟩, fun v hv => ?_, o4, o5, P, fun v hv => ?_, o7⟩
    · show 1 ≤ ((ss_vs S).take ((ss_vs S).length - 1)).length
      omega
    · show ((ss_vs S).take ((ss_vs S).length - 1)).length ≤ 20
      omega
    · show ((ss_vs S).take ((ss_vs S).length - 1)).getD 0 ([], []) = ([], [])
      rw [gv 0 (by omega)]
      exact o2.2.2
    · change v < ((ss_vs S).take ((ss_vs S).length - 1)).length at hv
      show sp_vok (ss_f S) (ss_w S) (ss_md S) (((ss_vs S).take ((ss_vs S).length - 1)).getD v ([], []))
      rw [gv v (by omega)]
      exact o3 v (by omega)
    · change v < ((ss_vs S).take ((ss_vs S).length - 1)).length at hv
      show sp_plc (ss_f S) (ss_w S) P (((ss_vs S).take ((ss_vs S).length - 1)).getD v ([], []))
      rw [gv v (by omega)]
      exact o6 v (by omega)
theorem sp_vok0 {f w md : Nat} : sp_vok f w md ([], []) := by
  have eN : sp_N f w [] = [] := sp_lay_nil (Nat.le_refl _)
  exact ⟨⟨Nat.zero_le _, fun i hi => absurd hi (Nat.not_lt_zero i)⟩, fun i j _ hj => absurd hj (Nat.not_lt_zero j), by rw [eN]; rfl, fun i hi => absurd hi (Nat.not_lt_zero i)⟩
theorem ss_scheme_ok {x y : Int32} (ok : ss_ok S c) (hc : c < 512) : ss_ok (ss_scheme S x y).2 (c + 1) := by
  unfold ss_scheme
  cases evx : sp_rg x 65535 with
  | none => exact ok.up hc
  | some f =>
    have hf := (sp_rg_some (by omega) evx).1
    simp only
    by_cases g : f % 2 = 0
    · rw [if_pos g]; exact ok.up hc
    · rw [if_neg g]
      cases evy : sp_rg y 30 with
      | none => exact ok.up hc
      | some w =>
        have hw := (sp_rg_some (by omega) evy).1
        simp only
        by_cases g2 : w < 3
        · rw [if_pos g2]; exact ok.up hc
        · rw [if_neg g2]
          obtain ⟨o1, o2, o3, o4, o5, P, o6, o7⟩ := ok.up hc
          have l1 : ((ss_vs S).take 1).length = 1 := by rw [List.length_take]; omega
          have g0 : ((ss_vs S).take 1).getD 0 ([], []) = ([], []) := by
            have := o2.2.2
            unfold ss_v at this
            simp only [List.getD_eq_getElem?_getD, List.getElem?_take] at this ⊢
            rw [if_pos (by omega)]
            exact this
          refine ⟨⟨by show f < 65536; omega, by show f % 2 = 1; omega, by show 3 ≤ w; omega, hw⟩, ⟨?_, ?_, g0⟩, fun v hv => ?_, o4, o5, P, fun v hv => ?_, trivial⟩
          · show 1 ≤ ((ss_vs S).take 1).length
            omega
          · show ((ss_vs S).take 1).length ≤ 20
            omega
          · change v < ((ss_vs S).take 1).length at hv
            have v0 : v = 0 := by omega
            subst v0
            show sp_vok f w (ss_md S) (((ss_vs S).take 1).getD 0 ([], []))
            rw [g0]
            exact sp_vok0
          · change v < ((ss_vs S).take 1).length at hv
            have v0 : v = 0 := by omega
            subst v0
            show sp_plc f w P (((ss_vs S).take 1).getD 0 ([], []))
            rw [g0]
            exact fun i hi => absurd hi (Nat.not_lt_zero i)
theorem sp_sets_ok {f w own : Nat} (s : sp_sc f w) : ∀ (L : List (Nat × Nat)) (V : sp_V) (md : Nat) (P : Nat → Nat), sp_vok f w md V → sp_plc f w P V → V.1.length + L.length ≤ 24 → (∀ e ∈ L, e.1 < 4096 ∧ e.2 < 1000) → ∃ P' : Nat → Nat, (∀ x, x < md → P' x = P x) ∧ md ≤ (sp_sets f w own L V md).2 ∧ (sp_sets f w own L V md).2 ≤ md + 96 * L.length ∧ sp_vok f w (sp_sets f w own L V md).2 (sp_sets f w own L V md).1 ∧ sp_plc f w P' (sp_sets f w own L V md).1
  | [], V, md, P, v, p, _, _ => ⟨P, fun _ _ => rfl, Nat.le_refl _, Nat.le_refl _, v, p⟩
  | e :: L, V, md, P, v, p, hl, hL => by
    have he := hL e List.mem_cons_self
    simp only [List.length_cons] at hl
    have gl := sp_give_len (o := sp_ord f w) (A := V.1) (a := e.1) (b := e.2)
    obtain ⟨P1, b1, b2, b3, b4, b5⟩ := sp_edn_ok (E' := sp_give (sp_ord f w) V.1 e.1 e.2) (own := own) s (sp_eb_give v.1 he.1 he.2 (fun _ => by omega)) (sp_srt_give v.1 v.2.1 he.1) v p
    obtain ⟨P2, c1, c2, c3, c4, c5⟩ := sp_sets_ok s L (sp_give (sp_ord f w) V.1 e.1 e.2, (sp_edn f w (sp_give (sp_ord f w) V.1 e.1 e.2) V.1 V.2 own md).1) (sp_edn f w (sp_give (sp_ord f w) V.1 e.1 e.2) V.1 V.2 own md).2 P1 b4 b5 (by simp only; omega) (fun x hx => hL x (List.mem_cons_of_mem _ hx))
    refine ⟨P2, fun x hx => by rw [c1 x (by omega)]; exact b1 x hx, ?_, ?_, c4, c5⟩
    · exact Nat.le_trans b2 c2
    · show (sp_sets f w own L _ _).2 ≤ md + 96 * (e :: L).length
      rw [List.length_cons]
      omega
theorem ss_read_ok (ok : ss_ok S c) (hc : c < 512) : ss_ok (ss_read S).2 (c + 1) := by
  unfold ss_read
  cases hm : sp_map (ss_pg S) with
  | none => exact ok.up hc
  | some L =>
    simp only
    by_cases g : (ss_vs S).length = 20
    · rw [if_pos g]; exact ok.up hc
    · rw [if_neg g]
      obtain ⟨o1, o2, o3, o4, o5, P, o6, o7⟩ := id ok
      obtain ⟨l15, lb⟩ := sp_map_some o4.1 hm
      obtain ⟨P', b1, b2, b3, b4, b5⟩ := sp_sets_ok (own := ss_md S) o1 L ([], []) (ss_md S) P sp_vok0 (fun i hi => absurd hi (Nat.not_lt_zero i)) (by show 0 + L.length ≤ 24; omega) lb
      exact ss_ok.more ok hc (by omega) ⟨Nat.zero_le _, fun i hi => absurd hi (Nat.not_lt_zero i)⟩ b2 (by omega) (by omega) (by omega) b4 b5 ⟨P, o6, b1⟩ (o7.mo rfl rfl b2 b1)
end KEE
