/-! THE COMPONENT: a tree is laid -/
section CTF
variable {ad : Nat → Nat} {d f w : Nat} {h : tv_AH} {j : Fin 22} {E : List (Nat × Nat)}
theorem sp_lay_hd {g : Nat → Nat} {k a b : Nat} (hab : a < b) : ∃ T, sp_lay g (k + 1) a b = (sp_kd g a b, 6 - k, a, b - a) :: T ∧ (sp_one g a b → T = []) ∧ (¬ sp_one g a b → T = (sp_runs (fun i => sp_part (g i) (6 - k)) a b).flatMap (fun r => sp_lay g k r.1 r.2)) := by
  by_cases o : sp_one g a b
  · refine ⟨[], ?_, fun _ => rfl, fun z => absurd o z⟩
    rw [sp_lay_one hab o]
    unfold sp_kd
    rw [if_pos o]
  · refine ⟨_, ?_, fun z => absurd z o, fun _ => rfl⟩
    rw [sp_lay_br hab o]
    unfold sp_kd
    rw [if_neg o]
theorem sp_kd_le {g : Nat → Nat} {a b : Nat} : sp_kd g a b ≤ 2 := by
  unfold sp_kd
  split
  · split <;> omega
  · omega
theorem ct_layTree (s : sp_sc f w) (hb : sp_eb E) (hs : sp_srt f w E) : ∀ k, k ≤ 7 → 1 ≤ k → ct_LT ad d f w j E k
  | 0, _, z => absurd z (by omega)
  | k + 1, hk, _ => by
    intro a b c h K e hab hbn agr hc hr hK
    have h24 := hb.1
    have hak := hb.2 a (by omega)
    obtain ⟨T, hT, T1, T2⟩ := sp_lay_hd (g := sp_g f w E) (k := k) hab
    have hlen : (sp_lay (sp_g f w E) (k + 1) a b).length = T.length + 1 := by rw [hT, List.length_cons]
    have hkd := sp_kd_le (g := sp_g f w E) (a := a) (b := b)
    rw [hlen] at hr
    rw [show 7 - (k + 1) = 6 - k by omega] at agr
    have hin : vp_in (nI c) 96 := pk_in c 96 (by omega)
    rw [show d + (2 * (k + 1) + 3) = d + (2 * k + 4) + 1 by omega, show 7 - (k + 1) = 6 - k by omega]
    refine nX1_layTree _ _ _ _ h (pk_le b a (fun z => absurd z (by omega)) (fun _ => ?_))
    rw [hc, tv_nc c, tv_nc a]
    refine pk_lt c 96 (fun _ h1 w1 => ?_) (fun z => absurd z (by omega))
    rw [nI_1] at w1
    have e1 : ct_E f w j E h1 := e.cg (fun q i r => by rw [w1]; exact tv_wIc (by unfold ct_rE at r; omega))
    refine ct_kindOfTree (d := d + (2 * k + 3)) s e1 hb hs (by omega) hab hbn agr ?_
    refine ⟨hin, fun h3 w3 => ⟨hin, fun h4 w4 => ⟨hin, fun h5 w5 => ⟨hin, fun h6 w6 => ⟨pk_in a 24 (by omega), pk_in a 24 (by omega), ?_⟩⟩⟩⟩⟩
    rw [pk_sub (Nat.le_of_lt hab)] at w6
    have e6 : ct_E f w j E h6 := e1.cg (fun q i r => by
      rw [w6, tv_wIc (by unfold ct_rE at r; omega), w5, tv_wIc (by unfold ct_rE at r; omega), w4, tv_wIc (by unfold ct_rE at r; omega), w3, tv_wIc (by unfold ct_rE at r; omega)])
    rw [(e6.2 a (by omega)).2.2, (e6.2 a (by omega)).1]
    refine ct_placeOf (d := d + (2 * k + 2)) (f := f) (w := w) (E := E) (x := (sp_kd (sp_g f w E) a b, 6 - k, a, b - a)) hkd (by simp only; omega) hak.1 ?_
    refine ⟨hin, fun h8 w8 => ?_⟩
    have ag8 : tv_agJ (ct_rL j c 1 a b) (ct_rM j c 1) h h8 := by
      subst w1 w3 w4 w5 w6 w8
      refine (((((tv_agJ.rf.wI ?_).wI ?_).wI ?_).wI ?_).wI ?_).wJ ?_
      · exact Or.inl ⟨rfl, rfl⟩
      · unfold ct_rL; omega
      · unfold ct_rL; omega
      · unfold ct_rL; omega
      · unfold ct_rL; omega
      · unfold ct_rM; omega
    have c8 : h8.1 (tv_tp j) 5 = nI (c + 1) := by
      subst w1 w3 w4 w5 w6 w8
      rw [tv_wJ1, tv_wIc (by omega), tv_wIc (by omega), tv_wIc (by omega), tv_wIc (by omega), tv_wIe]
    have r8 : h8.1 (tv_tp j + 7) c = nI (sp_kd (sp_g f w E) a b) ∧ h8.1 (tv_tp j + 8) c = nI (6 - k) ∧ h8.1 (tv_tp j + 9) c = nI a ∧ h8.1 (tv_tp j + 10) c = nI (b - a) ∧ h8.2.1 (tv_tp j + 13) c = lN (sp_pl f w E (sp_kd (sp_g f w E) a b, 6 - k, a, b - a)) := by
      subst w1 w3 w4 w5 w6 w8
      rw [tv_wJ1]
      refine ⟨?_, ?_, ?_, ?_, ?_⟩
      · rw [tv_wIc (by omega), tv_wIc (by omega), tv_wIc (by omega), tv_wIe]
      · rw [tv_wIc (by omega), tv_wIc (by omega), tv_wIe]
      · rw [tv_wIc (by omega), tv_wIe]
      · rw [tv_wIe]
      · rw [tv_wJ2, if_pos ⟨rfl, rfl⟩]
    have e8 : ct_E f w j E h8 := e.cg (fun q i r => ag8.2.1 q i (by unfold ct_rE at r; unfold ct_rL; omega))
    -- what the end makes of it
    have done : ∀ (h9 h10 : tv_AH), ct_LR f w j E (c + 1) T a b h8 h9 → tv_agJ (fun q i => (tv_tp j + 11 ≤ q ∧ q ≤ tv_tp j + 12) ∧ i = c) (fun _ _ => False) h9 h10 → h10.1 (tv_tp j + 11) c = sp_mask (sp_g f w E) (sp_kd (sp_g f w E) a b, 6 - k, a, b - a) → h10.1 (tv_tp j + 12) c = nI (T.length + 1) → (∀ t, a ≤ t → t < b → h9.1 (tv_tp j + 4) t = sp_elvF (-1) (sp_lay (sp_g f w E) (k + 1) a b) t) → K h10 := by
      intro h9 h10 lr ag hm hsp hel
      obtain ⟨l1, l2, l3, l4⟩ := lr
      refine hK h10 ⟨?_, fun i hi => ?_, fun t t1 t2 => ?_, ?_⟩
      · rw [ag.2.1 _ _ (by omega), l1, hlen]
        exact congrArg nI (by omega)
      · rw [hT]
        cases i with
        | zero =>
          have q9 : ∀ q, tv_tp j + 7 ≤ q → q ≤ tv_tp j + 10 → h10.1 q c = h8.1 q c := fun q q1 q2 => by
            rw [ag.2.1 _ _ (by omega), l4.2.1 _ _ (by unfold ct_rL; omega)]
          show ct_row f w j E h10 c (sp_kd (sp_g f w E) a b, 6 - k, a, b - a)
          refine ⟨?_, ?_, ?_, ?_, hm, ?_, ?_⟩
          · rw [q9 _ (by omega) (by omega)]; exact r8.1
          · rw [q9 _ (by omega) (by omega)]; exact r8.2.1
          · rw [q9 _ (by omega) (by omega)]; exact r8.2.2.1
          · rw [q9 _ (by omega) (by omega)]; exact r8.2.2.2.1
          · rw [hsp]
            show nI (T.length + 1) = nI (sp_lay (sp_g f w E) (7 - (6 - k)) a (a + (b - a))).length
            rw [show 7 - (6 - k) = k + 1 by omega, show a + (b - a) = b by omega, hlen]
          · rw [ag.2.2 _ _ (fun z => z), l4.2.2 _ _ (by unfold ct_rM; omega)]; exact r8.2.2.2.2
        | succ i =>
          rw [sp_n_c]
          rw [hlen] at hi
          rw [show c + (i + 1) = c + 1 + i by omega]
          refine (l2 i (by omega)).cg (fun q q1 q2 => ag.2.1 _ _ (by omega)) (ag.2.2 _ _ (fun z => z))
      · rw [ag.2.1 _ _ (by omega)]
        exact hel t t1 t2
      · rw [hlen]
        refine ((ag8.mo ?_ ?_).tr (l4.mo ?_ ?_)).tr (ag.mo ?_ ?_)
        · intro q i z; unfold ct_rL at *; omega
        · intro q i z; unfold ct_rM at *; omega
        · intro q i z; unfold ct_rL at *; omega
        · intro q i z; unfold ct_rM at *; omega
        · intro q i z; unfold ct_rL; omega
        · intro q i z; exact z.elim
    by_cases o : sp_one (sp_g f w E) a b
    · have hT0 := T1 o
      have hk2 : sp_kd (sp_g f w E) a b ≠ 2 := by unfold sp_kd; rw [if_pos o]; split <;> omega
      refine tv_ne (sp_kd (sp_g f w E) a b) 2 (fun _ => ⟨hin, fun h9 w9 => ?_⟩) (fun z => absurd z hk2)
      refine ct_levelEntries (d := d + (2 * k + 3)) (Nat.le_of_lt hab) (by omega) (fun h10 v10 ag10 => ⟨hin, fun h11 w11 => ?_⟩)
      have c10 : h10.1 (tv_tp j) 5 = nI (c + 1) := by rw [ag10.2 _ _ (by omega), w9, tv_wIc (by omega)]; exact c8
      rw [c10, pk_sub (by omega), show c + 1 - c = 1 by omega] at w11
      have hmk : sp_mask (sp_g f w E) (sp_kd (sp_g f w E) a b, 6 - k, a, b - a) = -1 := by unfold sp_mask; rw [if_neg hk2]
      -- the same heap, the writes in another order
      refine hK h11 ⟨?_, fun i hi => ?_, fun t t1 t2 => ?_, ?_⟩
      · rw [w11, tv_wIc (by omega), c10, hlen, hT0]; rfl
      · rw [hT, hT0]
        rw [hlen, hT0] at hi
        have : i = 0 := by simp only [List.length_nil] at hi; omega
        subst this
        have q9 : ∀ q, tv_tp j + 7 ≤ q → q ≤ tv_tp j + 10 → h11.1 q c = h8.1 q c := fun q q1 q2 => by
          rw [w11, tv_wIc (by omega), ag10.2 _ _ (by omega), w9, tv_wIc (by omega)]
        show ct_row f w j E h11 c (sp_kd (sp_g f w E) a b, 6 - k, a, b - a)
        refine ⟨?_, ?_, ?_, ?_, ?_, ?_, ?_⟩
        · rw [q9 _ (by omega) (by omega)]; exact r8.1
        · rw [q9 _ (by omega) (by omega)]; exact r8.2.1
        · rw [q9 _ (by omega) (by omega)]; exact r8.2.2.1
        · rw [q9 _ (by omega) (by omega)]; exact r8.2.2.2.1
        · rw [w11, tv_wIc (by omega), ag10.2 _ _ (by omega), w9, tv_wIe]; exact hmk.symm
        · rw [w11, tv_wIe]
          show nI 1 = nI (sp_lay (sp_g f w E) (7 - (6 - k)) a (a + (b - a))).length
          rw [show 7 - (6 - k) = k + 1 by omega, show a + (b - a) = b by omega, hlen, hT0]
          rfl
        · rw [w11]
          show h10.2.1 (tv_tp j + 13) c = _
          rw [ag10.1, w9]
          exact r8.2.2.2.2
      · rw [w11, tv_wIc (by omega), v10 t t1 t2, hT, hT0]
        show _ = (if sp_kd (sp_g f w E) a b ≠ 2 ∧ a ≤ t ∧ t < a + (b - a) then nI (6 - k) else -1)
        rw [if_pos ⟨hk2, t1, by omega⟩]
      · rw [hlen, hT0]
        subst w11 w9
        refine tv_agJ.wI (tv_agJ.tr (tv_agJ.wI ag8 ?_) (ag10.J.mo ?_ (fun q i z => z))) ?_
        · unfold ct_rL; omega
        · intro q i z; unfold ct_rL; omega
        · unfold ct_rL; simp only [List.length_nil]; omega
    · have hT0 := T2 o
      have hk2 : sp_kd (sp_g f w E) a b = 2 := by unfold sp_kd; rw [if_neg o]
      have hk1 : 1 ≤ k := by
        rcases Nat.lt_or_ge 0 k with z | z
        · exact z
        · exact absurd (sp_agr_one (by omega) (fun i _ => sp_hash_lt s) agr) o
      refine tv_ne (sp_kd (sp_g f w E) a b) 2 (fun z => absurd hk2 z) (fun _ => ?_)
      have IH := ct_layTree s hb hs k (by omega) hk1
      refine ct_layBelow s IH hb hk1 (by omega) e8 hab hbn agr c8 (by rw [← hT0]; omega) (fun h12 lr => ⟨hin, fun h13 w13 => ⟨hin, fun h14 w14 => ?_⟩⟩)
      rw [← hT0] at lr
      have c13 : h13.1 (tv_tp j) 5 = nI (c + 1 + T.length) := by rw [w13, tv_wIc (by omega)]; exact lr.1
      rw [c13, pk_sub (by omega), show c + 1 + T.length - c = T.length + 1 by omega] at w14
      subst w13 w14
      refine done h12 _ lr ((tv_agJ.rf.wI ⟨⟨by omega, by omega⟩, rfl⟩).wI ⟨⟨by omega, by omega⟩, rfl⟩) ?_ tv_wIe (fun t t1 t2 => ?_)
      · rw [tv_wIc (by omega), tv_wIe]
        unfold sp_mask
        rw [if_pos hk2]
        rfl
      · rw [lr.2.2.1 t t1 t2, hT]
        show _ = sp_elvF (if sp_kd (sp_g f w E) a b ≠ 2 ∧ a ≤ t ∧ t < a + (b - a) then nI (6 - k) else -1) T t
        rw [if_neg (fun z => z.1 hk2)]
end CTF
