/-! THE REFERENCE: read, whole -/
section MEC
variable {ad : Nat → Nat} {d c : Nat} {h : tv_AH} {S : sp_S}
/-- the page is a map: its entries -/
theorem sp_map_some {pg : List Nat} {L : List (Nat × Nat)} (hl : pg.length ≤ 60) (h : sp_map pg = some L) : L.length ≤ 15 ∧ ∀ e ∈ L, e.1 < 4096 ∧ e.2 < 1000 := by
  unfold sp_map at h
  by_cases he : pg = []
  · rw [if_pos he] at h
    cases h
    exact ⟨by simp, fun e hh => absurd hh List.not_mem_nil⟩
  · rw [if_neg he] at h
    by_cases hc : (sp_along pg sp_c0 0).1 = pg.length ∧ (sp_along pg sp_c0 0).2.2.2.1 = true
    · rw [if_pos hc] at h
      have b := sp_cb_along pg sp_c0 0 ⟨by decide, by decide, (fun n hn => by cases hn), fun e he => absurd he List.not_mem_nil⟩
      cases hn : (sp_along pg sp_c0 0).2.2.2.2 with
      | none => rw [hn] at h; cases h
      | some n =>
        rw [hn] at h
        simp only [Option.some.injEq] at h
        subst h
        obtain ⟨b1, b2, b3, b4⟩ := b
        have b3 := b3 n hn
        rw [hc.2] at b1 b3
        rw [hn] at b1
        simp only [if_true, Option.isSome_some] at b1 b3
        refine ⟨by rw [List.length_append, List.length_singleton]; omega, fun e hh => ?_⟩
        rcases List.mem_append.mp hh with z | z
        · exact b4 e z
        · rw [List.mem_singleton] at z
          subst z
          exact ⟨b2, by simp only; omega⟩
    · rw [if_neg hc] at h
      cases h
theorem mt_read (ok : ss_ok S c) (hc : c < 512) (r : md_rep S h) {K : Int32 → tv_AH → Prop} (hK : ∀ h', md_rep (ss_read S).2 h' → tv_ag md_hi h h' → K (ss_read S).1 h') : tv_CI ad (d + 9) yX3_read [.ref (ad 400)] h K := by
  obtain ⟨o1, o2, o3, o4, o5, o6⟩ := id ok
  refine nX3_read h (md_goAlong ok r (fun h1 m1 a1 => ?_))
  have r1 := md_rep.rC ok r a1 (fun q i z => by unfold md_rC at z; omega)
  have ahi : tv_ag md_hi h h1 := a1.mo (fun q i z => by unfold md_rC at z; unfold md_hi; omega)
  have hle := sp_along_le (ss_pg S) sp_c0 0
  have bb := sp_cb_along (ss_pg S) sp_c0 0 ⟨by decide, by decide, (fun n hn => by cases hn), fun e he => absurd he List.not_mem_nil⟩
  have no : sp_map (ss_pg S) = none → tv_Wp ad RX3 cX3_read 2 (some .int) (d + 8) (tv_pI K) 38 [(0, .ref (ad 400))] [.int 0] h1 := by
    intro hm
    refine bX3_read_38 _ h1 (tv_b0 ?_)
    have e : ss_read S = (-103, S) := by unfold ss_read; rw [hm]
    rw [e] at hK
    exact hK h1 r1 ahi
  have yes : ∀ L, sp_map (ss_pg S) = some L → (ss_pg S = [] → L = [] ∧ (sp_along (ss_pg S) sp_c0 0).2.1 = []) → (ss_pg S ≠ [] → ∃ n, (sp_along (ss_pg S) sp_c0 0).2.2.2.1 = true ∧ (sp_along (ss_pg S) sp_c0 0).2.2.2.2 = some n ∧ L = (sp_along (ss_pg S) sp_c0 0).2.1 ++ [((sp_along (ss_pg S) sp_c0 0).2.2.1, n)]) → tv_Wp ad RX3 cX3_read 2 (some .int) (d + 8) (tv_pI K) 38 [(0, .ref (ad 400))] [.int 1] h1 := by
    intro L hm h0 hn0
    obtain ⟨l15, lb⟩ := sp_map_some o4.1 hm
    refine bX3_read_38 _ h1 (tv_b1 ?_)
    rw [r1.2.1, r1.2.2.2.1.1]
    have e : ss_read S = if (ss_vs S).length = 20 then (-104, S) else (nI (ss_vs S).length, (S.1, ss_vs S ++ [(sp_sets (ss_f S) (ss_w S) (ss_md S) L ([], []) (ss_md S)).1], [], ((sp_sets (ss_f S) (ss_w S) (ss_md S) L ([], []) (ss_md S)).2, ss_rd S + 1, ss_sl S), ss_ed S)) := by unfold ss_read; rw [hm]
    rw [e] at hK
    refine tv_ne (ss_vs S).length 20 (fun z => ?_) (fun z => ?_)
    · rw [if_neg z] at hK
      -- from the entries on
      have fin : ∀ (h2 h5 h6 : tv_AH), md_L L h2 → tv_ag md_rC h h2 → h5 = tv_wI h2 400 8 (h2.1 400 8 + 1) → h6 = tv_wI h5 400 0 0 → tv_CI ad (d + 8) yX3_readNow [.ref (ad 400)] h6 (fun r6 h7 => K r6 h7) := by
        intro h2 h5 h6 m2 a2 w5 w6
        have r2 := md_rep.rC ok r a2 (fun q i z => by unfold md_rC at z; omega)
        rw [r2.2.2.2.2.1.2.1, nI_1] at w5
        have a6 : tv_ag (fun q i => q = 400 ∧ (i = 8 ∨ i = 0)) h2 h6 := by rw [w6, w5]; exact (tv_ag.rf.wI ⟨rfl, Or.inl rfl⟩).wI ⟨rfl, Or.inr rfl⟩
        have nm : ∀ v q i, md_rM v q i → ¬ (q = 400 ∧ (i = 8 ∨ i = 0)) := fun v q i y => by unfold md_rM md_rE md_rN at y; omega
        obtain ⟨q1, q2, q3, q4, q5, q6⟩ := id r2
        have hed6 := q6.ag a6 (nm 20) (by omega) (by omega)
        obtain ⟨E0, e0, b0, hE0⟩ : ∃ E0, md_E 20 E0 h6 ∧ sp_eb E0 ∧ (∀ V own mi, ss_ed S = some (V, own, mi) → V.1 = E0) := by
          unfold md_ed at hed6
          cases hed : ss_ed S with
          | none =>
            rw [hed] at hed6
            obtain ⟨-, E0, u1, u2⟩ := hed6
            exact ⟨E0, u1, u2, fun V own mi y => by cases y⟩
          | some t =>
            obtain ⟨V, own, mi⟩ := t
            rw [hed] at hed6
            exact ⟨V.1, hed6.2.2.1, hed6.2.2.2.1, fun V' own' mi' y => by cases y; rfl⟩
        refine md_readNow (S := S) (L := L) (E0 := E0) ⟨o1, o2.1, by omega, o2.2.2, by omega⟩ (q1.ag a6 (by omega) (by omega)) (by rw [a6.2 _ _ (by omega)]; exact q2) (fun v hv => (q3 v hv).ag a6 (nm v)) (by rw [a6.2 _ _ (by omega)]; exact q5.1) (m2.ag a6 (by omega) (fun i => by omega) (fun i => by omega)) l15 lb e0 b0 (fun h7 vs7 n7 v7 md7 mi7 e7 m7 a7 => ?_)
        refine hK h7 ⟨(q1.ag a6 (by omega) (by omega)).ag a7 (by omega) (by omega), ?_, ?_, ⟨?_, fun i hi => absurd (show i < 0 from hi) (by omega)⟩, ⟨md7, ?_, ?_⟩, ?_⟩ ?_
        · show h7.1 400 4 = nI (ss_vs S ++ [_]).length
          rw [List.length_append, List.length_singleton]; exact v7
        · intro v hv
          change v < (ss_vs S ++ [_]).length at hv
          rw [List.length_append, List.length_singleton] at hv
          show md_M v (ss_f S) (ss_w S) ((ss_vs S ++ [_]).getD v ([], [])).1 ((ss_vs S ++ [_]).getD v ([], [])).2 (2 ^ 30) h7
          rw [ss_v_add]
          by_cases y : v < (ss_vs S).length
          · rw [if_pos y]; exact vs7 v y
          · have : v = (ss_vs S).length := by omega
            subst this
            rw [if_neg y, if_pos rfl]
            exact n7
        · rw [a7.2 _ _ (by omega), w6, tv_wIe]; rfl
        · rw [a7.2 _ _ (by omega), w6, tv_wIc (by omega), w5, tv_wIe]
        · rw [a7.2 _ _ (by omega), a6.2 _ _ (by omega)]; exact q5.2.2
        · show md_ed (S.1, ss_vs S ++ [(sp_sets (ss_f S) (ss_w S) (ss_md S) L ([], []) (ss_md S)).1], [], ((sp_sets (ss_f S) (ss_w S) (ss_md S) L ([], []) (ss_md S)).2, ss_rd S + 1, ss_sl S), ss_ed S) h7
          unfold md_ed at hed6 ⊢
          show (match ss_ed S with
            | none => h7.1 400 5 = 0 ∧ ∃ E0, md_E 20 E0 h7 ∧ sp_eb E0
            | some (V, own, mi) => h7.1 400 5 = 1 ∧ h7.1 400 6 = nI mi ∧ md_M 20 (ss_f S) (ss_w S) V.1 V.2 own h7)
          cases hed : ss_ed S with
          | none =>
            rw [hed] at hed6
            exact ⟨by rw [a7.2 _ _ (by omega)]; exact hed6.1, E0, e7, b0⟩
          | some t =>
            obtain ⟨V, own, mi⟩ := t
            rw [hed] at hed6
            exact ⟨by rw [a7.2 _ _ (by omega)]; exact hed6.1, by rw [mi7]; exact hed6.2.1, m7 own V hed6.2.2 (hE0 V own mi hed)⟩
        · exact ((a2.mo (fun q i y => by unfold md_rC at y; unfold md_hi; omega)).tr (a6.mo (fun q i y => by unfold md_hi; omega))).tr (a7.mo (fun q i y => by unfold md_hi; omega))
      refine pk_le (ss_pg S).length 0 (fun y => fun h5 w5 h6 w6 => ?_) (fun y => ?_)
      · have hnil : ss_pg S = [] := List.eq_nil_of_length_eq_zero (by omega)
        obtain ⟨e1, e2⟩ := h0 hnil
        refine fin h1 h5 h6 ⟨?_, fun i hi => ?_⟩ a1 w5 w6
        · rw [e1, m1.1, e2]
        · rw [e1] at hi; exact absurd hi (by simp)
      · have hnn : ss_pg S ≠ [] := fun q => by rw [q] at y; simp at y
        obtain ⟨n, e1, e2, e3⟩ := hn0 hnn
        have bl := bb.1
        refine md_keepEntry m1 (by omega) e2 e1 (fun h4 k1 k2 k3 k4 => fun h5 w5 h6 w6 => ?_)
        refine fin h4 h5 h6 ⟨?_, fun i hi => ?_⟩ (a1.tr k3) w5 w6
        · rw [e3, List.length_append, List.length_singleton]; exact k1
        · rw [e3] at hi ⊢; exact k2 i hi
    · rw [if_pos z] at hK
      exact hK h1 r1 ahi
  rw [r1.2.2.2.1.1]
  by_cases hp : ss_pg S = []
  · have hm : sp_map (ss_pg S) = some [] := by unfold sp_map; rw [if_pos hp]
    have hal : sp_along (ss_pg S) sp_c0 0 = (0, sp_c0) := by rw [hp]; rfl
    have y := yes [] hm (fun _ => ⟨rfl, by rw [hal]; rfl⟩) (fun z => absurd hp z)
    have hl0 : (ss_pg S).length = 0 := by rw [hp]; rfl
    rw [hal, hl0]
    exact tv_ne 0 0 (fun z => absurd rfl z) (fun _ => pk_eq 0 0 (fun _ => y) (fun z => absurd rfl z))
  · have hl1 : (ss_pg S).length ≠ 0 := fun z => hp (List.eq_nil_of_length_eq_zero z)
    have hmap : sp_map (ss_pg S) = if (sp_along (ss_pg S) sp_c0 0).1 = (ss_pg S).length ∧ (sp_along (ss_pg S) sp_c0 0).2.2.2.1 = true then (match (sp_along (ss_pg S) sp_c0 0).2.2.2.2 with
      | some n => some ((sp_along (ss_pg S) sp_c0 0).2.1 ++ [((sp_along (ss_pg S) sp_c0 0).2.2.1, n)])
      | none => none) else none := by unfold sp_map; rw [if_neg hp]; rfl
    have m4 := m1.2.2.2.1
    have m5 := m1.2.2.2.2
    rw [m4, m5]
    refine tv_ne (sp_along (ss_pg S) sp_c0 0).1 (ss_pg S).length (fun z => no (by rw [hmap, if_neg (fun y => z y.1)])) (fun z => pk_eq (ss_pg S).length 0 (fun y => absurd y hl1) (fun _ => ?_))
    cases hv : (sp_along (ss_pg S) sp_c0 0).2.2.2.1 with
    | false => exact tv_c0 (no (by rw [hmap, if_neg (fun y => by rw [hv] at y; exact absurd y.2 (by decide))]))
    | true =>
      rw [if_pos ⟨z, hv⟩] at hmap
      refine tv_c1 ?_
      cases hn : (sp_along (ss_pg S) sp_c0 0).2.2.2.2 with
      | none =>
        rw [hn] at hmap
        exact ⟨fun _ => no hmap, fun y => absurd rfl y⟩
      | some n =>
        rw [hn] at hmap
        have b3 := bb.2.2.1 n hn
        refine ⟨fun y => absurd y (tv_m1 (by split at b3 <;> omega)), fun _ => yes _ hmap (fun y => absurd y hp) (fun _ => ⟨n, hv, hn, rfl⟩)⟩
end MEC
