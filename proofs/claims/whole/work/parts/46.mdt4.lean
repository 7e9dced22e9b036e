/-! THE REFERENCE: what it tells of a map -/
theorem sp_lay_agr (g : Nat → Nat) : ∀ k a b, k ≤ 7 → sp_agr g a b (7 - k) → ∀ x ∈ sp_lay g k a b, sp_agr g x.2.2.1 (x.2.2.1 + x.2.2.2) x.2.1
  | 0, a, b, _, _, x, h => absurd h List.not_mem_nil
  | k + 1, a, b, hk, ha, x, h => by
    by_cases hab : a < b
    · by_cases o : sp_one g a b
      · rw [sp_lay_one hab o, List.mem_singleton] at h
        subst h
        simp only
        rw [show a + (b - a) = b by omega, show 6 - k = 7 - (k + 1) by omega]
        exact ha
      · rw [sp_lay_br hab o] at h
        rcases List.mem_cons.mp h with z | z
        · subst z
          simp only
          rw [show a + (b - a) = b by omega, show 6 - k = 7 - (k + 1) by omega]
          exact ha
        · obtain ⟨r, hr, hx⟩ := List.mem_flatMap.mp z
          obtain ⟨r1, r2, r3, r4⟩ := sp_isR_mem _ a (sp_runs_is _ (Nat.le_of_lt hab)) r hr
          refine sp_lay_agr g k r.1 r.2 (by omega) ?_ x hx
          rw [show 7 - k = (7 - (k + 1)) + 1 by omega]
          exact sp_agr_sub ha r1 r2 r3 (by rw [show 7 - (k + 1) = 6 - k by omega]; exact r4)
    · rw [sp_lay_nil (by omega)] at h
      exact absurd h List.not_mem_nil
/-- a branch lies at a level below 6 -/
theorem sp_br_lv {f w : Nat} {E : List (Nat × Nat)} {i : Nat} (s : sp_sc f w) (hi : i < (sp_N f w E).length) (h2 : (sp_n (sp_N f w E) i).1 = 2) : (sp_n (sp_N f w E) i).2.1 < 6 := by
  rcases Nat.lt_or_ge (sp_n (sp_N f w E) i).2.1 6 with z | z
  · exact z
  · exfalso
    have ha := sp_lay_agr (sp_g f w E) 7 0 E.length (Nat.le_refl _) sp_agr_0 _ (sp_n_mem hi)
    have ho : sp_one (sp_g f w E) (sp_n (sp_N f w E) i).2.2.1 ((sp_n (sp_N f w E) i).2.2.1 + (sp_n (sp_N f w E) i).2.2.2) := sp_agr_one z (fun j _ => sp_hash_lt s) ha
    have hk := (sp_N_ok hi).2.2.2.2.2
    unfold sp_kd at hk
    rw [if_pos ho] at hk
    rw [h2] at hk
    split at hk <;> omega
theorem sp_fold {α : Type} {N : List sp_nd} {k : Nat} (F : α → sp_nd → α) (a : α) (hk : k < N.length) : (N.take (k + 1)).foldl F a = F ((N.take k).foldl F a) (sp_n N k) := by
  rw [List.take_succ_eq_append_getElem hk, List.foldl_append, sp_n_get hk]
  rfl
section MDX
variable {ad : Nat → Nat} {d c : Nat} {h : tv_AH} {S : sp_S} {m f w own : Nat} {E : List (Nat × Nat)} {ids : List Nat}
theorem md_valueOf {k : Nat} (hm : m < 22) (km : md_M m f w E ids own h) (hk : k < 4096) {K : Int32 → tv_AH → Prop} (hK : K (sp_get E k) h) : tv_CI ad (d + 3) yX3_valueOf [.ref (ad 400), .int (nI m), .int (nI k)] h K := by
  have hl := km.2.1.1
  refine nX3_valueOf _ _ h (md_placeOf hm km.1 km.2.1 hk ?_)
  unfold sp_get at hK
  unfold sp_ix
  cases hf : sp_fi E k with
  | some i =>
    have hi := (sp_fi_some hf).1
    rw [hf] at hK
    refine ⟨fun _ => md_valueAt hm (by omega) ?_, fun z => absurd z (tv_m1 (by omega))⟩
    rw [(km.1.2 i hi).2]
    exact hK
  | none =>
    rw [hf] at hK
    exact ⟨fun z => absurd rfl z, fun _ => hK⟩
theorem md_ofKind {k : Nat} (hm : m < 22) (km : md_M m f w E ids own h) (hk : k < 3) {K : Int32 → tv_AH → Prop} (hK : K (nI (sp_kinds (sp_N f w E) k)) h) : tv_CI ad (d + 1) yX3_ofKind [.ref (ad 400), .int (nI m), .int (nI k)] h K := by
  have hN96 := sp_N_len (f := f) (w := w) km.2.1.1
  refine nX3_ofKind _ _ h ?_
  have H : ∀ t i, i + t = (sp_N f w E).length → tv_Wp ad RX3 cX3_ofKind 5 (some .int) d (tv_pI K) 5 [(0, .ref (ad 400)), (1, .int (nI m)), (2, .int (nI k)), (3, .int (nI (((sp_N f w E).take i).filter (fun x => x.1 == k)).length)), (4, .int (nI i))] [] h := by
    intro t
    induction t with
    | zero =>
      intro i hi
      refine bX3_ofKind_5 _ _ _ _ h ?_
      rw [tv_nc m, km.2.2.1]
      refine ⟨pk_in m 22 hm, pk_le (sp_N f w E).length i (fun _ => ?_) (fun q => absurd q (by omega))⟩
      rw [show i = (sp_N f w E).length by omega, List.take_length]
      exact hK
    | succ t ih =>
      intro i hi
      refine bX3_ofKind_5 _ _ _ _ h ?_
      rw [tv_nc m, km.2.2.1]
      refine ⟨pk_in m 22 hm, pk_le (sp_N f w E).length i (fun q => absurd q (by omega)) (fun q => ?_)⟩
      have hc := sp_cnt (p := fun x : sp_nd => x.1 == k) q
      rw [← sp_n_get q] at hc
      have kx : (sp_n (sp_N f w E) i).1 < 3 := by rw [(sp_N_ok q).2.2.2.2.2]; exact sp_kd_lt
      rw [tv_96, tv_nc (96 * m + i), (km.2.2.2.1 i q).1, nI_1, nI_1]
      refine ⟨pk_in (96 * m + i) 2112 (by omega), tv_ne (sp_n (sp_N f w E) i).1 k (fun z => ?_) (fun z => ?_)⟩
      · rw [if_neg (by simpa using z)] at hc
        have hc2 : (((sp_N f w E).take i).filter (fun x : sp_nd => x.1 == k)).length = (((sp_N f w E).take (i + 1)).filter (fun x : sp_nd => x.1 == k)).length := hc.symm
        rw [show (0 : Int32) = nI 0 from rfl, nI_add, Nat.add_zero, hc2]
        exact ih (i + 1) (by omega)
      · rw [if_pos (by simpa using z)] at hc
        rw [← hc]
        exact ih (i + 1) (by omega)
  exact H (sp_N f w E).length 0 (by omega)
theorem md_deepest (hm : m < 22) (km : md_M m f w E ids own h) {K : Int32 → tv_AH → Prop} (hK : K (sp_deep (sp_N f w E)) h) : tv_CI ad (d + 1) yX3_deepest [.ref (ad 400), .int (nI m)] h K := by
  have hN96 := sp_N_len (f := f) (w := w) km.2.1.1
  refine nX3_deepest _ h ?_
  have H : ∀ t i, i + t = (sp_N f w E).length → tv_Wp ad RX3 cX3_deepest 5 (some .int) d (tv_pI K) 4 [(0, .ref (ad 400)), (1, .int (nI m)), (2, .int (((sp_N f w E).take i).foldl (fun m x => if m < nI x.2.1 then nI x.2.1 else m) (-1))), (3, .int (nI i))] [] h := by
    intro t
    induction t with
    | zero =>
      intro i hi
      refine bX3_deepest_4 _ _ _ h ?_
      rw [tv_nc m, km.2.2.1]
      refine ⟨pk_in m 22 hm, pk_le (sp_N f w E).length i (fun _ => ?_) (fun q => absurd q (by omega))⟩
      rw [show i = (sp_N f w E).length by omega, List.take_length]
      exact hK
    | succ t ih =>
      intro i hi
      refine bX3_deepest_4 _ _ _ h ?_
      rw [tv_nc m, km.2.2.1]
      refine ⟨pk_in m 22 hm, pk_le (sp_N f w E).length i (fun q => absurd q (by omega)) (fun q => ?_)⟩
      have hc := sp_fold (fun (m : Int32) (x : sp_nd) => if m < nI x.2.1 then nI x.2.1 else m) (-1) q
      have hn := ih (i + 1) (by omega)
      rw [hc] at hn
      rw [tv_96, tv_nc (96 * m + i), (km.2.2.2.1 i q).2.1, nI_1]
      refine ⟨pk_in (96 * m + i) 2112 (by omega), fun z => ?_, fun z => ?_⟩
      · rw [if_neg (Int32.not_lt.mpr z)] at hn
        exact hn
      · rw [if_pos (Int32.not_le.mp z)] at hn
        exact hn
  exact H (sp_N f w E).length 0 (by omega)
theorem md_aboutNow {k : Nat} (hm : m < 22) (km : md_M m f w E ids own h) (hk : k ≤ 5) {K : Int32 → tv_AH → Prop} (hK : K (sp_about f w E k) h) : tv_CI ad (d + 2) yX3_aboutNow [.ref (ad 400), .int (nI m), .int (nI k)] h K := by
  refine nX3_aboutNow _ _ h ?_
  rw [nI_toInt (show k < 2 ^ 31 by omega), tv_nc m]
  unfold sp_about at hK
  have kd : 2 ≤ k → k ≤ 4 → tv_CI ad (d + 1) yX3_ofKind [.ref (ad 400), .int (nI m), .int (nI k - 2)] h (fun r2 h1 => K r2 h1) := by
    intro k1 k2
    rw [if_neg (by omega), if_neg (by omega), if_pos k2] at hK
    rw [show (2 : Int32) = nI 2 from rfl, pk_sub k1]
    exact md_ofKind hm km (by omega) hK
  refine ⟨fun z => ⟨pk_in m 22 hm, ?_⟩, fun z => ⟨pk_in m 22 hm, ?_⟩, fun z => kd (by omega) (by omega), fun z => kd (by omega) (by omega), fun z => kd (by omega) (by omega), fun z => ?_⟩
  · rw [if_pos (by omega)] at hK
    rw [km.1.1]; exact hK
  · rw [if_neg (by omega), if_pos (by omega)] at hK
    rw [km.2.2.1]; exact hK
  · rw [if_neg (by omega), if_neg (by omega), if_neg (by omega)] at hK
    exact md_deepest hm km hK
theorem md_partsBelow {i : Nat} (hm : m < 22) (s : md_sc f w h) (km : md_M m f w E ids own h) (hi : i < (sp_N f w E).length) (h2 : (sp_n (sp_N f w E) i).1 = 2) {K : Int32 → tv_AH → Prop} (hK : K (sp_mask (sp_g f w E) (sp_n (sp_N f w E) i)) h) : tv_CI ad (d + 3) yX3_partsBelow [.ref (ad 400), .int (nI m), .int (nI (96 * m + i))] h K := by
  have hN96 := sp_N_len (f := f) (w := w) km.2.1.1
  have h24 := km.2.1.1
  have hl6 := sp_br_lv s.2.2 hi h2
  obtain ⟨o1, o2, o3, -⟩ := sp_N_ok hi
  obtain ⟨n1, n2, n3, n4⟩ := km.2.2.2.1 i hi
  refine nX3_partsBelow _ _ h ?_
  unfold sp_mask at hK
  rw [if_pos h2] at hK
  have hin : vp_in (nI (96 * m + i)) 2112 := pk_in (96 * m + i) 2112 (by omega)
  have H : ∀ t j, j + t = (sp_n (sp_N f w E) i).2.2.2 → tv_Wp ad RX3 cX3_partsBelow 5 (some .int) (d + 2) (tv_pI K) 5 [(0, .ref (ad 400)), (1, .int (nI m)), (2, .int (nI (96 * m + i))), (3, .int ((List.range j).foldl (fun m t => m ||| ((1 : Int32) <<< (nI (sp_part (sp_g f w E ((sp_n (sp_N f w E) i).2.2.1 + t)) (sp_n (sp_N f w E) i).2.1) &&& 31))) 0)), (4, .int (nI j))] [] h := by
    intro t
    induction t with
    | zero =>
      intro j hj
      refine bX3_partsBelow_5 _ _ _ _ h ?_
      rw [tv_nc (96 * m + i), n4]
      refine ⟨hin, pk_le (sp_n (sp_N f w E) i).2.2.2 j (fun _ => ?_) (fun q => absurd q (by omega))⟩
      rw [show j = (sp_n (sp_N f w E) i).2.2.2 by omega]
      exact hK
    | succ t ih =>
      intro j hj
      refine bX3_partsBelow_5 _ _ _ _ h ?_
      rw [tv_nc (96 * m + i), n4, n3, n2, nI_add]
      refine ⟨hin, pk_le (sp_n (sp_N f w E) i).2.2.2 j (fun q => absurd q (by omega)) (fun q => ⟨hin, hin, ?_⟩)⟩
      refine md_partAt hm s km.1 km.2.1 (by omega) hl6 ?_
      rw [nI_1]
      have hn := ih (j + 1) (by omega)
      rw [List.range_succ, List.foldl_append] at hn
      exact hn
  exact H (sp_n (sp_N f w E) i).2.2.2 0 (by omega)
theorem md_nodeNow {i k : Nat} (hm : m < 22) (s : md_sc f w h) (km : md_M m f w E ids own h) (hi : i < (sp_N f w E).length) (hk : k ≤ 4) {K : Int32 → tv_AH → Prop} (hK : K (sp_node f w E (sp_n (sp_N f w E) i) k) h) : tv_CI ad (d + 4) yX3_nodeNow [.ref (ad 400), .int (nI m), .int (nI i), .int (nI k)] h K := by
  have hN96 := sp_N_len (f := f) (w := w) km.2.1.1
  have h24 := km.2.1.1
  obtain ⟨o1, o2, o3, o4, o5, o6⟩ := sp_N_ok hi
  obtain ⟨n1, n2, n3, n4⟩ := km.2.2.2.1 i hi
  have kx : (sp_n (sp_N f w E) i).1 < 3 := by rw [o6]; exact sp_kd_lt
  refine nX3_nodeNow _ _ _ h ?_
  have hin : vp_in (nI (96 * m + i)) 2112 := pk_in (96 * m + i) 2112 (by omega)
  rw [nI_toInt (show k < 2 ^ 31 by omega), tv_96, tv_nc (96 * m + i), n1, n2, n3, n4]
  unfold sp_node at hK
  refine ⟨fun z => ⟨hin, ?_⟩, fun z => ⟨hin, ?_⟩, fun z => ⟨hin, ?_⟩, fun z => ⟨hin, ?_⟩, fun z => ⟨hin, ?_⟩⟩
  · rw [if_pos (by omega)] at hK; exact hK
  · rw [if_neg (by omega), if_pos (by omega)] at hK; exact hK
  · rw [if_neg (by omega), if_neg (by omega), if_pos (by omega)] at hK; exact hK
  · rw [if_neg (by omega), if_neg (by omega), if_neg (by omega), if_pos (by omega)] at hK
    refine md_keyAt hm (by omega) ?_
    rw [(km.1.2 _ (by omega)).1]
    exact hK
  · rw [if_neg (by omega), if_neg (by omega), if_neg (by omega), if_neg (by omega)] at hK
    refine tv_ne (sp_n (sp_N f w E) i).1 2 (fun y => ?_) (fun y => ?_)
    · unfold sp_mask at hK
      rw [if_neg y] at hK
      exact hK
    · exact md_partsBelow hm s km hi y hK
theorem md_levelAt {i : Nat} (hm : m < 22) (km : md_M m f w E ids own h) (hi : i < E.length) {K : Int32 → tv_AH → Prop} (hK : K (sp_elv (sp_N f w E) i) h) : tv_CI ad (d + 2) yX3_levelAt [.ref (ad 400), .int (nI m), .int (nI i)] h K := by
  have hN96 := sp_N_len (f := f) (w := w) km.2.1.1
  have h24 := km.2.1.1
  refine nX3_levelAt _ _ h ?_
  have H : ∀ t k, k + t = (sp_N f w E).length → tv_Wp ad RX3 cX3_levelAt 7 (some .int) (d + 1) (tv_pI K) 5 [(0, .ref (ad 400)), (1, .int (nI m)), (2, .int (nI i)), (3, .int (((sp_N f w E).take k).foldl (fun m x => if x.1 ≠ 2 ∧ x.2.2.1 ≤ i ∧ i < x.2.2.1 + x.2.2.2 then nI x.2.1 else m) (-1))), (4, .int (nI k))] [] h := by
    intro t
    induction t with
    | zero =>
      intro k hk
      refine bX3_levelAt_5 _ _ _ _ h ?_
      rw [tv_nc m, km.2.2.1]
      refine ⟨pk_in m 22 hm, pk_le (sp_N f w E).length k (fun _ => ?_) (fun q => absurd q (by omega))⟩
      rw [show k = (sp_N f w E).length by omega, List.take_length]
      exact hK
    | succ t ih =>
      intro k hk
      refine bX3_levelAt_5 _ _ _ _ h ?_
      rw [tv_nc m, km.2.2.1]
      refine ⟨pk_in m 22 hm, pk_le (sp_N f w E).length k (fun q => absurd q (by omega)) (fun q => ?_)⟩
      have hc := sp_fold (fun (m : Int32) (x : sp_nd) => if x.1 ≠ 2 ∧ x.2.2.1 ≤ i ∧ i < x.2.2.1 + x.2.2.2 then nI x.2.1 else m) (-1) q
      have hn := ih (k + 1) (by omega)
      rw [hc] at hn
      obtain ⟨o1, o2, o3, o4, o5, o6⟩ := sp_N_ok q
      obtain ⟨n1, n2, n3, n4⟩ := km.2.2.2.1 k q
      have kx : (sp_n (sp_N f w E) k).1 < 3 := by rw [o6]; exact sp_kd_lt
      have hin : vp_in (nI (96 * m + k)) 2112 := pk_in (96 * m + k) 2112 (by omega)
      rw [tv_96, tv_nc (96 * m + k), n1, n3, n4, nI_add, show (1 : Int32) = nI 1 from rfl, pk_sub (by omega)]
      refine ⟨hin, pk_eq (sp_n (sp_N f w E) k).1 2 (fun z => ?_) (fun z => ⟨hin, hin, hin, md_within ?_⟩)⟩
      · rw [if_neg (fun y => y.1 z)] at hn
        refine bX3_levelAt_72 _ _ _ _ _ _ h (tv_c0 ?_)
        rw [nI_1]
        exact hn
      · have hiff : (nI (sp_n (sp_N f w E) k).2.2.1 ≤ nI i ∧ nI i ≤ nI ((sp_n (sp_N f w E) k).2.2.1 + (sp_n (sp_N f w E) k).2.2.2 - 1)) ↔ ((sp_n (sp_N f w E) k).2.2.1 ≤ i ∧ i < (sp_n (sp_N f w E) k).2.2.1 + (sp_n (sp_N f w E) k).2.2.2) := by
          rw [nI_leI (by omega) (by omega), nI_leI (by omega) (by omega)]
          omega
        by_cases y : (sp_n (sp_N f w E) k).2.2.1 ≤ i ∧ i < (sp_n (sp_N f w E) k).2.2.1 + (sp_n (sp_N f w E) k).2.2.2
        · rw [if_pos (hiff.mpr y)]
          rw [if_pos ⟨z, y⟩] at hn
          refine tv_c1 (bX3_levelAt_72 _ _ _ _ _ _ h (tv_c1 ⟨hin, ?_⟩))
          rw [tv_nc (96 * m + k), n2, nI_1]
          exact hn
        · rw [if_neg (fun u => y (hiff.mp u))]
          rw [if_neg (fun u => y u.2)] at hn
          refine tv_c0 (bX3_levelAt_72 _ _ _ _ _ _ h (tv_c0 ?_))
          rw [nI_1]
          exact hn
  exact H (sp_N f w E).length 0 (by omega)
theorem md_entryNow {i k : Nat} (hm : m < 22) (km : md_M m f w E ids own h) (hi : i < E.length) (hk : k ≤ 2) {K : Int32 → tv_AH → Prop} (hK : K (sp_entry f w E i k) h) : tv_CI ad (d + 3) yX3_entryNow [.ref (ad 400), .int (nI m), .int (nI i), .int (nI k)] h K := by
  have h24 := km.2.1.1
  unfold sp_entry at hK
  refine nX3_entryNow _ _ _ h (tv_ne k 0 (fun z => tv_ne k 1 (fun y => ?_) (fun y => ?_)) (fun z => ?_))
  · rw [if_neg z, if_neg y] at hK
    exact md_levelAt hm km hi hK
  · rw [if_neg z, if_pos y] at hK
    refine md_valueAt hm (by omega) ?_
    rw [(km.1.2 i hi).2]
    exact hK
  · rw [if_pos z] at hK
    refine md_keyAt hm (by omega) ?_
    rw [(km.1.2 i hi).1]
    exact hK
theorem sp_cont_take {ids : List Nat} {x k : Nat} (hk : k < ids.length) : (ids.take (k + 1)).contains x = ((ids.take k).contains x || sp_id ids k == x) := by
  rw [List.take_succ_eq_append_getElem hk]
  have hid : ids[k] = sp_id ids k := by simp [sp_id, List.getD_eq_getElem?_getD, hk]
  rw [hid]
  simp only [List.contains_eq_mem, List.mem_append, List.mem_singleton, Bool.decide_or]
  congr 1
  by_cases z : x = sp_id ids k
  · subst z; simp
  · have z2 : ¬ sp_id ids k = x := fun y => z y.symm
    simp [z, z2]
theorem md_hasNode {x : Nat} (hm : m < 22) (km : md_M m f w E ids own h) (hx : x < 2 ^ 30) {K : Int32 → tv_AH → Prop} (hK : K (if ids.contains x then 1 else 0) h) : tv_CI ad (d + 1) yX3_hasNode [.ref (ad 400), .int (nI m), .int (nI x)] h K := by
  have hN96 := sp_N_len (f := f) (w := w) km.2.1.1
  have hlen := km.2.2.2.2.1
  refine nX3_hasNode _ _ h ?_
  have H : ∀ t k (z : Int32), k + t = ids.length → z = (if (ids.take k).contains x then 1 else 0) → tv_Wp ad RX3 cX3_hasNode 5 (some .boolean) d (tv_pI K) 5 [(0, .ref (ad 400)), (1, .int (nI m)), (2, .int (nI x)), (3, .int z), (4, .int (nI k))] [] h := by
    intro t
    induction t with
    | zero =>
      intro k z hk hz
      refine bX3_hasNode_5 _ _ _ _ h ?_
      rw [tv_nc m, km.2.2.1]
      rw [show k = ids.length by omega, List.take_length] at hz
      refine ⟨pk_in m 22 hm, pk_le (sp_N f w E).length k (fun _ => ⟨?_, ?_⟩) (fun q => absurd q (by omega))⟩
      · rw [hz]; split <;> simp
      · rw [hz]; exact hK
    | succ t ih =>
      intro k z hk hz
      refine bX3_hasNode_5 _ _ _ _ h ?_
      have hkl : k < ids.length := by omega
      have hct := sp_cont_take (x := x) hkl
      rw [tv_nc m, km.2.2.1, nI_1]
      refine ⟨pk_in m 22 hm, pk_le (sp_N f w E).length k (fun q => absurd q (by omega)) (fun q => ⟨fun y => ?_, fun y => ?_⟩)⟩
      · have hc : (ids.take k).contains x = true := Classical.byContradiction fun u => y (by rw [hz, if_neg u])
        refine ih (k + 1) 1 (by omega) ?_
        rw [hct, hc, Bool.true_or, if_pos rfl]
      · have hc : (ids.take k).contains x = false := by
          cases u : (ids.take k).contains x with
          | false => rfl
          | true => rw [hz, u, if_pos rfl] at y; exact absurd y (by decide)
        have b1 := km.2.2.2.2.2.1 k hkl
        rw [hc, Bool.false_or] at hct
        rw [tv_96, tv_nc (96 * m + k), (km.2.2.2.2.2.2 k hkl).1]
        refine ⟨pk_in (96 * m + k) 2112 (by omega), tv_ne (sp_id ids k) x (fun u => ?_) (fun u => ?_)⟩
        · refine ih (k + 1) 0 (by omega) ?_
          rw [hct, if_neg (by simpa using u)]
        · refine ih (k + 1) 1 (by omega) ?_
          rw [hct, if_pos (by simpa using u)]
  exact H ids.length 0 0 (by omega) (by simp)
theorem md_sharedNow {m' own' : Nat} {E' : List (Nat × Nat)} {ids' : List Nat} (hm : m < 22) (hm' : m' < 22) (km : md_M m f w E ids own h) (km' : md_M m' f w E' ids' own' h) {K : Int32 → tv_AH → Prop} (hK : K (nI (sp_shr ids ids')) h) : tv_CI ad (d + 2) yX3_sharedNow [.ref (ad 400), .int (nI m), .int (nI m')] h K := by
  have hN96 := sp_N_len (f := f) (w := w) km.2.1.1
  have hlen := km.2.2.2.2.1
  refine nX3_sharedNow _ _ h ?_
  have H : ∀ t k, k + t = ids.length → tv_Wp ad RX3 cX3_sharedNow 5 (some .int) (d + 1) (tv_pI K) 5 [(0, .ref (ad 400)), (1, .int (nI m)), (2, .int (nI m')), (3, .int (nI ((ids.take k).filter (fun i => ids'.contains i)).length)), (4, .int (nI k))] [] h := by
    intro t
    induction t with
    | zero =>
      intro k hk
      refine bX3_sharedNow_5 _ _ _ _ h ?_
      rw [tv_nc m, km.2.2.1]
      refine ⟨pk_in m 22 hm, pk_le (sp_N f w E).length k (fun _ => ?_) (fun q => absurd q (by omega))⟩
      rw [show k = ids.length by omega, List.take_length]
      exact hK
    | succ t ih =>
      intro k hk
      refine bX3_sharedNow_5 _ _ _ _ h ?_
      have hkl : k < ids.length := by omega
      have hc := sp_cnt (p := fun i => ids'.contains i) hkl
      have hid : ids[k] = sp_id ids k := by simp [sp_id, List.getD_eq_getElem?_getD, hkl]
      rw [hid] at hc
      rw [tv_nc m, km.2.2.1, tv_96, tv_nc (96 * m + k), (km.2.2.2.2.2.2 k hkl).1]
      refine ⟨pk_in m 22 hm, pk_le (sp_N f w E).length k (fun q => absurd q (by omega)) (fun q => ⟨pk_in (96 * m + k) 2112 (by omega), ?_⟩)⟩
      refine md_hasNode hm' km' (km.2.2.2.2.2.1 k hkl) ?_
      rw [nI_1, nI_1]
      by_cases u : ids'.contains (sp_id ids k) = true
      · rw [if_pos u] at hc ⊢
        rw [← hc]
        exact tv_c1 (ih (k + 1) (by omega))
      · rw [if_neg u] at hc ⊢
        rw [Nat.add_zero] at hc
        rw [show (0 : Int32) = nI 0 from rfl, nI_add, Nat.add_zero, ← hc]
        exact tv_c0 (ih (k + 1) (by omega))
  exact H ids.length 0 (by omega)
theorem md_alike {m' own' : Nat} {E' : List (Nat × Nat)} {ids' : List Nat} (hm : m < 22) (hm' : m' < 22) (km : md_M m f w E ids own h) (km' : md_M m' f w E' ids' own' h) {K : Int32 → tv_AH → Prop} (hK : K (nI (sp_alk E E')) h) : tv_CI ad (d + 4) yX3_alike [.ref (ad 400), .int (nI m), .int (nI m')] h K := by
  have h24 := km.2.1.1
  refine nX3_alike _ _ h ?_
  have H : ∀ t k, k + t = E.length → tv_Wp ad RX3 cX3_alike 5 (some .int) (d + 3) (tv_pI K) 5 [(0, .ref (ad 400)), (1, .int (nI m)), (2, .int (nI m')), (3, .int (nI ((E.take k).filter (fun e => sp_get E' e.1 == nI e.2)).length)), (4, .int (nI k))] [] h := by
    intro t
    induction t with
    | zero =>
      intro k hk
      refine bX3_alike_5 _ _ _ _ h ?_
      rw [tv_nc m, km.1.1]
      refine ⟨pk_in m 22 hm, pk_le E.length k (fun _ => ?_) (fun q => absurd q (by omega))⟩
      rw [show k = E.length by omega, List.take_length]
      exact hK
    | succ t ih =>
      intro k hk
      refine bX3_alike_5 _ _ _ _ h ?_
      rw [tv_nc m, km.1.1]
      refine ⟨pk_in m 22 hm, pk_le E.length k (fun q => absurd q (by omega)) (fun q => ?_)⟩
      have hc := sp_cnt (p := fun e : Nat × Nat => sp_get E' e.1 == nI e.2) q
      rw [sp_kg q] at hc
      refine md_keyAt hm (by omega) ?_
      rw [(km.1.2 k q).1]
      refine md_valueOf hm' km' (km.2.1.2 k q).1 (md_valueAt hm (by omega) ?_)
      rw [(km.1.2 k q).2, nI_1, nI_1]
      refine ⟨fun u => ?_, fun u => ?_⟩
      · rw [if_neg (by simpa using u), Nat.add_zero] at hc
        rw [show (0 : Int32) = nI 0 from rfl, nI_add, Nat.add_zero, ← hc]
        exact ih (k + 1) (by omega)
      · rw [if_pos (by simpa using u)] at hc
        rw [← hc]
        exact ih (k + 1) (by omega)
  exact H E.length 0 (by omega)
end MDX
