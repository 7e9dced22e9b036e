/-! THE START: the pure heap behind the constructors; both sides hold the first state -/
def tv_h0 : tv_AH := (fun q i => if q = 0 then (if i = 1 then 1 else if i = 3 then 1 else if i = 4 then 30 else 0) else if q = 2 then (if i = 2 then 1 else 0) else if q = 400 then (if i = 2 then 1 else if i = 3 then 30 else if i = 4 then 1 else 0) else 0, fun _ _ => 0, fun q i => if q = 1 then ⟨i % 22, Nat.mod_lt _ (by decide)⟩ else if i = 8 then 20 else 21)
def sp_S0 : sp_S := ((1, 30), [([], [])], [], (0, 0, 0), none)
theorem tv_h0_z {q i : Nat} (h : q ≠ 0 ∧ q ≠ 2 ∧ q ≠ 400) : tv_h0.1 q i = 0 := by
  show (if q = 0 then _ else if q = 2 then _ else if q = 400 then _ else 0) = 0
  rw [if_neg h.1, if_neg h.2.1, if_neg h.2.2]
theorem sp_N0 (f w : Nat) : sp_N f w [] = [] := sp_lay_nil (Nat.le_refl _)
theorem lw_Inv0 : lw_Inv sp_S0 0 tv_h0 := by
  refine ⟨⟨⟨by decide, by decide, by decide, by decide⟩, ⟨Nat.le_refl _, by decide, rfl⟩, fun v hv => ?_, ⟨Nat.zero_le _, fun i hi => absurd hi (Nat.not_lt_zero i)⟩, ⟨Nat.zero_le _, Nat.le_refl _, Nat.le_refl _, Nat.zero_le _⟩, fun _ => 0, fun v hv => ?_, trivial⟩, ⟨⟨rfl, rfl⟩, rfl, fun a b ha hb z => ?_, fun v hv => ?_, ⟨rfl, fun i hi => absurd hi (Nat.not_lt_zero i)⟩, ⟨rfl, rfl, rfl⟩, rfl⟩, ⟨⟨rfl, rfl, by decide, by decide, by decide, by decide⟩, rfl, fun v hv => ?_, ⟨rfl, fun i hi => absurd hi (Nat.not_lt_zero i)⟩, ⟨rfl, rfl, rfl⟩, ⟨rfl, [], ⟨?_, fun i hi => absurd hi (Nat.not_lt_zero i)⟩, ⟨Nat.zero_le _, fun i hi => absurd hi (Nat.not_lt_zero i)⟩⟩⟩⟩
  · have : v = 0 := by change v < 1 at hv; omega
    subst this
    exact sp_vok0
  · have : v = 0 := by change v < 1 at hv; omega
    subst this
    exact fun i hi => absurd hi (Nat.not_lt_zero i)
  · have key : ∀ a, a < 22 → (cp_rf tv_h0 a).val = a := by
      intro a ha
      by_cases c : a < 20
      · rw [cp_rf_v c]
        show a % 22 = a
        omega
      · by_cases c2 : a = 20
        · rw [c2, cp_rf_d]; rfl
        · rw [show a = 21 by omega, cp_rf_s]; rfl
    rw [← key a ha, ← key b hb, z]
  · have : v = 0 := by change v < 1 at hv; omega
    subst this
    refine ⟨⟨⟨rfl, fun i hi => absurd hi (Nat.not_lt_zero i)⟩, ⟨?_, fun i hi => ?_, fun i hi => absurd hi (Nat.not_lt_zero i)⟩, fun i hi => absurd hi (Nat.not_lt_zero i)⟩, rfl⟩
    · show tv_h0.1 16 5 = nI (sp_N 1 30 []).length
      rw [sp_N0]
      rfl
    · change i < (sp_N 1 30 []).length at hi
      rw [sp_N0] at hi
      exact absurd hi (Nat.not_lt_zero i)
  · have : v = 0 := by change v < 1 at hv; omega
    subst this
    show md_M 0 1 30 [] [] (2 ^ 30) tv_h0
    refine ⟨⟨rfl, fun i hi => absurd hi (Nat.not_lt_zero i)⟩, ⟨Nat.zero_le _, fun i hi => absurd hi (Nat.not_lt_zero i)⟩, ?_, fun i hi => ?_, ?_, fun i hi => absurd hi (Nat.not_lt_zero i), fun i hi => absurd hi (Nat.not_lt_zero i)⟩
    · rw [sp_N0]; rfl
    · rw [sp_N0] at hi; exact absurd hi (Nat.not_lt_zero i)
    · rw [sp_N0]; rfl
  · rfl
/-- addresses of positions -/
def tv_ad (h0 : Nat) (u : Nat × (Nat → Nat) × (Nat → Nat → Nat)) (aM : Nat → Nat) (q : Nat) : Nat := if q = 0 then h0 else if q = 1 then u.1 else if q < 6 then u.2.1 q else if q < 400 then u.2.2 (q / 16 - 1) (q % 16) else aM (q - 400)
def tr_k : List Nat := [0, 1, 2, 3, 4, 6, 7, 8, 9, 10, 11, 12, 13]
def mw_k : List Nat := [0, 1, 10, 11, 12, 13, 14, 15, 16, 17, 18, 19, 20, 21, 22, 25, 26, 29, 30, 31, 32]
def tv_ts : List Nat := 20 :: 21 :: List.range 20
def tv_qs : List Nat := ([0, 1, 2, 3, 4, 5] ++ tv_ts.flatMap (fun t => tr_k.map (fun k => 16 * (t + 1) + k))) ++ mw_k.map (fun k => 400 + k)
theorem tv_qs_live : ∀ q ∈ tv_live, q ∈ tv_qs := by decide +kernel
theorem tv_ts_lt : ∀ t ∈ tv_ts, t < 22 := by decide
theorem tr_k_lt : ∀ k ∈ tr_k, k < 16 := by decide
section TVS
variable {D : va_G} {cs : Nat → ClassId} {A : Nat → Prop} {H : Heap} {h0 : Nat} {u : Nat × (Nat → Nat) × (Nat → Nat → Nat)} {aM : Nat → Nat}
theorem tv_ad_t {t k : Nat} (ht : t < 22) (hk : k < 16) : tv_ad h0 u aM (16 * (t + 1) + k) = u.2.2 t k := by
  unfold tv_ad
  rw [if_neg (by omega), if_neg (by omega), if_neg (by omega), if_pos (by omega), show (16 * (t + 1) + k) / 16 - 1 = t by omega, show (16 * (t + 1) + k) % 16 = k by omega]
theorem tv_ad_m {k : Nat} : tv_ad h0 u aM (400 + k) = aM k := by
  unfold tv_ad
  rw [if_neg (by omega), if_neg (by omega), if_neg (by omega), if_neg (by omega), Nat.add_sub_cancel_left]
theorem cw_fm {α β : Type} {f g : α → List β} : ∀ {ts : List α}, (∀ t ∈ ts, f t = g t) → ts.flatMap f = ts.flatMap g
  | [], _ => rfl
  | t :: ts, h => by rw [List.flatMap_cons, List.flatMap_cons, h t List.mem_cons_self, cw_fm (fun x hx => h x (List.mem_cons_of_mem _ hx))]
theorem tv_ads : (tvW cs h0 u ++ mw_w cs aM).map (fun c => c.1) = tv_qs.map (tv_ad h0 u aM) := by
  have e1 : (tvB cs h0 u.1 u.2.1 u.2.2 20).map (fun c => c.1) = [0, 1, 2, 3, 4, 5].map (tv_ad h0 u aM) := rfl
  have e2 : (tvT cs u.2.2 (20 :: 21 :: List.range 20)).map (fun c => c.1) = (tv_ts.flatMap (fun t => tr_k.map (fun k => 16 * (t + 1) + k))).map (tv_ad h0 u aM) := by
    unfold tvT
    rw [List.map_flatMap, List.map_flatMap]
    refine cw_fm (ts := tv_ts) (fun t ht => ?_)
    have ht := tv_ts_lt t ht
    rw [List.map_map]
    have e : tr_k.map (tv_ad h0 u aM ∘ fun k => 16 * (t + 1) + k) = tr_k.map (u.2.2 t) := List.map_congr_left (fun k hk => tv_ad_t ht (tr_k_lt k hk))
    rw [e]
    rfl
  have e3 : (mw_w cs aM).map (fun c => c.1) = (mw_k.map (fun k => 400 + k)).map (tv_ad h0 u aM) := by
    rw [List.map_map]
    have e : mw_k.map (tv_ad h0 u aM ∘ fun k => 400 + k) = mw_k.map aM := List.map_congr_left (fun k hk => tv_ad_m)
    rw [e]
    rfl
  have g : ∀ (X Y Z : va_W), ((X ++ Y) ++ Z).map (fun c => c.1) = (X.map (fun c => c.1) ++ Y.map (fun c => c.1)) ++ Z.map (fun c => c.1) := fun X Y Z => by rw [List.map_append, List.map_append]
  have g2 : ∀ (X Y Z : List Nat), ((X ++ Y) ++ Z).map (tv_ad h0 u aM) = (X.map (tv_ad h0 u aM) ++ Y.map (tv_ad h0 u aM)) ++ Z.map (tv_ad h0 u aM) := fun X Y Z => by rw [List.map_append, List.map_append]
  refine (g (tvB cs h0 u.1 u.2.1 u.2.2 20) (tvT cs u.2.2 (20 :: 21 :: List.range 20)) (mw_w cs aM)).trans ?_
  refine Eq.trans ?_ (g2 [0, 1, 2, 3, 4, 5] (tv_ts.flatMap (fun t => tr_k.map (fun k => 16 * (t + 1) + k))) (mw_k.map (fun k => 400 + k))).symm
  exact congr (congrArg _ (congr (congrArg _ e1) e2)) e3
theorem tv_start_ok (hD : va_D A (tvW cs h0 u ++ mw_w cs aM)) : tv_ok (tv_ad h0 u aM) A := by
  obtain ⟨h1, h2⟩ := cw_D_mem.mp hD
  rw [tv_ads] at h1
  refine ⟨fun q hq q' hq' e => ?_, fun q hq => ?_⟩
  · obtain ⟨i, hi⟩ := List.getElem?_of_mem (tv_qs_live q hq)
    obtain ⟨j, hj⟩ := List.getElem?_of_mem (tv_qs_live q' hq')
    have hlt : i < (tv_qs.map (tv_ad h0 u aM)).length := by rw [List.length_map]; exact (List.getElem?_eq_some_iff.mp hi).1
    have := (List.getElem?_inj hlt h1).mp (show (tv_qs.map (tv_ad h0 u aM))[i]? = (tv_qs.map (tv_ad h0 u aM))[j]? by rw [List.getElem?_map, List.getElem?_map, hi, hj]; simp only [Option.map_some]; rw [e])
    subst this
    rw [hi] at hj
    exact Option.some.inj hj
  · have hm : tv_ad h0 u aM q ∈ (tvW cs h0 u ++ mw_w cs aM).map (fun c => c.1) := by rw [tv_ads]; exact List.mem_map_of_mem (tv_qs_live q hq)
    obtain ⟨c, hc, e⟩ := List.mem_map.mp hm
    have := h2 c hc
    rw [e] at this
    exact this
theorem tv_h0_f {q : Nat} (h : q ≠ 0 ∧ q ≠ 2 ∧ q ≠ 400) : tv_h0.1 q = fun _ => 0 := by
  funext i
  exact tv_h0_z h
/-- a tree's cells -/
theorem tv_ce_t {t : Nat} (ht : t < 22) : tr_w cs (u.2.2 t) = tr_k.map (fun k => (tv_ad h0 u aM (16 * (t + 1) + k), tv_ce (tv_ad h0 u aM) cs tv_h0 (16 * (t + 1) + k))) := by
  have ad : ∀ k, k < 16 → tv_ad h0 u aM (16 * (t + 1) + k) = u.2.2 t k := fun k hk => tv_ad_t ht hk
  have ad0 : tv_ad h0 u aM (16 * (t + 1)) = u.2.2 t 0 := ad 0 (by omega)
  have z : ∀ k, tv_h0.1 (16 * (t + 1)) k = 0 := fun k => tv_h0_z (by omega)
  have o : tv_ce (tv_ad h0 u aM) cs tv_h0 (16 * (t + 1)) = .inr (1, [.int 0, .ref (u.2.2 t 1), .ref (u.2.2 t 2), .ref (u.2.2 t 3), .ref (u.2.2 t 4), .int 0, .ref (u.2.2 t 6), .ref (u.2.2 t 7), .ref (u.2.2 t 8), .ref (u.2.2 t 9), .ref (u.2.2 t 10), .ref (u.2.2 t 11), .ref (u.2.2 t 12), .ref (u.2.2 t 13), .int 0]) := by
    refine Eq.trans (tv_ce_o (ad := tv_ad h0 u aM) (cs := cs) (h := tv_h0) (tv_ko_tp ⟨t, ht⟩)) ?_
    show Sum.inr (1, [Value.int (tv_h0.1 (16 * (t + 1)) 0), Value.ref (tv_ad h0 u aM (16 * (t + 1) + 1)), Value.ref (tv_ad h0 u aM (16 * (t + 1) + 2)), Value.ref (tv_ad h0 u aM (16 * (t + 1) + 3)), Value.ref (tv_ad h0 u aM (16 * (t + 1) + 4)), Value.int (tv_h0.1 (16 * (t + 1)) 5), Value.ref (tv_ad h0 u aM (16 * (t + 1) + 6)), Value.ref (tv_ad h0 u aM (16 * (t + 1) + 7)), Value.ref (tv_ad h0 u aM (16 * (t + 1) + 8)), Value.ref (tv_ad h0 u aM (16 * (t + 1) + 9)), Value.ref (tv_ad h0 u aM (16 * (t + 1) + 10)), Value.ref (tv_ad h0 u aM (16 * (t + 1) + 11)), Value.ref (tv_ad h0 u aM (16 * (t + 1) + 12)), Value.ref (tv_ad h0 u aM (16 * (t + 1) + 13)), Value.int (tv_h0.1 (16 * (t + 1)) 14)]) = _
    rw [z, z, z, ad 1 (by omega), ad 2 (by omega), ad 3 (by omega), ad 4 (by omega), ad 6 (by omega), ad 7 (by omega), ad 8 (by omega), ad 9 (by omega), ad 10 (by omega), ad 11 (by omega), ad 12 (by omega), ad 13 (by omega)]
  have a24 : ∀ k, 1 ≤ k → k ≤ 4 → tv_ce (tv_ad h0 u aM) cs tv_h0 (16 * (t + 1) + k) = .inl (cs 0, 24, .inl (fun _ => 0)) := fun k h1 h2 => by
    have e : tv_ka (16 * (t + 1) + k) = some (0, 24) := by
      have := tv_ka_tp ⟨t, ht⟩ k (by omega)
      unfold tv_kt at this
      rw [if_pos ⟨h1, h2⟩] at this
      exact this
    rw [tv_ce_a e]
    show Sum.inl (cs 0, 24, Sum.inl (tv_h0.1 (16 * (t + 1) + k))) = _
    rw [tv_h0_f (by omega)]
  have a96 : ∀ k, 6 ≤ k → k ≤ 12 → tv_ce (tv_ad h0 u aM) cs tv_h0 (16 * (t + 1) + k) = .inl (cs 0, 96, .inl (fun _ => 0)) := fun k h1 h2 => by
    have e : tv_ka (16 * (t + 1) + k) = some (0, 96) := by
      have := tv_ka_tp ⟨t, ht⟩ k (by omega)
      unfold tv_kt at this
      rw [if_neg (by omega), if_pos ⟨h1, h2⟩] at this
      exact this
    rw [tv_ce_a e]
    show Sum.inl (cs 0, 96, Sum.inl (tv_h0.1 (16 * (t + 1) + k))) = _
    rw [tv_h0_f (by omega)]
  have a13 : tv_ce (tv_ad h0 u aM) cs tv_h0 (16 * (t + 1) + 13) = .inl (cs 1, 96, .inr (.inl (fun _ => 0))) := by
    have e : tv_ka (16 * (t + 1) + 13) = some (1, 96) := tv_ka_tp ⟨t, ht⟩ 13 (by omega)
    rw [tv_ce_a e]
    rfl
  show _ = [(tv_ad h0 u aM (16 * (t + 1)), tv_ce (tv_ad h0 u aM) cs tv_h0 (16 * (t + 1))), (tv_ad h0 u aM (16 * (t + 1) + 1), tv_ce (tv_ad h0 u aM) cs tv_h0 (16 * (t + 1) + 1)), (tv_ad h0 u aM (16 * (t + 1) + 2), tv_ce (tv_ad h0 u aM) cs tv_h0 (16 * (t + 1) + 2)), (tv_ad h0 u aM (16 * (t + 1) + 3), tv_ce (tv_ad h0 u aM) cs tv_h0 (16 * (t + 1) + 3)), (tv_ad h0 u aM (16 * (t + 1) + 4), tv_ce (tv_ad h0 u aM) cs tv_h0 (16 * (t + 1) + 4)), (tv_ad h0 u aM (16 * (t + 1) + 6), tv_ce (tv_ad h0 u aM) cs tv_h0 (16 * (t + 1) + 6)), (tv_ad h0 u aM (16 * (t + 1) + 7), tv_ce (tv_ad h0 u aM) cs tv_h0 (16 * (t + 1) + 7)), (tv_ad h0 u aM (16 * (t + 1) + 8), tv_ce (tv_ad h0 u aM) cs tv_h0 (16 * (t + 1) + 8)), (tv_ad h0 u aM (16 * (t + 1) + 9), tv_ce (tv_ad h0 u aM) cs tv_h0 (16 * (t + 1) + 9)), (tv_ad h0 u aM (16 * (t + 1) + 10), tv_ce (tv_ad h0 u aM) cs tv_h0 (16 * (t + 1) + 10)), (tv_ad h0 u aM (16 * (t + 1) + 11), tv_ce (tv_ad h0 u aM) cs tv_h0 (16 * (t + 1) + 11)), (tv_ad h0 u aM (16 * (t + 1) + 12), tv_ce (tv_ad h0 u aM) cs tv_h0 (16 * (t + 1) + 12)), (tv_ad h0 u aM (16 * (t + 1) + 13), tv_ce (tv_ad h0 u aM) cs tv_h0 (16 * (t + 1) + 13))]
  rw [o, a24 1 (by omega) (by omega), a24 2 (by omega) (by omega), a24 3 (by omega) (by omega), a24 4 (by omega) (by omega), a96 6 (by omega) (by omega), a96 7 (by omega) (by omega), a96 8 (by omega) (by omega), a96 9 (by omega) (by omega), a96 10 (by omega) (by omega), a96 11 (by omega) (by omega), a96 12 (by omega) (by omega), a13, ad0, ad 1 (by omega), ad 2 (by omega), ad 3 (by omega), ad 4 (by omega), ad 6 (by omega), ad 7 (by omega), ad 8 (by omega), ad 9 (by omega), ad 10 (by omega), ad 11 (by omega), ad 12 (by omega), ad 13 (by omega)]
theorem tv_ce_mw : mw_w cs aM = mw_k.map (fun k => (tv_ad h0 u aM (400 + k), tv_ce (tv_ad h0 u aM) cs tv_h0 (400 + k))) := by
  have ad : ∀ k, tv_ad h0 u aM (400 + k) = aM k := fun k => tv_ad_m
  rfl
theorem tv_ce_pg : pg_w cs u.2.1 = [2, 3, 4, 5].map (fun q => (tv_ad h0 u aM q, tv_ce (tv_ad h0 u aM) cs tv_h0 q)) := rfl
theorem tv_ce_0 : ((h0, .inr (2, [.ref u.1, .int 1, .ref (u.2.1 2), .int 1, .int 30, .int 0, .int 0, .int 0, .ref (u.2.2 20 0), .int 0, .int 0, .int 0, .ref (u.2.2 21 0)])) : Nat × va_E) = (tv_ad h0 u aM 0, tv_ce (tv_ad h0 u aM) cs tv_h0 0) := rfl
theorem tv_start (hP : va_P D tv_cl (tvW cs h0 u ++ mw_w cs aM) H) : va_P D tv_cl (tv_enc (tv_ad h0 u aM) cs tv_h0) H := by
  have hm := cw_P_mem.mp hP
  refine cw_P_mem.mpr (fun c hc => ?_)
  unfold tv_enc at hc
  obtain ⟨q, hq, rfl⟩ := List.mem_map.mp hc
  have hq := tv_qs_live q hq
  unfold tv_qs at hq
  rcases List.mem_append.mp hq with hq | hq
  · rcases List.mem_append.mp hq with hq | hq
    · by_cases h1 : q = 1
      · subst h1
        have h := hm (u.1, .inl (cs 3, 20, .inr (.inr (.inr (.inr (fun i => if i < 20 then some (u.2.2 i 0) else none)))))) (List.mem_append_left _ (List.mem_append_left _ (List.mem_append_left _ (List.mem_cons_of_mem _ List.mem_cons_self))))
        show H[u.1]? = some (vp_cell (cs 3) (20, .inr (.inr (.inr (.inr (fun i => some (tv_ad h0 u aM (tv_tp (tv_h0.2.2 1 i)))))))))
        have h2 : H[u.1]? = some (vp_cell (cs 3) (20, .inr (.inr (.inr (.inr (fun i => if i < 20 then some (u.2.2 i 0) else none)))))) := h
        rw [h2, vp_cell_q, vp_cell_q]
        refine congrArg some (cw_arrV (fun i hi => ?_))
        show va_rf (if i < 20 then some (u.2.2 i 0) else none) = va_rf (some (tv_ad h0 u aM (16 * (i % 22 + 1))))
        rw [if_pos hi, Nat.mod_eq_of_lt (show i < 22 by omega)]
        exact congrArg (fun x => va_rf (some x)) (tv_ad_t (h0 := h0) (u := u) (aM := aM) (show i < 22 by omega) (show 0 < 16 by omega)).symm
      · by_cases h2 : q = 0
        · subst h2
          rw [← tv_ce_0]
          exact hm _ (List.mem_append_left _ (List.mem_append_left _ (List.mem_append_left _ List.mem_cons_self)))
        · have hq2 : q ∈ [2, 3, 4, 5] := by
            simp only [List.mem_cons, List.not_mem_nil, or_false] at hq ⊢
            omega
          refine hm _ (List.mem_append_left _ (List.mem_append_left _ (List.mem_append_right _ ?_)))
          rw [tv_ce_pg (h0 := h0) (aM := aM)]
          exact List.mem_map_of_mem (f := fun q => (tv_ad h0 u aM q, tv_ce (tv_ad h0 u aM) cs tv_h0 q)) hq2
    · obtain ⟨t, ht, hq⟩ := List.mem_flatMap.mp hq
      obtain ⟨k, hk, rfl⟩ := List.mem_map.mp hq
      refine hm _ (List.mem_append_left _ (List.mem_append_right _ (List.mem_flatMap.mpr ⟨t, ht, ?_⟩)))
      rw [tv_ce_t (h0 := h0) (aM := aM) (tv_ts_lt t ht)]
      exact List.mem_map_of_mem (f := fun k => (tv_ad h0 u aM (16 * (t + 1) + k), tv_ce (tv_ad h0 u aM) cs tv_h0 (16 * (t + 1) + k))) hk
  · obtain ⟨k, hk, rfl⟩ := List.mem_map.mp hq
    refine hm _ (List.mem_append_right _ ?_)
    rw [tv_ce_mw (h0 := h0) (u := u)]
    exact List.mem_map_of_mem (f := fun k => (tv_ad h0 u aM (400 + k), tv_ce (tv_ad h0 u aM) cs tv_h0 (400 + k))) hk
end TVS
