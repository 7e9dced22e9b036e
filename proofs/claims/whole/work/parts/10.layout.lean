/-! THE PURE HEAP: ints (position, index), longs (position, index), references to trees (position, index: the versions 1 i, the draft 0 8, the spare tree 0 12); the layout of positions is static -/
abbrev tv_AH : Type := (Nat → Nat → Int32) × (Nat → Nat → Int64) × (Nat → Nat → Fin 22)
def tv_tp (j : Fin 22) : Nat := 16 * (j.val + 1)
def tv_wI (h : tv_AH) (q i : Nat) (v : Int32) : tv_AH := (fun a b => if a = q ∧ b = i then v else h.1 a b, h.2)
def tv_wJ (h : tv_AH) (q i : Nat) (v : Int64) : tv_AH := (h.1, fun a b => if a = q ∧ b = i then v else h.2.1 a b, h.2.2)
def tv_wR (h : tv_AH) (q i : Nat) (j : Fin 22) : tv_AH := (h.1, h.2.1, fun a b => if a = q ∧ b = i then j else h.2.2 a b)
def tv_cp (h : tv_AH) (q0 sp q1 dp n : Nat) : tv_AH := (fun a => if a = q1 then va_cpy (h.1 q0) (h.1 q1) sp dp n else h.1 a, h.2)
/-- the class of the object at a position -/
def tv_ko (q : Nat) : Option Nat := if q = 0 then some 2 else if q = 2 then some 0 else if q = 400 then some 3 else if q % 16 = 0 ∧ 16 ≤ q ∧ q < 368 then some 1 else none
def tv_kt (k : Nat) : Option (Nat × Nat) := if 1 ≤ k ∧ k ≤ 4 then some (0, 24) else if 6 ≤ k ∧ k ≤ 12 then some (0, 96) else if k = 13 then some (1, 96) else none
def tv_km (k : Nat) : Option (Nat × Nat) := match k with
  | 1 => some (0, 60)
  | 10 => some (0, 22)
  | 11 => some (0, 528)
  | 12 => some (0, 528)
  | 13 => some (0, 22)
  | 14 => some (0, 2112)
  | 15 => some (0, 2112)
  | 16 => some (0, 2112)
  | 17 => some (0, 2112)
  | 18 => some (0, 2112)
  | 19 => some (2, 2112)
  | 20 => some (0, 96)
  | 21 => some (0, 96)
  | 22 => some (0, 96)
  | 25 => some (0, 24)
  | 26 => some (0, 24)
  | 29 => some (0, 24)
  | 30 => some (0, 24)
  | 31 => some (0, 96)
  | 32 => some (2, 96)
  | _ => none
/-- an array of numbers at a position: its type (0 int, 1 long, 2 boolean) and length -/
def tv_ka (q : Nat) : Option (Nat × Nat) := if q = 3 ∨ q = 4 ∨ q = 5 then some (0, 60) else if 16 ≤ q ∧ q < 368 then tv_kt (q % 16) else if 400 < q then tv_km (q - 400) else none
def tv_nf (ci : Nat) : Nat := match ci with
  | 0 => 6
  | 1 => 15
  | 2 => 13
  | _ => 34
/-- a field's kind: 0 int, 1 boolean, 2 long, 3 a reference that never changes, 4 a reference to a tree -/
def tv_fts (ci : Nat) : List Nat := match ci with
  | 0 => [3, 0, 1, 0, 3, 3]
  | 1 => [0, 3, 3, 3, 3, 0, 3, 3, 3, 3, 3, 3, 3, 3, 0]
  | 2 => [3, 0, 3, 0, 0, 0, 0, 0, 4, 1, 0, 0, 4]
  | _ => [0, 3, 0, 0, 0, 1, 0, 0, 0, 0, 3, 3, 3, 3, 3, 3, 3, 3, 3, 3, 3, 3, 3, 0, 0, 3, 3, 1, 0, 3, 3, 3, 3, 2]
def tv_ft (ci k : Nat) : Nat := (tv_fts ci).getD k 9
def tv_sr (ci q k : Nat) : Nat := if ci = 0 then (if k = 0 then 3 else k) else if ci = 2 then (if k = 0 then 1 else 2) else q + k
def tv_fv (ad : Nat → Nat) (h : tv_AH) (ci q k : Nat) : Value := if tv_ft ci k = 2 then .long (h.2.1 q k) else if tv_ft ci k = 3 then .ref (ad (tv_sr ci q k)) else if tv_ft ci k = 4 then .ref (ad (tv_tp (h.2.2 q k))) else .int (h.1 q k)
def tv_ar (cs : Nat → ClassId) (h : tv_AH) (q : Nat) (z : Nat × Nat) : va_E := if z.1 = 1 then .inl (cs 1, z.2, .inr (.inl (h.2.1 q))) else if z.1 = 2 then .inl (cs 2, z.2, .inl (h.1 q)) else .inl (cs 0, z.2, .inl (h.1 q))
def tv_vs (ad : Nat → Nat) (cs : Nat → ClassId) (h : tv_AH) : va_E := .inl (cs 3, 20, .inr (.inr (.inr (.inr (fun i => some (ad (tv_tp (h.2.2 1 i))))))))
def tv_ce (ad : Nat → Nat) (cs : Nat → ClassId) (h : tv_AH) (q : Nat) : va_E := match tv_ko q with
  | some ci => .inr (ci, (List.range (tv_nf ci)).map (tv_fv ad h ci q))
  | none => match tv_ka q with
    | some z => tv_ar cs h q z
    | none => if q = 1 then tv_vs ad cs h else .inr (9, [])
def tv_lv (q : Nat) : Bool := (tv_ko q).isSome || (tv_ka q).isSome || q == 1
def tv_live : List Nat := (List.range 434).filter tv_lv
def tv_enc (ad : Nat → Nat) (cs : Nat → ClassId) (h : tv_AH) : va_W := tv_live.map (fun q => (ad q, tv_ce ad cs h q))
def tv_T (ci : Nat) : u_T := match ci with
  | 0 => TX0
  | 1 => TX1
  | 2 => TX2
  | _ => TX3
def tv_R (ci : Nat) : String := match ci with
  | 0 => RX0
  | 1 => RX1
  | 2 => RX2
  | _ => RX3
def tv_ty (ci : Nat) : Nat → FieldType := match ci with
  | 0 => tyX0
  | 1 => tyX1
  | 2 => tyX2
  | _ => tyX3
def tv_cl : List vw_C := [(RX0, TX0, 6), (RX1, TX1, 15), (RX2, TX2, 13), (RX3, TX3, 34)]
def tv_tys (cs : Nat → ClassId) : List (ClassId × FieldType) := [(cs 0, .int), (cs 1, .long), (cs 2, .boolean), (cs 3, .object RX1)]
def tv_ws : List Cond := lw_tbl.filter goodWord
theorem tv_ws_in {w : Cond} (h : w ∈ lw_tbl) (g : goodWord w = true) : w ∈ tv_ws := List.mem_filter.mpr ⟨h, g⟩
theorem tv_ws_good {w : Cond} (h : w ∈ tv_ws) : (w.onTables && w.keeps) = true ∨ ∃ ty, w = .arrayClass ty := good_of_word (List.mem_filter.mp h).2
theorem tv_in0 : ∀ w ∈ u_ws RX0 TX0 6, w ∈ tv_ws := by decide +kernel
theorem tv_in1 : ∀ w ∈ u_ws RX1 TX1 15, w ∈ tv_ws := by decide +kernel
theorem tv_in2 : ∀ w ∈ u_ws RX2 TX2 13, w ∈ tv_ws := by decide +kernel
theorem tv_in3 : ∀ w ∈ u_ws RX3 TX3 34, w ∈ tv_ws := by decide +kernel
theorem tv_inN (ci : Nat) (h : ci < 4) : (∀ w ∈ u_ws (tv_R ci) (tv_T ci) (tv_nf ci), w ∈ tv_ws) ∧ tv_cl[ci]? = some (tv_R ci, tv_T ci, tv_nf ci) ∧ (∀ k, k < tv_nf ci → parseFieldDescriptor (tv_T ci k).2.2.1 = some (tv_ty ci k)) ∧ (∀ a, a < tv_nf ci → ∀ b, b < tv_nf ci → a ≠ b → (tv_T ci a).2.1 ≠ (tv_T ci b).2.1) := by
  match ci, h with
  | 0, _ => exact ⟨tv_in0, rfl, tyX0_ok, nmX0⟩
  | 1, _ => exact ⟨tv_in1, rfl, tyX1_ok, nmX1⟩
  | 2, _ => exact ⟨tv_in2, rfl, tyX2_ok, nmX2⟩
  | 3, _ => exact ⟨tv_in3, rfl, tyX3_ok, nmX3⟩
theorem tv_ko4 {q ci : Nat} (h : tv_ko q = some ci) : ci < 4 ∧ q ≤ 400 := by
  unfold tv_ko at h
  split at h
  · cases h; omega
  · split at h
    · cases h; omega
    · split at h
      · cases h; omega
      · split at h
        · cases h; omega
        · cases h
theorem tv_koL {q ci : Nat} (h : tv_ko q = some ci) : q ∈ tv_live := by
  refine List.mem_filter.mpr ⟨List.mem_range.mpr ?_, ?_⟩
  · have := (tv_ko4 h).2; omega
  · unfold tv_lv; rw [h]; rfl
theorem tv_km_lt {k : Nat} {z : Nat × Nat} (h : tv_km k = some z) : k < 34 := by
  rcases Nat.lt_or_ge k 34 with q | q
  · exact q
  · exfalso
    unfold tv_km at h
    split at h <;> first | omega | cases h
theorem tv_kaL {q : Nat} {z : Nat × Nat} (h : tv_ka q = some z) : q ∈ tv_live := by
  refine List.mem_filter.mpr ⟨List.mem_range.mpr ?_, ?_⟩
  · unfold tv_ka at h
    split at h
    · omega
    · split at h
      · omega
      · split at h
        · have := tv_km_lt h; omega
        · cases h
  · unfold tv_lv; rw [h]; simp
theorem tv_ka_ko {q : Nat} {z : Nat × Nat} (h : tv_ka q = some z) : tv_ko q = none := by
  cases hk : tv_ko q with
  | none => rfl
  | some ci =>
    exfalso
    unfold tv_ko at hk
    unfold tv_ka at h
    split at hk
    · subst_vars; simp at h
    · split at hk
      · subst_vars; simp at h
      · split at hk
        · subst_vars; simp at h
        · split at hk
          · rename_i h1
            rw [if_neg (by omega), if_pos (by omega), h1.1] at h
            simp [tv_kt] at h
          · cases hk
theorem tv_nodup : tv_live.Nodup := List.Nodup.sublist List.filter_sublist List.nodup_range
theorem tv_at {ad : Nat → Nat} {cs : Nat → ClassId} {h : tv_AH} {q : Nat} (hq : q ∈ tv_live) : ∃ n : Nat, tv_live[n]? = some q ∧ (tv_enc ad cs h)[n]? = some (ad q, tv_ce ad cs h q) := by
  obtain ⟨n, hn⟩ := List.getElem?_of_mem hq
  exact ⟨n, hn, by simp [tv_enc, hn]⟩
theorem tv_set {ad : Nat → Nat} {cs : Nat → ClassId} {h h' : tv_AH} {q n : Nat} (hn : tv_live[n]? = some q) (hne : ∀ q' ∈ tv_live, q' ≠ q → tv_ce ad cs h' q' = tv_ce ad cs h q') : (tv_enc ad cs h).set n (ad q, tv_ce ad cs h' q) = tv_enc ad cs h' := by
  apply List.ext_getElem?
  intro i
  rw [List.getElem?_set]
  have hlt : n < tv_live.length := (List.getElem?_eq_some_iff.mp hn).1
  split
  · rename_i e
    subst e
    simp only [tv_enc, List.length_map, hlt, if_true, List.getElem?_map, hn, Option.map_some]
  · rename_i e
    simp only [tv_enc, List.getElem?_map]
    cases hi : tv_live[i]? with
    | none => rfl
    | some q' =>
      have hq' : q' ≠ q := by
        intro e2
        subst e2
        exact e ((List.getElem?_inj hlt tv_nodup).mp (hn.trans hi.symm))
      simp only [Option.map_some]
      rw [hne q' (List.mem_of_getElem? hi) hq']
/-- the addresses of the live positions differ, and lie in A -/
def tv_ok (ad : Nat → Nat) (A : Nat → Prop) : Prop := (∀ q ∈ tv_live, ∀ q' ∈ tv_live, ad q = ad q' → q = q') ∧ ∀ q ∈ tv_live, A (ad q)
theorem tv_D {ad : Nat → Nat} {cs : Nat → ClassId} {h : tv_AH} {A : Nat → Prop} (k : tv_ok ad A) : va_D A (tv_enc ad cs h) := by
  refine ⟨fun i j p q hi hj e => ?_, fun i q hi => ?_⟩
  · simp only [tv_enc, List.getElem?_map] at hi hj
    cases h1 : tv_live[i]? with
    | none => rw [h1] at hi; cases hi
    | some a =>
      cases h2 : tv_live[j]? with
      | none => rw [h2] at hj; cases hj
      | some b =>
        rw [h1] at hi
        rw [h2] at hj
        simp only [Option.map_some, Option.some.injEq] at hi hj
        subst hi
        subst hj
        have e2 := k.1 a (List.mem_of_getElem? h1) b (List.mem_of_getElem? h2) e
        subst e2
        exact (List.getElem?_inj (List.getElem?_eq_some_iff.mp h1).1 tv_nodup).mp (h1.trans h2.symm)
  · simp only [tv_enc, List.getElem?_map] at hi
    cases h1 : tv_live[i]? with
    | none => rw [h1] at hi; cases hi
    | some a =>
      rw [h1] at hi
      simp only [Option.map_some, Option.some.injEq] at hi
      subst hi
      exact k.2 a (List.mem_of_getElem? h1)
theorem tv_ko_tp (j : Fin 22) : tv_ko (tv_tp j) = some 1 := by
  have := j.isLt
  unfold tv_ko tv_tp
  rw [if_neg (by omega), if_neg (by omega), if_neg (by omega), if_pos (by omega)]
theorem tv_ka_tp (j : Fin 22) (k : Nat) (hk : k < 16) : tv_ka (tv_tp j + k) = tv_kt k := by
  have := j.isLt
  unfold tv_ka tv_tp
  rw [if_neg (by omega), if_pos (by omega)]
  congr 1
  omega
theorem tv_tp_inj {i j : Fin 22} (h : tv_tp i = tv_tp j) : i = j := by
  unfold tv_tp at h
  exact Fin.ext (by omega)
theorem tv_ce_o {ad : Nat → Nat} {cs : Nat → ClassId} {h : tv_AH} {q ci : Nat} (k : tv_ko q = some ci) : tv_ce ad cs h q = .inr (ci, (List.range (tv_nf ci)).map (tv_fv ad h ci q)) := by
  unfold tv_ce; rw [k]
theorem tv_ce_a {ad : Nat → Nat} {cs : Nat → ClassId} {h : tv_AH} {q : Nat} {z : Nat × Nat} (k : tv_ka q = some z) : tv_ce ad cs h q = tv_ar cs h q z := by
  unfold tv_ce; rw [tv_ka_ko k, k]
theorem tv_ce_v {ad : Nat → Nat} {cs : Nat → ClassId} {h : tv_AH} : tv_ce ad cs h 1 = tv_vs ad cs h := rfl
theorem tv_ce_neR {ad : Nat → Nat} {cs : Nat → ClassId} {h : tv_AH} {q q' i : Nat} {v : Fin 22} (hne : q' ≠ q) (hh : ∀ {h h' : tv_AH} {q : Nat}, h'.1 q = h.1 q → h'.2.1 q = h.2.1 q → h'.2.2 q = h.2.2 q → tv_ce ad cs h' q = tv_ce ad cs h q) : tv_ce ad cs (tv_wR h q i v) q' = tv_ce ad cs h q' := by
  refine hh rfl rfl ?_
  funext b
  simp [tv_wR, hne]
theorem tv_1L : 1 ∈ tv_live := List.mem_filter.mpr ⟨List.mem_range.mpr (by omega), rfl⟩
/-- a cell is what its own numbers are -/
theorem tv_ce_eq {ad : Nat → Nat} {cs : Nat → ClassId} {h h' : tv_AH} {q : Nat} (h1 : h'.1 q = h.1 q) (h2 : h'.2.1 q = h.2.1 q) (h3 : h'.2.2 q = h.2.2 q) : tv_ce ad cs h' q = tv_ce ad cs h q := by
  have e : ∀ ci, tv_fv ad h' ci q = tv_fv ad h ci q := by
    intro ci
    funext k
    unfold tv_fv
    rw [h1, h2, h3]
  by_cases hq : q = 1
  · subst hq
    rw [tv_ce_v, tv_ce_v]
    unfold tv_vs
    rw [h3]
  · cases hk : tv_ko q with
    | some ci => rw [tv_ce_o hk, tv_ce_o hk, e]
    | none =>
      cases ha : tv_ka q with
      | some z => rw [tv_ce_a ha, tv_ce_a ha]; unfold tv_ar; rw [h1, h2]
      | none =>
        unfold tv_ce
        rw [hk, ha]
        simp only [hq, if_false]
theorem tv_ce_ne {ad : Nat → Nat} {cs : Nat → ClassId} {h : tv_AH} {q q' i : Nat} {v : Int32} (hne : q' ≠ q) : tv_ce ad cs (tv_wI h q i v) q' = tv_ce ad cs h q' := by
  refine tv_ce_eq ?_ rfl rfl
  funext b
  simp [tv_wI, hne]
theorem tv_ce_neJ {ad : Nat → Nat} {cs : Nat → ClassId} {h : tv_AH} {q q' i : Nat} {v : Int64} (hne : q' ≠ q) : tv_ce ad cs (tv_wJ h q i v) q' = tv_ce ad cs h q' := by
  refine tv_ce_eq rfl ?_ rfl
  funext b
  simp [tv_wJ, hne]
theorem tv_ce_neC {ad : Nat → Nat} {cs : Nat → ClassId} {h : tv_AH} {q0 q1 q' sp dp n : Nat} (hne : q' ≠ q1) : tv_ce ad cs (tv_cp h q0 sp q1 dp n) q' = tv_ce ad cs h q' := by
  refine tv_ce_eq ?_ rfl rfl
  simp [tv_cp, hne]
