/-! THE SPECIFICATION: the state, and what each call answers and makes of it -/
abbrev sp_V : Type := List (Nat × Nat) × List Nat
/-- factor and width; versions; page; made, reads, seals; the edit: what it has, from which number on nodes are its own, how many were made in it -/
abbrev sp_S : Type := (Nat × Nat) × List sp_V × List Nat × (Nat × Nat × Nat) × Option (sp_V × Nat × Nat)
abbrev ss_f (S : sp_S) : Nat := S.1.1
abbrev ss_w (S : sp_S) : Nat := S.1.2
abbrev ss_vs (S : sp_S) : List sp_V := S.2.1
abbrev ss_pg (S : sp_S) : List Nat := S.2.2.1
abbrev ss_md (S : sp_S) : Nat := S.2.2.2.1.1
abbrev ss_rd (S : sp_S) : Nat := S.2.2.2.1.2.1
abbrev ss_sl (S : sp_S) : Nat := S.2.2.2.1.2.2
abbrev ss_ed (S : sp_S) : Option (sp_V × Nat × Nat) := S.2.2.2.2
def ss_v (S : sp_S) (v : Nat) : sp_V := (ss_vs S).getD v ([], [])
/-- a number from 0 to b -/
def sp_rg (x : Int32) (b : Nat) : Option Nat := if 0 ≤ x ∧ x ≤ nI b then some x.toNatClampNeg else none
theorem sp_rg_in {n b : Nat} (h : n ≤ b) (hb : b < 2 ^ 31) : sp_rg (nI n) b = some n := by
  unfold sp_rg
  rw [if_pos ⟨nI_pos' (by omega), nI_le h hb⟩, nI_clamp (by omega)]
theorem sp_rg_some {x : Int32} {b n : Nat} (hb : b < 2 ^ 31) (h : sp_rg x b = some n) : n ≤ b ∧ x = nI n := by
  unfold sp_rg at h
  split at h
  · rename_i c
    obtain ⟨j, hj, rfl⟩ := nI_of (Int32.not_lt.mpr c.1)
    rw [nI_clamp hj] at h
    cases h
    exact ⟨(nI_leI hj hb).mp c.2, rfl⟩
  · cases h
theorem sp_rg_none {x : Int32} {b : Nat} (h : sp_rg x b = none) : ¬ (0 ≤ x ∧ x ≤ nI b) := by
  unfold sp_rg at h
  split at h
  · cases h
  · assumption
def ss_ver (S : sp_S) (v : Int32) : Option Nat := sp_rg v ((ss_vs S).length - 1)
/-- a new version with these entries, numbered out of one version or two -/
def ss_add (S : sp_S) (E' : List (Nat × Nat)) (one : sp_V) (two : Option sp_V) : Int32 × sp_S :=
  let r := sp_new (ss_f S) (ss_w S) E' one two (ss_md S)
  (nI (ss_vs S).length, (S.1, ss_vs S ++ [(E', r.1)], ss_pg S, (r.2, ss_rd S, ss_sl S), ss_ed S))
def ss_ord (S : sp_S) : Nat → Nat := sp_ord (ss_f S) (ss_w S)
def ss_letter (S : sp_S) (c : Int32) : Int32 × sp_S := match sp_rg c 126 with
  | some c => if c < 32 then (-102, S) else if (ss_pg S).length = 60 then (-104, S) else (nI ((ss_pg S).length + 1), (S.1, ss_vs S, ss_pg S ++ [c], S.2.2.2.1, ss_ed S))
  | none => (-102, S)
def ss_blank (S : sp_S) : Int32 × sp_S := (nI (ss_pg S).length, (S.1, ss_vs S, [], S.2.2.2.1, ss_ed S))
/-- along a page: entries done, the key, whether a value is read, the number so far -/
abbrev sp_C : Type := List (Nat × Nat) × Nat × Bool × Option Nat
def sp_take (s : sp_C) (c : Nat) : Option sp_C := if 48 ≤ c ∧ c ≤ 57 then (match s.2.2.2 with
      | none => some (s.1, s.2.1, s.2.2.1, some (c - 48))
      | some n => if n ≠ 0 ∧ 10 * n + (c - 48) ≤ (if s.2.2.1 then 999 else 4095) then some (s.1, s.2.1, s.2.2.1, some (10 * n + (c - 48))) else none)
  else (match s.2.2.2 with
      | none => none
      | some n => if c = (if s.2.2.1 then 59 else 61) then (if s.2.2.1 then some (s.1 ++ [(s.2.1, n)], s.2.1, false, none) else some (s.1, n, true, none)) else none)
def sp_along : List Nat → sp_C → Nat → Nat × sp_C
  | [], s, i => (i, s)
  | c :: r, s, i => match sp_take s c with
    | some s' => sp_along r s' (i + 1)
    | none => (i, s)
def sp_c0 : sp_C := ([], 0, false, none)
def ss_fault (S : sp_S) : Int32 × sp_S := (nI (sp_along (ss_pg S) sp_c0 0).1, S)
/-- the entries of a page that is a map -/
def sp_map (pg : List Nat) : Option (List (Nat × Nat)) := if pg = [] then some [] else
  if (sp_along pg sp_c0 0).1 = pg.length ∧ (sp_along pg sp_c0 0).2.2.2.1 = true then (match (sp_along pg sp_c0 0).2.2.2.2 with
    | some n => some ((sp_along pg sp_c0 0).2.1 ++ [((sp_along pg sp_c0 0).2.2.1, n)])
    | none => none) else none
/-- entries set one after another in an edit -/
def sp_sets (f w own : Nat) : List (Nat × Nat) → sp_V → Nat → sp_V × Nat
  | [], V, md => (V, md)
  | e :: r, V, md => let E' := sp_give (sp_ord f w) V.1 e.1 e.2
    let x := sp_edn f w E' V.1 V.2 own md
    sp_sets f w own r (E', x.1) x.2
def ss_read (S : sp_S) : Int32 × sp_S := match sp_map (ss_pg S) with
  | none => (-103, S)
  | some L => if (ss_vs S).length = 20 then (-104, S) else
    let r := sp_sets (ss_f S) (ss_w S) (ss_md S) L ([], []) (ss_md S)
    (nI (ss_vs S).length, (S.1, ss_vs S ++ [r.1], [], (r.2, ss_rd S + 1, ss_sl S), ss_ed S))
def ss_scheme (S : sp_S) (x y : Int32) : Int32 × sp_S := match sp_rg x 65535 with
  | some f => if f % 2 = 0 then (-102, S) else (match sp_rg y 30 with
    | some w => if w < 3 then (-102, S) else (nI ((ss_vs S).length - 1), ((f, w), (ss_vs S).take 1, ss_pg S, S.2.2.2.1, none))
    | none => (-102, S))
  | none => (-102, S)
def ss_hash (S : sp_S) (x : Int32) : Int32 × sp_S := match sp_rg x 4095 with
  | some k => (nI (sp_hash (ss_f S) (ss_w S) k), S)
  | none => (-102, S)
def ss_put (S : sp_S) (v x y : Int32) : Int32 × sp_S := match ss_ver S v with
  | none => (-101, S)
  | some n => match sp_rg x 4095 with
    | none => (-102, S)
    | some k => match sp_rg y 999 with
      | none => (-102, S)
      | some u => if (ss_vs S).length = 20 ∨ ((ss_v S n).1.length = 24 ∧ sp_fi (ss_v S n).1 k = none) then (-104, S) else ss_add S (sp_give (ss_ord S) (ss_v S n).1 k u) (ss_v S n) none
def ss_remove (S : sp_S) (v x : Int32) : Int32 × sp_S := match ss_ver S v with
  | none => (-101, S)
  | some n => match sp_rg x 4095 with
    | none => (-102, S)
    | some k => if (ss_vs S).length = 20 then (-104, S) else ss_add S (sp_del (ss_v S n).1 k) (ss_v S n) none
/-- the keys of E that F has -/
def sp_inb (E F : List (Nat × Nat)) : Nat := (E.filter (fun e => (sp_fi F e.1).isSome)).length
def sp_bth (o : Nat → Nat) (E F : List (Nat × Nat)) (how : Nat) : List (Nat × Nat) := if how = 0 then (F.filter (fun e => (sp_fi E e.1).isNone)).foldl (fun A e => sp_give o A e.1 e.2) E
  else if how = 1 then E.filter (fun e => (sp_fi F e.1).isSome) else E.filter (fun e => (sp_fi F e.1).isNone)
def ss_both (S : sp_S) (v u x : Int32) : Int32 × sp_S := match ss_ver S v with
  | none => (-101, S)
  | some n => match ss_ver S u with
    | none => (-101, S)
    | some m => match sp_rg x 2 with
      | none => (-102, S)
      | some how => if (ss_vs S).length = 20 ∨ (how = 0 ∧ 24 < (ss_v S n).1.length + (ss_v S m).1.length - sp_inb (ss_v S n).1 (ss_v S m).1) then (-104, S) else ss_add S (sp_bth (ss_ord S) (ss_v S n).1 (ss_v S m).1 how) (ss_v S n) (some (ss_v S m))
def ss_chosen (S : sp_S) (v x y : Int32) : Int32 × sp_S := match ss_ver S v with
  | none => (-101, S)
  | some n => match sp_rg x 999 with
    | none => (-102, S)
    | some b => if b = 0 then (-102, S) else (match sp_rg y (b - 1) with
      | none => (-102, S)
      | some r => if (ss_vs S).length = 20 then (-104, S) else ss_add S ((ss_v S n).1.filter (fun e => e.2 % b == r)) (ss_v S n) none)
def ss_forget (S : sp_S) : Int32 × sp_S := if (ss_vs S).length = 1 then (-103, S) else (nI ((ss_vs S).length - 1), (S.1, (ss_vs S).take ((ss_vs S).length - 1), ss_pg S, S.2.2.2.1, ss_ed S))
def ss_begin (S : sp_S) (v : Int32) : Int32 × sp_S := match ss_ver S v with
  | none => (-101, S)
  | some n => match ss_ed S with
    | some _ => (-103, S)
    | none => (nI (ss_v S n).1.length, (S.1, ss_vs S, ss_pg S, S.2.2.2.1, some (ss_v S n, ss_md S, 0)))
/-- the edit has other entries -/
def ss_redo (S : sp_S) (V : sp_V) (own mi : Nat) (E' : List (Nat × Nat)) : Int32 × sp_S :=
  let x := sp_edn (ss_f S) (ss_w S) E' V.1 V.2 own (ss_md S)
  (nI E'.length, (S.1, ss_vs S, ss_pg S, (x.2, ss_rd S, ss_sl S), some ((E', x.1), own, mi + (x.2 - ss_md S))))
def ss_set (S : sp_S) (x y : Int32) : Int32 × sp_S := match ss_ed S with
  | none => (-103, S)
  | some (V, own, mi) => match sp_rg x 4095 with
    | none => (-102, S)
    | some k => match sp_rg y 999 with
      | none => (-102, S)
      | some u => if V.1.length = 24 ∧ sp_fi V.1 k = none then (-104, S) else ss_redo S V own mi (sp_give (ss_ord S) V.1 k u)
def ss_unset (S : sp_S) (x : Int32) : Int32 × sp_S := match ss_ed S with
  | none => (-103, S)
  | some (V, own, mi) => match sp_rg x 4095 with
    | none => (-102, S)
    | some k => ss_redo S V own mi (sp_del V.1 k)
def ss_seal (S : sp_S) : Int32 × sp_S := match ss_ed S with
  | none => (-103, S)
  | some (V, _, _) => if (ss_vs S).length = 20 then (-104, S) else (nI (ss_vs S).length, (S.1, ss_vs S ++ [V], ss_pg S, (ss_md S, ss_rd S, ss_sl S + 1), none))
def sp_owns (ids : List Nat) (own : Nat) : Nat := (ids.filter (fun i => own ≤ i)).length
def ss_leave (S : sp_S) : Int32 × sp_S := match ss_ed S with
  | none => (-103, S)
  | some (V, own, _) => (nI (sp_owns V.2 own), (S.1, ss_vs S, ss_pg S, S.2.2.2.1, none))
def sp_edit (V : sp_V) (own mi what : Nat) : Nat := if what = 0 then V.1.length else if what = 1 then V.2.length else if what = 2 then sp_owns V.2 own else mi
def ss_edit (S : sp_S) (x : Int32) : Int32 × sp_S := match ss_ed S with
  | none => (-103, S)
  | some (V, own, mi) => match sp_rg x 3 with
    | none => (-102, S)
    | some n => (nI (sp_edit V own mi n), S)
def sp_get (E : List (Nat × Nat)) (k : Nat) : Int32 := match sp_fi E k with
  | some i => nI (sp_v E i)
  | none => -1
def ss_get (S : sp_S) (v x : Int32) : Int32 × sp_S := match ss_ver S v with
  | none => (-101, S)
  | some n => match sp_rg x 4095 with
    | none => (-102, S)
    | some k => (sp_get (ss_v S n).1 k, S)
def sp_kinds (N : List sp_nd) (k : Nat) : Nat := (N.filter (fun x => x.1 == k)).length
def sp_deep (N : List sp_nd) : Int32 := N.foldl (fun m x => if m < nI x.2.1 then nI x.2.1 else m) (-1)
def sp_about (f w : Nat) (E : List (Nat × Nat)) (what : Nat) : Int32 := if what = 0 then nI E.length else if what = 1 then nI (sp_N f w E).length else if what ≤ 4 then nI (sp_kinds (sp_N f w E) (what - 2)) else sp_deep (sp_N f w E)
def ss_about (S : sp_S) (v x : Int32) : Int32 × sp_S := match ss_ver S v with
  | none => (-101, S)
  | some n => match sp_rg x 5 with
    | none => (-102, S)
    | some k => (sp_about (ss_f S) (ss_w S) (ss_v S n).1 k, S)
def sp_mask (g : Nat → Nat) (x : sp_nd) : Int32 := if x.1 = 2 then (List.range x.2.2.2).foldl (fun m t => m ||| ((1 : Int32) <<< (nI (sp_part (g (x.2.2.1 + t)) x.2.1) &&& 31))) 0 else -1
def sp_node (f w : Nat) (E : List (Nat × Nat)) (x : sp_nd) (what : Nat) : Int32 := if what = 0 then nI x.1 else if what = 1 then nI x.2.1 else if what = 2 then nI x.2.2.2 else if what = 3 then nI (sp_k E x.2.2.1) else sp_mask (sp_g f w E) x
def ss_node (S : sp_S) (v p x : Int32) : Int32 × sp_S := match ss_ver S v with
  | none => (-101, S)
  | some n => if 0 ≤ p ∧ p < nI (sp_N (ss_f S) (ss_w S) (ss_v S n).1).length then (match sp_rg x 4 with
    | none => (-102, S)
    | some k => (sp_node (ss_f S) (ss_w S) (ss_v S n).1 (sp_n (sp_N (ss_f S) (ss_w S) (ss_v S n).1) p.toNatClampNeg) k, S)) else (-101, S)
/-- the level of the last node that is no branch and has entry i -/
def sp_elv (N : List sp_nd) (i : Nat) : Int32 := N.foldl (fun m x => if x.1 ≠ 2 ∧ x.2.2.1 ≤ i ∧ i < x.2.2.1 + x.2.2.2 then nI x.2.1 else m) (-1)
def sp_entry (f w : Nat) (E : List (Nat × Nat)) (i what : Nat) : Int32 := if what = 0 then nI (sp_k E i) else if what = 1 then nI (sp_v E i) else sp_elv (sp_N f w E) i
def ss_entry (S : sp_S) (v p x : Int32) : Int32 × sp_S := match ss_ver S v with
  | none => (-101, S)
  | some n => if 0 ≤ p ∧ p < nI (ss_v S n).1.length then (match sp_rg x 2 with
    | none => (-102, S)
    | some k => (sp_entry (ss_f S) (ss_w S) (ss_v S n).1 p.toNatClampNeg k, S)) else (-101, S)
def sp_shr (a b : List Nat) : Nat := (a.filter (fun i => b.contains i)).length
def ss_shared (S : sp_S) (v u : Int32) : Int32 × sp_S := match ss_ver S v with
  | none => (-101, S)
  | some n => match ss_ver S u with
    | none => (-101, S)
    | some m => (nI (sp_shr (ss_v S n).2 (ss_v S m).2), S)
def sp_alk (E F : List (Nat × Nat)) : Nat := (E.filter (fun e => sp_get F e.1 == nI e.2)).length
def sp_tw2 (E F : List (Nat × Nat)) (what : Nat) : Nat := if what = 0 then (if sp_alk E F = E.length ∧ sp_alk E F = F.length then 1 else 0) else if what = 1 then sp_alk E F else if what = 2 then sp_inb E F - sp_alk E F else if what = 3 then E.length - sp_inb E F else F.length - sp_inb E F
def ss_two (S : sp_S) (v u x : Int32) : Int32 × sp_S := match ss_ver S v with
  | none => (-101, S)
  | some n => match ss_ver S u with
    | none => (-101, S)
    | some m => match sp_rg x 4 with
      | none => (-102, S)
      | some k => (nI (sp_tw2 (ss_v S n).1 (ss_v S m).1 k), S)
/-- nodes of version v that no earlier version has -/
def sp_nw (vs : List sp_V) (v : Nat) : Nat := ((vs.getD v ([], [])).2.filter (fun i => (List.range v).all (fun e => !((vs.getD e ([], [])).2.contains i)))).length
def sp_all (vs : List sp_V) : Nat := ((List.range vs.length).map (sp_nw vs)).sum
def sp_count (S : sp_S) (what : Nat) : Nat := if what = 0 then (ss_vs S).length else if what = 1 then ss_md S else if what = 2 then sp_all (ss_vs S) else if what = 3 then (ss_pg S).length else if what = 4 then ss_rd S else if what = 5 then ss_sl S else if what = 6 then (if (ss_ed S).isSome then 1 else 0) else if what = 7 then ss_f S else ss_w S
def ss_count (S : sp_S) (x : Int32) : Int32 × sp_S := match sp_rg x 8 with
  | none => (-102, S)
  | some k => (nI (sp_count S k), S)
def sp_mix (z : Int64) (x : Int32) : Int64 := 31 * z + x.toInt64
/-- what the digest joins for a version -/
def sp_dgv (S : sp_S) (v : Nat) : List Int32 :=
  (List.range 6).map (sp_about (ss_f S) (ss_w S) (ss_v S v).1) ++
  (sp_N (ss_f S) (ss_w S) (ss_v S v).1).flatMap (fun x => (List.range 5).map (sp_node (ss_f S) (ss_w S) (ss_v S v).1 x)) ++
  (List.range (ss_v S v).1.length).flatMap (fun i => (List.range 3).map (sp_entry (ss_f S) (ss_w S) (ss_v S v).1 i)) ++
  (if v = 0 then [] else [nI (sp_shr (ss_v S v).2 (ss_v S (v - 1)).2)])
def sp_dgs (S : sp_S) : List Int32 :=
  (List.range (ss_vs S).length).flatMap (sp_dgv S) ++
  (match ss_ed S with
    | some (V, own, mi) => (List.range 4).map (fun k => nI (sp_edit V own mi k))
    | none => []) ++
  (ss_pg S).map nI ++
  (List.range 9).map (fun k => nI (sp_count S k))
def ss_digest (S : sp_S) : Int64 := (sp_dgs S).foldl sp_mix 1579
