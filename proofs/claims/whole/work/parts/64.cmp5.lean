/-! THE COMPONENT: laying a tree's nodes -/
/-- the heaps agree but for ints at P and longs at Q -/
def tv_agJ (P Q : Nat → Nat → Prop) (h h' : tv_AH) : Prop := h'.2.2 = h.2.2 ∧ (∀ q i, ¬ P q i → h'.1 q i = h.1 q i) ∧ ∀ q i, ¬ Q q i → h'.2.1 q i = h.2.1 q i
theorem tv_agJ.rf {P Q : Nat → Nat → Prop} {h : tv_AH} : tv_agJ P Q h h := ⟨rfl, fun _ _ _ => rfl, fun _ _ _ => rfl⟩
theorem tv_agJ.tr {P Q : Nat → Nat → Prop} {h h' h'' : tv_AH} (a : tv_agJ P Q h h') (b : tv_agJ P Q h' h'') : tv_agJ P Q h h'' := ⟨b.1.trans a.1, fun q i n => (b.2.1 q i n).trans (a.2.1 q i n), fun q i n => (b.2.2 q i n).trans (a.2.2 q i n)⟩
theorem tv_agJ.mo {P Q P' Q' : Nat → Nat → Prop} {h h' : tv_AH} (a : tv_agJ P Q h h') (m : ∀ q i, P q i → P' q i) (m' : ∀ q i, Q q i → Q' q i) : tv_agJ P' Q' h h' := ⟨a.1, fun q i n => a.2.1 q i (fun z => n (m q i z)), fun q i n => a.2.2 q i (fun z => n (m' q i z))⟩
theorem tv_agJ.wI {P Q : Nat → Nat → Prop} {h h' : tv_AH} {q i : Nat} {v : Int32} (a : tv_agJ P Q h h') (p : P q i) : tv_agJ P Q h (tv_wI h' q i v) := ⟨a.1, fun q' i' n => by rw [tv_wIc (fun z => n (by rw [z.1, z.2]; exact p))]; exact a.2.1 q' i' n, a.2.2⟩
theorem tv_agJ.wJ {P Q : Nat → Nat → Prop} {h h' : tv_AH} {q i : Nat} {v : Int64} (a : tv_agJ P Q h h') (p : Q q i) : tv_agJ P Q h (tv_wJ h' q i v) := ⟨a.1, a.2.1, fun q' i' n => by rw [tv_wJ2, if_neg (fun z => n (by rw [z.1, z.2]; exact p))]; exact a.2.2 q' i' n⟩
theorem tv_ag.J {P Q : Nat → Nat → Prop} {h h' : tv_AH} (a : tv_ag P h h') : tv_agJ P Q h h' := ⟨by rw [a.1], a.2, fun q i _ => by rw [a.1]⟩
/-- row i of a tree's nodes is this node -/
def ct_row (f w : Nat) (j : Fin 22) (E : List (Nat × Nat)) (h : tv_AH) (i : Nat) (x : sp_nd) : Prop := h.1 (tv_tp j + 7) i = nI x.1 ∧ h.1 (tv_tp j + 8) i = nI x.2.1 ∧ h.1 (tv_tp j + 9) i = nI x.2.2.1 ∧ h.1 (tv_tp j + 10) i = nI x.2.2.2 ∧ h.1 (tv_tp j + 11) i = sp_mask (sp_g f w E) x ∧ h.1 (tv_tp j + 12) i = nI (sp_lay (sp_g f w E) (7 - x.2.1) x.2.2.1 (x.2.2.1 + x.2.2.2)).length ∧ h.2.1 (tv_tp j + 13) i = lN (sp_pl f w E x)
theorem ct_row.cg {f w i : Nat} {j : Fin 22} {E : List (Nat × Nat)} {h h' : tv_AH} {x : sp_nd} (r : ct_row f w j E h i x) (c : ∀ q, tv_tp j + 7 ≤ q → q ≤ tv_tp j + 12 → h'.1 q i = h.1 q i) (c' : h'.2.1 (tv_tp j + 13) i = h.2.1 (tv_tp j + 13) i) : ct_row f w j E h' i x := by
  unfold ct_row
  rw [c _ (by omega) (by omega), c _ (by omega) (by omega), c _ (by omega) (by omega), c _ (by omega) (by omega), c _ (by omega) (by omega), c _ (by omega) (by omega), c']
  exact r
def sp_elvF (m : Int32) (N : List sp_nd) (t : Nat) : Int32 := N.foldl (fun m x => if x.1 ≠ 2 ∧ x.2.2.1 ≤ t ∧ t < x.2.2.1 + x.2.2.2 then nI x.2.1 else m) m
theorem sp_elvF_app {m : Int32} {A B : List sp_nd} {t : Nat} : sp_elvF m (A ++ B) t = sp_elvF (sp_elvF m A t) B t := List.foldl_append
theorem sp_elvF_no {t : Nat} : ∀ {N : List sp_nd} {m : Int32}, (∀ x ∈ N, ¬ (x.2.2.1 ≤ t ∧ t < x.2.2.1 + x.2.2.2)) → sp_elvF m N t = m
  | [], _, _ => rfl
  | x :: N, m, h => by
    show sp_elvF (if x.1 ≠ 2 ∧ x.2.2.1 ≤ t ∧ t < x.2.2.1 + x.2.2.2 then nI x.2.1 else m) N t = m
    rw [if_neg (fun z => h x List.mem_cons_self z.2)]
    exact sp_elvF_no (fun y hy => h y (List.mem_cons_of_mem _ hy))
def ct_rL (j : Fin 22) (c n a b q i : Nat) : Prop := (q = tv_tp j ∧ i = 5) ∨ (tv_tp j + 7 ≤ q ∧ q ≤ tv_tp j + 12 ∧ c ≤ i ∧ i < c + n) ∨ (q = tv_tp j + 4 ∧ a ≤ i ∧ i < b)
def ct_rM (j : Fin 22) (c n q i : Nat) : Prop := q = tv_tp j + 13 ∧ c ≤ i ∧ i < c + n
/-- the nodes N have been laid from row c on, for the entries from a to b -/
def ct_LR (f w : Nat) (j : Fin 22) (E : List (Nat × Nat)) (c : Nat) (N : List sp_nd) (a b : Nat) (h h' : tv_AH) : Prop := h'.1 (tv_tp j) 5 = nI (c + N.length) ∧ (∀ i, i < N.length → ct_row f w j E h' (c + i) (sp_n N i)) ∧ (∀ t, a ≤ t → t < b → h'.1 (tv_tp j + 4) t = sp_elvF (-1) N t) ∧ tv_agJ (ct_rL j c N.length a b) (ct_rM j c N.length) h h'
theorem ct_LR.app {f w c a m b : Nat} {j : Fin 22} {E : List (Nat × Nat)} {N M : List sp_nd} {h h1 h2 : tv_AH} (x : ct_LR f w j E c N a m h h1) (y : ct_LR f w j E (c + N.length) M m b h1 h2) (hN : ∀ x ∈ N, x.2.2.1 + x.2.2.2 ≤ m) (hM : ∀ x ∈ M, m ≤ x.2.2.1) (h3 : a ≤ m) (h4 : m ≤ b) : ct_LR f w j E c (N ++ M) a b h h2 := by
  obtain ⟨x1, x2, x3, x4⟩ := x
  obtain ⟨y1, y2, y3, y4⟩ := y
  refine ⟨by rw [y1, List.length_append, Nat.add_assoc], fun i hi => ?_, fun t t1 t2 => ?_, ?_⟩
  · rw [List.length_append] at hi
    rcases Nat.lt_or_ge i N.length with z | z
    · rw [sp_n_l z]
      refine (x2 i z).cg (fun q q1 q2 => y4.2.1 _ _ ?_) (y4.2.2 _ _ ?_)
      · unfold ct_rL; omega
      · unfold ct_rM; omega
    · obtain ⟨i', rfl⟩ : ∃ i', i = N.length + i' := ⟨i - N.length, by omega⟩
      rw [sp_n_r, ← Nat.add_assoc]
      exact y2 i' (by omega)
  · rw [sp_elvF_app]
    rcases Nat.lt_or_ge t m with z | z
    · rw [y4.2.1 _ _ (by unfold ct_rL; omega), x3 t t1 z, sp_elvF_no (N := M) (fun x hx => by have := hM x hx; omega)]
    · rw [y3 t z t2, sp_elvF_no (N := N) (fun x hx => by have := hN x hx; omega)]
  · rw [List.length_append]
    exact (x4.mo (fun q i z => by unfold ct_rL at *; omega) (fun q i z => by unfold ct_rM at *; omega)).tr (y4.mo (fun q i z => by unfold ct_rL at *; omega) (fun q i z => by unfold ct_rM at *; omega))
theorem ct_LR.e {f w c a b : Nat} {j : Fin 22} {E : List (Nat × Nat)} {N : List sp_nd} {h h' : tv_AH} (x : ct_LR f w j E c N a b h h') (e : ct_E f w j E h) : ct_E f w j E h' := e.cg (fun q i r => x.2.2.2.2.1 q i (by unfold ct_rE at r; unfold ct_rL; omega))
/-- the mask of the first n entries from a on -/
def sp_mk (g : Nat → Nat) (l a n : Nat) : Int32 := (List.range n).foldl (fun m t => m ||| ((1 : Int32) <<< (nI (sp_part (g (a + t)) l) &&& 31))) 0
theorem sp_mk_s {g : Nat → Nat} {l a n : Nat} : sp_mk g l a (n + 1) = sp_mk g l a n ||| ((1 : Int32) <<< (nI (sp_part (g (a + n)) l) &&& 31)) := by
  unfold sp_mk
  rw [List.range_succ, List.foldl_append]
  rfl
theorem sp_mk_run {g : Nat → Nat} {l a m : Nat} : ∀ n, (∀ t, m ≤ t → t < m + (n + 1) → sp_part (g (a + t)) l = sp_part (g (a + m)) l) → sp_mk g l a (m + (n + 1)) = sp_mk g l a m ||| ((1 : Int32) <<< (nI (sp_part (g (a + m)) l) &&& 31))
  | 0, _ => sp_mk_s
  | n + 1, h => by
    rw [← Nat.add_assoc, sp_mk_s, sp_mk_run n (fun t h1 h2 => h t h1 (by omega)), h (m + (n + 1)) (by omega) (by omega), Int32.or_assoc, Int32.or_self]
def ct_LT (ad : Nat → Nat) (d f w : Nat) (j : Fin 22) (E : List (Nat × Nat)) (k : Nat) : Prop := ∀ (a b c : Nat) (h : tv_AH) (K : tv_AH → Prop), ct_E f w j E h → a < b → b ≤ E.length → sp_agr (sp_g f w E) a b (7 - k) → h.1 (tv_tp j) 5 = nI c → c + (sp_lay (sp_g f w E) k a b).length ≤ 96 → (∀ h', ct_LR f w j E c (sp_lay (sp_g f w E) k a b) a b h h' → K h') → tv_CV ad (d + (2 * k + 3)) yX1_layTree [.ref (ad (tv_tp j)), .int (nI (7 - k)), .int (nI a), .int (nI b)] h K
section CTE
variable {ad : Nat → Nat} {d f w : Nat} {h : tv_AH} {j : Fin 22} {E : List (Nat × Nat)} {a b c k : Nat}
theorem ct_layBelow (s : sp_sc f w) (IH : ct_LT ad d f w j E k) (hb : sp_eb E) (hk1 : 1 ≤ k) (hk : k ≤ 6) (e : ct_E f w j E h) (hab : a < b) (hbn : b ≤ E.length) (agr : sp_agr (sp_g f w E) a b (6 - k)) (hc : h.1 (tv_tp j) 5 = nI c) (hr : c + ((sp_runs (fun i => sp_part (sp_g f w E i) (6 - k)) a b).flatMap (fun r => sp_lay (sp_g f w E) k r.1 r.2)).length ≤ 96) {K : Int32 → tv_AH → Prop} (hK : ∀ h', ct_LR f w j E c ((sp_runs (fun i => sp_part (sp_g f w E i) (6 - k)) a b).flatMap (fun r => sp_lay (sp_g f w E) k r.1 r.2)) a b h h' → K (sp_mk (sp_g f w E) (6 - k) a (b - a)) h') : tv_CI ad (d + (2 * k + 3) + 1) yX1_layBelow [.ref (ad (tv_tp j)), .int (nI (6 - k)), .int (nI a), .int (nI b)] h K := by
  have h24 := hb.1
  refine nX1_layBelow _ _ _ _ h ?_
  generalize hpp : (fun i => sp_part (sp_g f w E i) (6 - k)) = pp at *
  have hpe : ∀ i, sp_part (sp_g f w E i) (6 - k) = pp i := fun i => by rw [← hpp]
  have hin : ∀ i, i < b → vp_in (nI i) 24 := fun i hi => pk_in i 24 (by omega)
  have H : ∀ n st nx (h2 : tv_AH) (dn : List (Nat × Nat)), nx + n = b + 1 → a ≤ st → (nx ≤ b → st < nx) → (nx = b + 1 → st = b) → (∀ i, st ≤ i → i < nx → i < b → pp i = pp st) → (∀ rs, sp_isR pp b st rs → sp_isR pp b a (dn ++ rs)) → (∀ x ∈ dn.flatMap (fun r => sp_lay (sp_g f w E) k r.1 r.2), x.2.2.1 + x.2.2.2 ≤ st) → ct_LR f w j E c (dn.flatMap (fun r => sp_lay (sp_g f w E) k r.1 r.2)) a st h h2 → tv_Wp ad RX1 cX1_layBelow 8 (some .int) (d + (2 * k + 3)) (tv_pI K) 11 [(0, .ref (ad (tv_tp j))), (1, .int (nI (6 - k))), (3, .int (nI b)), (4, .int (sp_mk (sp_g f w E) (6 - k) a (st - a))), (5, .int (nI st)), (6, .int (nI nx))] [] h2 := by
    intro n
    induction n with
    | zero =>
      intro st nx h2 dn hn hst h3 h4 hcon hdn hlo lr
      refine bX1_layBelow_11 _ _ _ _ _ _ h2 (pk_lt b nx (fun _ => ?_) (fun z => absurd z (by omega)))
      have hs := h4 (by omega)
      subst hs
      have := hdn [] rfl
      rw [List.append_nil] at this
      rw [sp_runs_eq hst this] at hK
      exact hK h2 lr
    | succ n ih =>
      intro st nx h2 dn hn hst h3 h4 hcon hdn hlo lr
      have hsn := h3 (by omega)
      have e2 := lr.e e
      refine bX1_layBelow_11 _ _ _ _ _ _ h2 (pk_lt b nx (fun z => absurd z (by omega)) (fun z => ⟨hin st (by omega), ?_⟩))
      rw [tv_nc st, tv_nc nx, (e2.2 st (by omega)).2.2, nI_1, nI_1]
      refine ct_partOf (d := d + (2 * k + 1)) (g := sp_hash f w (sp_k E st)) (by omega) ?_
      -- a run ends
      have fin : (nx < b → pp nx ≠ pp st) → tv_CV ad (d + (2 * k + 3)) yX1_layTree [.ref (ad (tv_tp j)), .int (nI (6 - k + 1)), .int (nI st), .int (nI nx)] h2 (fun h3 => tv_Wp ad RX1 cX1_layBelow 8 (some .int) (d + (2 * k + 3)) (tv_pI K) 11 [(0, .ref (ad (tv_tp j))), (1, .int (nI (6 - k))), (3, .int (nI b)), (4, .int (sp_mk (sp_g f w E) (6 - k) a (st - a) ||| ((1 : Int32) <<< (nI (sp_part (sp_hash f w (sp_k E st)) (6 - k)) &&& 31)))), (5, .int (nI nx)), (6, .int (nI (nx + 1)))] [] h3) := by
        intro hne
        have hdn2 : ∀ rs, sp_isR pp b nx rs → sp_isR pp b a (dn ++ (st, nx) :: rs) := fun rs hrs => hdn _ ⟨rfl, hsn, by omega, fun i i1 i2 => hcon i i1 i2 (by omega), hne, hrs⟩
        have hall := sp_runs_eq (Nat.le_of_lt hab) (hdn2 _ (sp_runs_is pp (show nx ≤ b by omega)))
        have hroom : c + (dn.flatMap (fun r => sp_lay (sp_g f w E) k r.1 r.2)).length + (sp_lay (sp_g f w E) k st nx).length ≤ 96 := by
          rw [hall, List.flatMap_append, List.flatMap_cons, List.length_append, List.length_append] at hr
          simp only at hr
          omega
        rw [show 6 - k + 1 = 7 - k by omega]
        refine IH st nx _ h2 _ e2 hsn (by omega) ?_ lr.1 hroom (fun h5 lr5 => ?_)
        · have := sp_agr_sub (r := (st, nx)) agr hst hsn (by omega) (fun i i1 i2 => by rw [hpe, hpe]; exact hcon i i1 i2 (by simp only at i2; omega))
          rw [show 6 - k + 1 = 7 - k by omega] at this
          exact this
        · have hmk : sp_mk (sp_g f w E) (6 - k) a (st - a) ||| ((1 : Int32) <<< (nI (sp_part (sp_hash f w (sp_k E st)) (6 - k)) &&& 31)) = sp_mk (sp_g f w E) (6 - k) a (nx - a) := by
            have := sp_mk_run (g := sp_g f w E) (l := 6 - k) (a := a) (m := st - a) (nx - st - 1) (fun t t1 t2 => by
              rw [hpe, hpe, show a + (st - a) = st by omega]
              exact hcon (a + t) (by omega) (by omega) (by omega))
            rw [show st - a + (nx - st - 1 + 1) = nx - a by omega, show a + (st - a) = st by omega] at this
            exact this.symm
          rw [hmk]
          have hM : ∀ x ∈ sp_lay (sp_g f w E) k st nx, st ≤ x.2.2.1 ∧ x.2.2.1 + x.2.2.2 ≤ nx := fun x hx => by
            have := sp_lay_mem (sp_g f w E) k st nx (by omega) x hx
            exact ⟨this.1, this.2.2.1⟩
          have hfm : (dn ++ [(st, nx)]).flatMap (fun r => sp_lay (sp_g f w E) k r.1 r.2) = dn.flatMap (fun r => sp_lay (sp_g f w E) k r.1 r.2) ++ sp_lay (sp_g f w E) k st nx := by
            rw [List.flatMap_append, List.flatMap_cons, List.flatMap_nil, List.append_nil]
          refine ih nx (nx + 1) h5 (dn ++ [(st, nx)]) (by omega) (by omega) (fun _ => by omega) (fun _ => by omega) (fun i i1 i2 _ => by rw [show i = nx by omega]) (fun rs hrs => by rw [List.append_assoc]; exact hdn2 rs hrs) ?_ ?_
          · rw [hfm]
            intro x hx
            rcases List.mem_append.mp hx with q | q
            · have := hlo x q; omega
            · exact (hM x q).2
          · rw [hfm]
            exact lr.app lr5 hlo (fun x hx => (hM x hx).1) hst (by omega)
      refine pk_eq nx b (fun y => fin (fun u => absurd u (by omega))) (fun y => ⟨hin nx (by omega), ?_⟩)
      rw [(e2.2 nx (by omega)).2.2]
      refine ct_partOf (d := d + (2 * k + 1)) (g := sp_hash f w (sp_k E nx)) (by omega) ?_
      have g1 := sp_part_lt (sp_hash f w (sp_k E nx)) (6 - k)
      have g2 := sp_part_lt (sp_hash f w (sp_k E st)) (6 - k)
      refine pk_eq (sp_part (sp_hash f w (sp_k E nx)) (6 - k)) (sp_part (sp_hash f w (sp_k E st)) (6 - k)) (fun u => ?_) (fun u => fin (fun _ t => u ?_))
      · refine ih st (nx + 1) h2 dn (by omega) hst (fun _ => by omega) (fun q => absurd q (by omega)) (fun i i1 i2 i3 => ?_) hdn hlo lr
        by_cases q : i = nx
        · rw [q, ← hpe, ← hpe]; exact u
        · exact hcon i i1 (by omega) i3
      · rw [← hpe, ← hpe] at t; exact t
  rw [nI_1]
  have := H (b - a) a (a + 1) h [] (by omega) (Nat.le_refl _) (fun _ => by omega) (fun q => by omega) (fun i i1 i2 _ => by rw [show i = a by omega]) (fun rs hrs => hrs) (fun x hx => by simp at hx) ⟨by simpa using hc, fun i hi => by simp at hi, fun t t1 t2 => absurd t2 (by omega), tv_agJ.rf⟩
  rw [Nat.sub_self] at this
  exact this
end CTE
