/-! WHAT HOLDS OF THE SPECIFICATION'S STATES; the reference holds a state -/
def sp_srt (f w : Nat) (E : List (Nat × Nat)) : Prop := ∀ i j, i < j → j < E.length → sp_ord f w (sp_k E i) < sp_ord f w (sp_k E j)
def sp_vok (f w md : Nat) (V : sp_V) : Prop := sp_eb V.1 ∧ sp_srt f w V.1 ∧ V.2.length = (sp_N f w V.1).length ∧ ∀ i, i < V.2.length → sp_id V.2 i < md
/-- a node's place: a leaf by its key, a clash by its hash, a branch by its level and the parts above -/
def sp_pl (f w : Nat) (E : List (Nat × Nat)) (x : sp_nd) : Nat :=
  let r := sp_rank (sp_hash f w (sp_k E x.2.2.1))
  if x.1 = 0 then r * 32768 + 7 * 4096 + sp_k E x.2.2.1 else if x.1 = 1 then r * 32768 + 6 * 4096 else (r / 2 ^ (30 - 5 * x.2.1) * 2 ^ (30 - 5 * x.2.1)) * 32768 + x.2.1 * 4096
/-- a number names one place -/
def sp_plc (f w : Nat) (P : Nat → Nat) (V : sp_V) : Prop := ∀ i, i < V.2.length → sp_pl f w V.1 (sp_n (sp_N f w V.1) i) = P (sp_id V.2 i)
def ss_eok (S : sp_S) (P : Nat → Nat) : Prop := match ss_ed S with
  | none => True
  | some (V, own, mi) => sp_vok (ss_f S) (ss_w S) (ss_md S) V ∧ own ≤ ss_md S ∧ mi ≤ ss_md S ∧ sp_plc (ss_f S) (ss_w S) P V
def ss_ok (S : sp_S) (c : Nat) : Prop :=
  sp_sc (ss_f S) (ss_w S) ∧ (1 ≤ (ss_vs S).length ∧ (ss_vs S).length ≤ 20 ∧ ss_v S 0 = ([], [])) ∧ (∀ v, v < (ss_vs S).length → sp_vok (ss_f S) (ss_w S) (ss_md S) (ss_v S v)) ∧ ((ss_pg S).length ≤ 60 ∧ ∀ i, i < (ss_pg S).length → 32 ≤ (ss_pg S).getD i 0 ∧ (ss_pg S).getD i 0 ≤ 126) ∧ (ss_md S ≤ 1440 * c ∧ ss_rd S ≤ c ∧ ss_sl S ≤ c ∧ c ≤ 512) ∧ ∃ P : Nat → Nat, (∀ v, v < (ss_vs S).length → sp_plc (ss_f S) (ss_w S) P (ss_v S v)) ∧ ss_eok S P
/-- the reference's edit -/
def md_ed (S : sp_S) (h : tv_AH) : Prop := match ss_ed S with
  | none => h.1 400 5 = 0 ∧ ∃ E0, md_E 20 E0 h ∧ sp_eb E0
  | some (V, own, mi) => h.1 400 5 = 1 ∧ h.1 400 6 = nI mi ∧ md_M 20 (ss_f S) (ss_w S) V.1 V.2 own h
def md_rep (S : sp_S) (h : tv_AH) : Prop :=
  md_sc (ss_f S) (ss_w S) h ∧ h.1 400 4 = nI (ss_vs S).length ∧ (∀ v, v < (ss_vs S).length → md_M v (ss_f S) (ss_w S) (ss_v S v).1 (ss_v S v).2 (2 ^ 30) h) ∧ (h.1 400 0 = nI (ss_pg S).length ∧ ∀ i, i < (ss_pg S).length → h.1 401 i = nI ((ss_pg S).getD i 0)) ∧ (h.1 400 7 = nI (ss_md S) ∧ h.1 400 8 = nI (ss_rd S) ∧ h.1 400 9 = nI (ss_sl S)) ∧ md_ed S h
/-- only the reference's cells have changed -/
def md_hi : Nat → Nat → Prop := fun q _ => 400 ≤ q
section MDT
variable {ad : Nat → Nat} {d c : Nat} {h : tv_AH} {S : sp_S}
theorem md_rg {x B : Int32} {b : Nat} {K : Int32 → tv_AH → Prop} (hB : B = nI b) (hb : b < 2 ^ 31) (h1 : ∀ n, n ≤ b → x = nI n → sp_rg x b = some n → K 1 h) (h0 : sp_rg x b = none → K 0 h) : tv_CI ad (d + 1) yX3_within [.int x, .int 0, .int B] h K := by
  subst hB
  refine md_within ?_
  cases e : sp_rg x b with
  | some n =>
    obtain ⟨e1, e2⟩ := sp_rg_some hb e
    rw [if_pos]
    · exact h1 n e1 e2 e
    · unfold sp_rg at e
      split at e
      · assumption
      · cases e
  | none =>
    rw [if_neg (sp_rg_none e)]
    exact h0 e
theorem md_isVersion {x : Int32} (r : h.1 400 4 = nI (ss_vs S).length) (hn : 1 ≤ (ss_vs S).length ∧ (ss_vs S).length ≤ 20) {K : Int32 → tv_AH → Prop} (h1 : ∀ n, n < (ss_vs S).length → x = nI n → ss_ver S x = some n → K 1 h) (h0 : ss_ver S x = none → K 0 h) : tv_CI ad (d + 2) yX3_isVersion [.ref (ad 400), .int x] h K := by
  refine nX3_isVersion _ h ?_
  rw [r]
  refine md_rg (b := (ss_vs S).length - 1) (by rw [show (1 : Int32) = nI 1 from rfl, pk_sub hn.1]) (by omega) (fun n a1 a2 a3 => ⟨Or.inr rfl, h1 n (by omega) a2 a3⟩) (fun a => ⟨Or.inl rfl, h0 a⟩)
/-- a branch on a boolean that is 1 -/
theorem tv_b1 {A B : Prop} (f : A) : (¬ (1 : Int32) = 0 → A) ∧ ((1 : Int32) = 0 → B) := ⟨fun _ => f, fun z => absurd z (by decide)⟩
theorem tv_b0 {A B : Prop} (g : B) : (¬ (0 : Int32) = 0 → A) ∧ ((0 : Int32) = 0 → B) := ⟨fun z => absurd rfl z, fun _ => g⟩
theorem tv_c1 {A B : Prop} (g : B) : ((1 : Int32) = 0 → A) ∧ (¬ (1 : Int32) = 0 → B) := ⟨fun z => absurd z (by decide), fun _ => g⟩
theorem tv_c0 {A B : Prop} (f : A) : ((0 : Int32) = 0 → A) ∧ (¬ (0 : Int32) = 0 → B) := ⟨fun _ => f, fun z => absurd rfl z⟩
/-- what a change of other cells leaves -/
theorem md_M.w4 {m f w own q i : Nat} {E : List (Nat × Nat)} {ids : List Nat} {v : Int32} (k : md_M m f w E ids own h) (n : q < 410 ∨ 419 < q) : md_M m f w E ids own (tv_wI h q i v) := k.cg (fun a b r => tv_wIc (by unfold md_rE md_rN at r; omega))
theorem md_E.w4 {m q i : Nat} {E : List (Nat × Nat)} {v : Int32} (k : md_E m E h) (hb : sp_eb E) (n : q < 410 ∨ 412 < q) : md_E m E (tv_wI h q i v) := k.cg hb.1 (fun a b r => tv_wIc (by unfold md_rE at r; omega))
theorem md_ed.ag {P : Nat → Nat → Prop} {h' : tv_AH} (k : md_ed S h) (a : tv_ag P h h') (n : ∀ q i, md_rM 20 q i → ¬ P q i) (n5 : ¬ P 400 5) (n6 : ¬ P 400 6) : md_ed S h' := by
  unfold md_ed at k ⊢
  cases he : ss_ed S with
  | none =>
    rw [he] at k
    obtain ⟨k1, E0, k2, k3⟩ := k
    exact ⟨by rw [a.2 _ _ n5]; exact k1, E0, k2.cg k3.1 (fun q i r => a.2 q i (n q i (Or.inl r))), k3⟩
  | some t =>
    obtain ⟨V, own, mi⟩ := t
    rw [he] at k
    obtain ⟨k1, k2, k3⟩ := k
    exact ⟨by rw [a.2 _ _ n5]; exact k1, by rw [a.2 _ _ n6]; exact k2, k3.ag a n⟩
theorem ss_v_add {vs : List sp_V} {V : sp_V} {v : Nat} : (vs ++ [V]).getD v ([], []) = if v < vs.length then vs.getD v ([], []) else if v = vs.length then V else ([], []) := by
  simp only [List.getD_eq_getElem?_getD, List.getElem?_append]
  by_cases c : v < vs.length
  · simp [c]
  · by_cases z : v = vs.length
    · subst z; simp
    · have : v - vs.length = (v - vs.length - 1) + 1 := by omega
      simp only [c, z, if_false]
      rw [this]
      simp
/-- a new version is added -/
theorem md_add {E' : List (Nat × Nat)} {n : Nat} {two : Option Nat} {h0 : tv_AH} (ok : ss_ok S c) (r : md_rep S h0) (hv : (ss_vs S).length < 20) (hn : n < (ss_vs S).length) (ht : ∀ m, two = some m → m < (ss_vs S).length) (hb : sp_eb E') (e : md_E 21 E' h) (a0 : tv_ag (md_rE 21) h0 h) {K : Int32 → tv_AH → Prop} (hK : ∀ h', md_rep (ss_add S E' (ss_v S n) (two.map (ss_v S))).2 h' → tv_ag md_hi h0 h' → K (ss_add S E' (ss_v S n) (two.map (ss_v S))).1 h') : tv_CV ad (d + 5) yX3_tellNew [.ref (ad 400), .int (nI n), .int (md_twoI (two.map (fun m => (m, ss_v S m))))] h (fun h1 => tv_CI ad (d + 5) yX3_keepNew [.ref (ad 400), .int 21] h1 (fun r3 h2 => K r3 h2)) := by
  obtain ⟨o1, o2, o3, o4, o5, o6⟩ := ok
  obtain ⟨r1, r2, r3, r4, r5, r6⟩ := r
  have s : md_sc (ss_f S) (ss_w S) h := r1.ag a0 md_rE_400 md_rE_400
  have kv : ∀ v, v < (ss_vs S).length → md_M v (ss_f S) (ss_w S) (ss_v S v).1 (ss_v S v).2 (2 ^ 30) h := fun v hv2 => (r3 v hv2).ag a0 (fun q i z => by unfold md_rM md_rE md_rN at z; unfold md_rE; omega)
  have k2 : md_two (two.map (fun m => (m, ss_v S m))) (ss_f S) (ss_w S) h := by
    cases two with
    | none => trivial
    | some m => exact ⟨by have := ht m rfl; simp only; omega, kv m (ht m rfl)⟩
  refine md_tellNew s e hb (by omega) (kv n hn) k2 (by rw [a0.2 _ _ md_rE_400]; exact r5.1) (by omega) (fun h1 m1 md1 a1 => ?_)
  have et : (two.map (fun m => (m, ss_v S m))).map (fun t => t.2) = two.map (ss_v S) := by rw [Option.map_map]; rfl
  rw [et] at m1 md1
  refine md_keepNew (m' := 21) hv (by omega) (by omega) ?_ m1 (fun h2 m2 v2 a2 => ?_)
  · rw [a1.2 _ _ (by unfold md_rT md_rN md_rP; omega), a0.2 _ _ md_rE_400]; exact r2
  · have a01 : tv_ag (fun q i => md_rM 21 q i ∨ md_rP q i ∨ (q = 400 ∧ i = 7)) h0 h1 := (a0.mo (fun q i z => Or.inl (Or.inl z))).tr (a1.mo (fun q i z => by
      rcases z with z | z | z
      · exact Or.inl (Or.inr z)
      · exact Or.inr (Or.inl z)
      · exact Or.inr (Or.inr z)))
    have a02 : tv_ag (fun q i => md_rM 21 q i ∨ md_rM (ss_vs S).length q i ∨ md_rP q i ∨ (q = 400 ∧ (i = 7 ∨ i = 4))) h0 h2 := (a01.mo (fun q i z => by
      rcases z with z | z | z
      · exact Or.inl z
      · exact Or.inr (Or.inr (Or.inl z))
      · exact Or.inr (Or.inr (Or.inr ⟨z.1, Or.inl z.2⟩)))).tr (a2.mo (fun q i z => by
      rcases z with z | z
      · exact Or.inr (Or.inl z)
      · exact Or.inr (Or.inr (Or.inr ⟨z.1, Or.inr z.2⟩))))
    refine hK h2 ⟨?_, ?_, ?_, ?_, ?_, ?_⟩ (a02.mo (fun q i z => by unfold md_rM md_rE md_rN md_rP at z; unfold md_hi; omega))
    · exact r1.ag a02 (by unfold md_rM md_rE md_rN md_rP; omega) (by unfold md_rM md_rE md_rN md_rP; omega)
    · show h2.1 400 4 = nI (ss_vs S ++ [_]).length
      rw [List.length_append, List.length_singleton]
      exact v2
    · intro v hv2
      change v < (ss_vs S ++ [_]).length at hv2
      rw [List.length_append, List.length_singleton] at hv2
      show md_M v (ss_f S) (ss_w S) ((ss_vs S ++ [_]).getD v ([], [])).1 ((ss_vs S ++ [_]).getD v ([], [])).2 (2 ^ 30) h2
      rw [ss_v_add]
      by_cases z : v < (ss_vs S).length
      · rw [if_pos z]
        exact (r3 v z).ag a02 (fun q i y => by unfold md_rM md_rE md_rN at y; unfold md_rM md_rE md_rN md_rP; omega)
      · have : v = (ss_vs S).length := by omega
        subst this
        rw [if_neg z, if_pos rfl]
        exact m2
    · refine ⟨by rw [a02.2 _ _ (by unfold md_rM md_rE md_rN md_rP; omega)]; exact r4.1, fun i hi => ?_⟩
      rw [a02.2 _ _ (by unfold md_rM md_rE md_rN md_rP; omega)]
      exact r4.2 i hi
    · refine ⟨?_, ?_, ?_⟩
      · rw [a2.2 _ _ (by unfold md_rM md_rE md_rN; omega)]; exact md1
      · rw [a02.2 _ _ (by unfold md_rM md_rE md_rN md_rP; omega)]; exact r5.2.1
      · rw [a02.2 _ _ (by unfold md_rM md_rE md_rN md_rP; omega)]; exact r5.2.2
    · have := r6.ag a02 (fun q i y => by unfold md_rM md_rE md_rN at y; unfold md_rM md_rE md_rN md_rP; omega) (by unfold md_rM md_rE md_rN md_rP; omega) (by unfold md_rM md_rE md_rN md_rP; omega)
      exact this
end MDT
