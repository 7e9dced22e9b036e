/-! THE COMPONENT: two trees' entries, the tests of arguments -/
theorem sp_rg_no {x : Int32} {b : Nat} (h : ¬ (0 ≤ x ∧ x ≤ nI b)) : sp_rg x b = none := by unfold sp_rg; rw [if_neg h]
theorem sp_rg_ex {x : Int32} {b : Nat} (hb : b < 2 ^ 31) (h0 : ¬ x < 0) (h1 : x ≤ nI b) : ∃ n, n ≤ b ∧ x = nI n ∧ sp_rg x b = some n := by
  obtain ⟨j, hj, rfl⟩ := nI_of h0
  have := (nI_leI hj hb).mp h1
  exact ⟨j, this, rfl, sp_rg_in this hb⟩
/-- a test of a range from 0 -/
theorem ct_rg {x B : Int32} {b : Nat} {A A' C : Prop} (hB : B = nI b) (hb : b < 2 ^ 31) (h0 : sp_rg x b = none → A) (h0' : sp_rg x b = none → A') (h1 : ∀ n, n ≤ b → x = nI n → sp_rg x b = some n → C) : (x < 0 → A) ∧ (¬ x < 0 → (B < x → A') ∧ (¬ B < x → C)) := by
  subst hB
  refine ⟨fun z => h0 (sp_rg_no (fun y => absurd z (Int32.not_lt.mpr y.1))), fun z => ⟨fun y => h0' (sp_rg_no (fun u => absurd y (Int32.not_lt.mpr u.2))), fun y => ?_⟩⟩
  obtain ⟨n, e1, e2, e3⟩ := sp_rg_ex hb z (Int32.not_lt.mp y)
  exact h1 n e1 e2 e3
theorem ct_rgv {x B : Int32} {L : Nat} {A A' C : Prop} (hB : B = nI L) (hb : L < 2 ^ 30) (h1L : 1 ≤ L) (h0 : sp_rg x (L - 1) = none → A) (h0' : sp_rg x (L - 1) = none → A') (h1 : ∀ n, n < L → x = nI n → sp_rg x (L - 1) = some n → C) : (x < 0 → A) ∧ (¬ x < 0 → (B ≤ x → A') ∧ (¬ B ≤ x → C)) := by
  subst hB
  have key : x ≤ nI (L - 1) ↔ x < nI L := by rw [← tv_lt1 hb, show (1 : Int32) = nI 1 from rfl, pk_sub h1L]
  refine ⟨fun z => h0 (sp_rg_no (fun y => absurd z (Int32.not_lt.mpr y.1))), fun z => ⟨fun y => h0' (sp_rg_no (fun u => absurd (key.mp u.2) (Int32.not_lt.mpr y))), fun y => ?_⟩⟩
  obtain ⟨n, e1, e2, e3⟩ := sp_rg_ex (b := L - 1) (by omega) z (key.mpr (Int32.not_le.mp y))
  exact h1 n (by omega) e2 e3
section CTC
variable {ad : Nat → Nat} {d f w : Nat} {h : tv_AH} {j : Fin 22} {E : List (Nat × Nat)} {k v : Nat}
theorem ct_isKey {x : Int32} {K : Int32 → tv_AH → Prop} (h1 : ∀ n, n ≤ 4095 → x = nI n → sp_rg x 4095 = some n → K 1 h) (h0 : sp_rg x 4095 = none → K 0 h) : tv_CI ad (d + 1) yX2_isKey [.int x] h K := by
  refine nX2_isKey _ h ?_
  have := ct_rg (x := x) (B := 4095) (b := 4095) rfl (by omega) h0 h0 h1
  simpa using this
theorem ct_isValue {x : Int32} {K : Int32 → tv_AH → Prop} (h1 : ∀ n, n ≤ 999 → x = nI n → sp_rg x 999 = some n → K 1 h) (h0 : sp_rg x 999 = none → K 0 h) : tv_CI ad (d + 1) yX2_isValue [.int x] h K := by
  refine nX2_isValue _ h ?_
  have := ct_rg (x := x) (B := 999) (b := 999) rfl (by omega) h0 h0 h1
  simpa using this
theorem ct_isVersion {S : sp_S} {x : Int32} (r : h.1 0 1 = nI (ss_vs S).length) (hn : 1 ≤ (ss_vs S).length ∧ (ss_vs S).length ≤ 20) {K : Int32 → tv_AH → Prop} (h1 : ∀ n, n < (ss_vs S).length → x = nI n → ss_ver S x = some n → K 1 h) (h0 : ss_ver S x = none → K 0 h) : tv_CI ad (d + 1) yX2_isVersion [.ref (ad 0), .int x] h K := by
  refine nX2_isVersion _ h ?_
  have := ct_rgv (x := x) (L := (ss_vs S).length) r (by omega) hn.1 h0 h0 h1
  simpa using this
theorem ct_isFull {L : Nat} (r : h.1 0 1 = nI L) (hn : L ≤ 20) {K : Int32 → tv_AH → Prop} (h1 : L = 20 → K 1 h) (h0 : L ≠ 20 → K 0 h) : tv_CI ad (d + 1) yX2_isFullOfVersions [.ref (ad 0)] h K := by
  refine nX2_isFullOfVersions h ?_
  rw [r]
  have := pk_lt L 20 (x := nI L) (y := 20) (fun z => h0 (by omega)) (fun z => h1 (by omega))
  simpa using this
theorem ct_select {i l : Fin 22} {F : List (Nat × Nat)} {how : Nat} (n : i ≠ j) (n' : l ≠ j) (g : ct_E f w i E h) (g' : ct_E f w l F h) (hb : sp_eb E) (hb' : sp_eb F) (hw : how = 1 ∨ how = 2) {x : Int32} (hx : x = if how = 1 then 1 else 0) {K : tv_AH → Prop} (hK : ∀ h', ct_E f w j (sp_bth (sp_ord f w) E F how) h' → tv_ag (ct_rE j) h h' → K h') : tv_CV ad (d + 2) yX1_select [.ref (ad (tv_tp j)), .ref (ad (tv_tp i)), .ref (ad (tv_tp l)), .int x] h K := by
  have hl := hb.1
  have hl' := hb'.1
  refine nX1_select _ _ _ _ h (fun h4 w4 => ?_)
  have hbt : sp_bth (sp_ord f w) E F how = E.filter (fun e => if how = 1 then (sp_fi F e.1).isSome else (sp_fi F e.1).isNone) := by
    unfold sp_bth
    rw [if_neg (by omega)]
    by_cases h1 : how = 1
    · simp [h1]
    · simp [h1]
  rw [hbt] at hK
  generalize hp : (fun e : Nat × Nat => if how = 1 then (sp_fi F e.1).isSome else (sp_fi F e.1).isNone) = p at *
  have H : ∀ t c (h5 : tv_AH), c + t = E.length → ct_E f w j ((E.take c).filter p) h5 → tv_ag (ct_rE j) h h5 → tv_Wp ad RX1 cX1_select 5 none (d + 1) (tv_pV K) 8 [(0, .ref (ad (tv_tp j))), (1, .ref (ad (tv_tp i))), (2, .ref (ad (tv_tp l))), (3, .int x), (4, .int (nI c))] [] h5 := by
    intro t
    induction t with
    | zero =>
      intro c h5 hc e5 a5
      have g5 := g.ag a5 (fun q s z => ct_rE_ne n z)
      refine bX1_select_8 _ _ _ _ _ h5 ?_
      rw [g5.1]
      refine pk_le E.length c (fun _ => ?_) (fun q => absurd q (by omega))
      rw [show c = E.length by omega, List.take_length] at e5
      exact hK h5 e5 a5
    | succ t ih =>
      intro c h5 hc e5 a5
      have g5 := g.ag a5 (fun q s z => ct_rE_ne n z)
      have g5' := g'.ag a5 (fun q s z => ct_rE_ne n' z)
      refine bX1_select_8 _ _ _ _ _ h5 ?_
      rw [g5.1, tv_nc c]
      refine pk_le E.length c (fun q => absurd q (by omega)) (fun q => ⟨pk_in c 24 (by omega), ?_⟩)
      have bv := hb.2 c q
      rw [(g5.2 c q).1, nI_1]
      have hf := sp_take_f (p := p) q
      have skip : p (sp_k E c, sp_v E c) = false → tv_Wp ad RX1 cX1_select 5 none (d + 1) (tv_pV K) 8 [(0, .ref (ad (tv_tp j))), (1, .ref (ad (tv_tp i))), (2, .ref (ad (tv_tp l))), (3, .int x), (4, .int (nI (c + 1)))] [] h5 := by
        intro hpf
        rw [hpf] at hf
        simp only [Bool.false_eq_true, if_false, List.append_nil] at hf
        exact ih (c + 1) h5 (by omega) (by rw [hf]; exact e5) a5
      have put : p (sp_k E c, sp_v E c) = true → tv_CV ad (d + 1) yX1_append [.ref (ad (tv_tp j)), .ref (ad (tv_tp i)), .int (nI c)] h5 (fun h6 => tv_Wp ad RX1 cX1_select 5 none (d + 1) (tv_pV K) 8 [(0, .ref (ad (tv_tp j))), (1, .ref (ad (tv_tp i))), (2, .ref (ad (tv_tp l))), (3, .int x), (4, .int (nI (c + 1)))] [] h6) := by
        intro hpt
        rw [hpt] at hf
        simp only [if_true] at hf
        have hlen : ((E.take c).filter p).length ≤ c := sp_cnt_le
        refine ct_append n e5 g5 hl (by omega) q (fun h6 e6 a6 => ?_)
        exact ih (c + 1) h6 (by omega) (by rw [hf]; exact e6) (a5.tr a6)
      have hpv : p (sp_k E c, sp_v E c) = (if how = 1 then (sp_fi F (sp_k E c)).isSome else (sp_fi F (sp_k E c)).isNone) := by rw [← hp]
      refine ct_indexOfKey (d := d) g5' hb' bv.1 (ct_ixlt hl' (fun hfe => ?_) (fun s hfe => ?_))
      · rw [hfe] at hpv
        by_cases z : how = 1
        · rw [if_pos z] at hpv hx
          subst hx
          exact ⟨fun _ => skip hpv, fun y => absurd y (by decide)⟩
        · rw [if_neg z] at hpv hx
          subst hx
          exact ⟨fun y => absurd rfl y, fun _ => put hpv⟩
      · rw [hfe] at hpv
        by_cases z : how = 1
        · rw [if_pos z] at hpv hx
          subst hx
          exact ⟨fun y => absurd rfl y, fun _ => put hpv⟩
        · rw [if_neg z] at hpv hx
          subst hx
          exact ⟨fun _ => skip hpv, fun y => absurd y (by decide)⟩
  refine H E.length 0 h4 (by omega) ?_ (by rw [w4]; exact tv_ag.rf.wI (Or.inl ⟨rfl, rfl⟩))
  rw [w4]
  exact ⟨tv_wIe, fun i hi => absurd hi (by simp)⟩
theorem sp_give_len {o : Nat → Nat} {A : List (Nat × Nat)} {a b : Nat} : (sp_give o A a b).length ≤ A.length + 1 := by
  unfold sp_give
  split
  · simp only [List.length_set]; omega
  · rw [sp_ins_len (sp_pos_le _ _ _ _)]; omega
theorem ct_unite {i l : Fin 22} {F : List (Nat × Nat)} (n : i ≠ j) (n' : l ≠ j) (g : ct_E f w i E h) (g' : ct_E f w l F h) (hb : sp_eb E) (hb' : sp_eb F) (hr : E.length + F.length - sp_inb F E ≤ 24) {K : tv_AH → Prop} (hK : ∀ h', ct_E f w j (sp_bth (sp_ord f w) E F 0) h' → tv_ag (ct_rE j) h h' → K h') : tv_CV ad (d + 4) yX1_unite [.ref (ad (tv_tp j)), .ref (ad (tv_tp i)), .ref (ad (tv_tp l))] h K := by
  have hl := hb.1
  have hl' := hb'.1
  refine nX1_unite _ _ _ h (ct_copyEntries (d := d + 2) n g hl (fun h4 e4 a4 => ?_))
  have H : ∀ t c (h5 : tv_AH) (A : List (Nat × Nat)), c + t = F.length → A = ((F.take c).filter (fun e => (sp_fi E e.1).isNone)).foldl (fun A e => sp_give (sp_ord f w) A e.1 e.2) E → A.length ≤ E.length + ((F.take c).filter (fun e => (sp_fi E e.1).isNone)).length → sp_eb A → ct_E f w j A h5 → tv_ag (ct_rE j) h h5 → tv_Wp ad RX1 cX1_unite 4 none (d + 3) (tv_pV K) 7 [(0, .ref (ad (tv_tp j))), (1, .ref (ad (tv_tp i))), (2, .ref (ad (tv_tp l))), (3, .int (nI c))] [] h5 := by
    intro t
    induction t with
    | zero =>
      intro c h5 A hc hA hAl hAb e5 a5
      have g5' := g'.ag a5 (fun q s z => ct_rE_ne n' z)
      refine bX1_unite_7 _ _ _ _ h5 ?_
      rw [g5'.1]
      refine pk_le F.length c (fun _ => ?_) (fun q => absurd q (by omega))
      rw [show c = F.length by omega, List.take_length] at hA
      have hbq : sp_bth (sp_ord f w) E F 0 = A := by unfold sp_bth; rw [if_pos rfl, hA]
      rw [hbq] at hK
      exact hK h5 e5 a5
    | succ t ih =>
      intro c h5 A hc hA hAl hAb e5 a5
      have g5 := g.ag a5 (fun q s z => ct_rE_ne n z)
      have g5' := g'.ag a5 (fun q s z => ct_rE_ne n' z)
      refine bX1_unite_7 _ _ _ _ h5 ?_
      rw [g5'.1, tv_nc c]
      refine pk_le F.length c (fun q => absurd q (by omega)) (fun q => ⟨pk_in c 24 (by omega), ?_⟩)
      have bk := hb'.2 c q
      rw [(g5'.2 c q).1, nI_1]
      have hf := sp_take_f (p := fun e => (sp_fi E e.1).isNone) q
      refine ct_indexOfKey (d := d + 2) g5 hb bk.1 (ct_ixge hl (fun hfe => ?_) (fun s hfe => ?_))
      · simp only [hfe, Option.isNone_none, if_true] at hf
        refine ⟨pk_in c 24 (by omega), pk_in c 24 (by omega), pk_in c 24 (by omega), ?_⟩
        rw [(g5'.2 c q).1, (g5'.2 c q).2.1, (g5'.2 c q).2.2]
        have hcnt : ((F.take (c + 1)).filter (fun e => (sp_fi E e.1).isNone)).length + sp_inb F E ≤ F.length := by
          have h1 : ((F.take (c + 1)).filter (fun e => (sp_fi E e.1).isNone)).length ≤ (F.filter (fun e => (sp_fi E e.1).isNone)).length := (List.Sublist.filter _ (List.take_sublist _ _)).length_le
          have h2 : (F.filter (fun e => (sp_fi E e.1).isNone)).length + sp_inb F E = F.length := by
            unfold sp_inb
            exact sp_flt2 (fun e => (sp_fi E e.1).isSome) (fun e => (sp_fi E e.1).isNone) (fun e => by cases sp_fi E e.1 <;> rfl) F
          omega
        have hlA : A.length < 24 := by
          rw [hf, List.length_append, List.length_singleton] at hcnt
          omega
        refine ct_give (d := d) e5 hAb bk.1 rfl (fun _ => hlA) (fun h6 e6 a6 => ?_)
        refine ih (c + 1) h6 (sp_give (sp_ord f w) A (sp_k F c) (sp_v F c)) (by omega) ?_ ?_ (sp_eb_give hAb bk.1 bk.2 (fun _ => hlA)) e6 (a5.tr a6)
        · rw [hf, List.foldl_append, ← hA]
          rfl
        · rw [hf, List.length_append, List.length_singleton]
          have := sp_give_len (o := sp_ord f w) (A := A) (a := sp_k F c) (b := sp_v F c)
          omega
      · simp only [hfe, Option.isNone_some, Bool.false_eq_true, if_false, List.append_nil] at hf
        exact ih (c + 1) h5 A (by omega) (by rw [hf]; exact hA) (by rw [hf]; exact hAl) hAb e5 a5
  exact H F.length 0 h4 E (by omega) (by simp) (by simp) hb e4 a4
theorem ct_keysAlsoIn {l : Fin 22} {F : List (Nat × Nat)} (g : ct_E f w j E h) (g' : ct_E f w l F h) (hb : sp_eb E) (hb' : sp_eb F) {K : Int32 → tv_AH → Prop} (hK : K (nI (sp_inb E F)) h) : tv_CI ad (d + 2) yX1_keysAlsoIn [.ref (ad (tv_tp j)), .ref (ad (tv_tp l))] h K := by
  have hl := hb.1
  have hl' := hb'.1
  refine nX1_keysAlsoIn _ _ h ?_
  have H : ∀ t c, c + t = E.length → tv_Wp ad RX1 cX1_keysAlsoIn 4 (some .int) (d + 1) (tv_pI K) 4 [(0, .ref (ad (tv_tp j))), (1, .ref (ad (tv_tp l))), (2, .int (nI ((E.take c).filter (fun e => (sp_fi F e.1).isSome)).length)), (3, .int (nI c))] [] h := by
    intro t
    induction t with
    | zero =>
      intro c hc
      refine bX1_keysAlsoIn_4 _ _ _ _ h ?_
      rw [g.1]
      refine pk_le E.length c (fun _ => ?_) (fun q => absurd q (by omega))
      rw [show c = E.length by omega, List.take_length]
      exact hK
    | succ t ih =>
      intro c hc
      refine bX1_keysAlsoIn_4 _ _ _ _ h ?_
      rw [g.1, tv_nc c]
      refine pk_le E.length c (fun q => absurd q (by omega)) (fun q => ⟨pk_in c 24 (by omega), ?_⟩)
      have bk := hb.2 c q
      rw [(g.2 c q).1, nI_1, nI_1]
      have hcn := sp_cnt (p := fun e => (sp_fi F e.1).isSome) q
      rw [sp_kg q] at hcn
      refine ct_indexOfKey (d := d) g' hb' bk.1 (ct_ixlt hl' (fun hf => ?_) (fun s hf => ?_))
      · simp only [hf, Option.isSome_none, Bool.false_eq_true, if_false, Nat.add_zero] at hcn
        rw [← hcn]
        exact ih (c + 1) (by omega)
      · simp only [hf, Option.isSome_some, if_true] at hcn
        rw [← hcn]
        exact ih (c + 1) (by omega)
  exact H E.length 0 (by omega)
theorem ct_pairsAlsoIn {l : Fin 22} {F : List (Nat × Nat)} (g : ct_E f w j E h) (g' : ct_E f w l F h) (hb : sp_eb E) (hb' : sp_eb F) {K : Int32 → tv_AH → Prop} (hK : K (nI (sp_alk E F)) h) : tv_CI ad (d + 2) yX1_pairsAlsoIn [.ref (ad (tv_tp j)), .ref (ad (tv_tp l))] h K := by
  have hl := hb.1
  have hl' := hb'.1
  refine nX1_pairsAlsoIn _ _ h ?_
  have H : ∀ t c, c + t = E.length → tv_Wp ad RX1 cX1_pairsAlsoIn 5 (some .int) (d + 1) (tv_pI K) 4 [(0, .ref (ad (tv_tp j))), (1, .ref (ad (tv_tp l))), (2, .int (nI ((E.take c).filter (fun e => sp_get F e.1 == nI e.2)).length)), (3, .int (nI c))] [] h := by
    intro t
    induction t with
    | zero =>
      intro c hc
      refine bX1_pairsAlsoIn_4 _ _ _ _ h ?_
      rw [g.1]
      refine pk_le E.length c (fun _ => ?_) (fun q => absurd q (by omega))
      rw [show c = E.length by omega, List.take_length]
      exact hK
    | succ t ih =>
      intro c hc
      refine bX1_pairsAlsoIn_4 _ _ _ _ h ?_
      rw [g.1, tv_nc c]
      refine pk_le E.length c (fun q => absurd q (by omega)) (fun q => ⟨pk_in c 24 (by omega), ?_⟩)
      have bk := hb.2 c q
      rw [(g.2 c q).1, nI_1, nI_1]
      have hcn := sp_cnt (p := fun e : Nat × Nat => sp_get F e.1 == nI e.2) q
      rw [sp_kg q] at hcn
      refine ct_indexOfKey (d := d) g' hb' bk.1 (ct_ixlt hl' (fun hf => ?_) (fun s hf => ?_))
      · have : sp_get F (sp_k E c) = -1 := by unfold sp_get; rw [hf]
        simp only [this] at hcn
        rw [if_neg (by simp only [beq_iff_eq]; exact fun z => tv_m1 (by omega) z.symm)] at hcn
        replace hcn := hcn.trans (Nat.add_zero _)
        rw [← hcn]
        exact ih (c + 1) (by omega)
      · obtain ⟨s1, -, -⟩ := sp_fi_some hf
        have : sp_get F (sp_k E c) = nI (sp_v F s) := by unfold sp_get; rw [hf]
        simp only [this] at hcn
        rw [sp_ix_some hf, tv_nc s, (g'.2 s s1).2.1, (g.2 c q).2.1]
        refine ⟨pk_in s 24 (by omega), pk_in c 24 (by omega), fun u => ?_, fun u => ?_⟩
        · rw [if_neg (by simpa using u)] at hcn
          replace hcn := hcn.trans (Nat.add_zero _)
          rw [← hcn]
          exact ih (c + 1) (by omega)
        · rw [if_pos (by simpa using u)] at hcn
          rw [← hcn]
          exact ih (c + 1) (by omega)
  exact H E.length 0 (by omega)
end CTC
