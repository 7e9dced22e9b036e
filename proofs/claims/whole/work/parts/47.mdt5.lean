/-! THE REFERENCE: queries -/
theorem tv_lt1 {p : Int32} {L : Nat} (hL : L < 2 ^ 30) : p ≤ nI L - 1 ↔ p < nI L := by
  rw [Int32.le_iff_toInt_le, Int32.lt_iff_toInt_lt, show (1 : Int32) = nI 1 from rfl, pk_sub_toInt hL (by omega), nI_toInt (by omega)]
  omega
theorem tv_if1 {p : Int32} {L : Nat} (hL : L < 2 ^ 30) : (if 0 ≤ p ∧ p ≤ nI L - 1 then (1 : Int32) else 0) = if 0 ≤ p ∧ p < nI L then 1 else 0 := by
  by_cases c : 0 ≤ p ∧ p < nI L
  · rw [if_pos c, if_pos ⟨c.1, (tv_lt1 hL).mpr c.2⟩]
  · rw [if_neg c, if_neg (fun z => c ⟨z.1, (tv_lt1 hL).mp z.2⟩)]
theorem sp_alk_le (E F : List (Nat × Nat)) : sp_alk E F ≤ E.length := List.length_filter_le _ _
theorem sp_inb_le (E F : List (Nat × Nat)) : sp_inb E F ≤ E.length := List.length_filter_le _ _
/-- same key and value: the key is there -/
theorem sp_alk_inb (E F : List (Nat × Nat)) (hE : sp_eb E) : sp_alk E F ≤ sp_inb E F := by
  unfold sp_alk sp_inb
  have : ∀ e ∈ E, (sp_get F e.1 == nI e.2) = true → ((sp_fi F e.1).isSome) = true := by
    intro e he h
    cases hf : sp_fi F e.1 with
    | some i => rfl
    | none =>
      exfalso
      unfold sp_get at h
      rw [hf] at h
      have hv := ((sp_eb_mem.mp hE).2 e he).2
      have h2 : (-1 : Int32) = nI e.2 := by simpa using h
      exact tv_m1 (by omega) h2.symm
  clear hE
  induction E with
  | nil => exact Nat.le_refl _
  | cons e E ih =>
    have ih := ih (fun x hx => this x (List.mem_cons_of_mem _ hx))
    have he := this e List.mem_cons_self
    simp only [List.filter_cons]
    by_cases c : (sp_get F e.1 == nI e.2) = true
    · rw [if_pos c, if_pos (he c)]
      simp only [List.length_cons]
      omega
    · rw [if_neg c]
      split
      · simp only [List.length_cons]; omega
      · exact ih
section MDY
variable {ad : Nat → Nat} {d c : Nat} {h : tv_AH} {S : sp_S}
theorem md_twoNow {m m' f w own own' k : Nat} {E E' : List (Nat × Nat)} {ids ids' : List Nat} (hm : m < 22) (hm' : m' < 22) (km : md_M m f w E ids own h) (km' : md_M m' f w E' ids' own' h) (hsym : sp_inb E E' ≤ E'.length) (hk : k ≤ 4) {K : Int32 → tv_AH → Prop} (hK : K (nI (sp_tw2 E E' k)) h) : tv_CI ad (d + 5) yX3_twoNow [.ref (ad 400), .int (nI m), .int (nI m'), .int (nI k)] h K := by
  have h24 := km.2.1.1
  have h24' := km'.2.1.1
  have l1 := sp_alk_inb E E' km.2.1
  have l2 := sp_inb_le E E'
  refine nX3_twoNow _ _ _ h (md_inBoth hm hm' km km' (md_alike hm hm' km km' ?_))
  rw [nI_toInt (show k < 2 ^ 31 by omega), tv_nc m, tv_nc m', km.1.1, km'.1.1]
  unfold sp_tw2 at hK
  refine ⟨fun z => ⟨pk_in m 22 hm, ?_⟩, fun z => ?_, fun z => ?_, fun z => ⟨pk_in m 22 hm, ?_⟩, fun z => ⟨pk_in m' 22 hm', ?_⟩⟩
  · rw [if_pos (by omega)] at hK
    refine tv_ne (sp_alk E E') E.length (fun y => ?_) (fun y => ⟨pk_in m' 22 hm', tv_ne (sp_alk E E') E'.length (fun u => ?_) (fun u => ?_)⟩)
    · rw [if_neg (fun u => y u.1)] at hK; exact hK
    · rw [if_neg (fun t => u t.2)] at hK; exact hK
    · rw [if_pos ⟨y, u⟩] at hK; exact hK
  · rw [if_neg (by omega), if_pos (by omega)] at hK; exact hK
  · rw [if_neg (by omega), if_neg (by omega), if_pos (by omega)] at hK
    rw [pk_sub l1]; exact hK
  · rw [if_neg (by omega), if_neg (by omega), if_neg (by omega), if_pos (by omega)] at hK
    rw [pk_sub l2]; exact hK
  · rw [if_neg (by omega), if_neg (by omega), if_neg (by omega), if_neg (by omega)] at hK
    rw [pk_sub hsym]; exact hK
theorem mt_get {v x : Int32} (ok : ss_ok S c) (r : md_rep S h) {K : Int32 → tv_AH → Prop} (hK : ∀ h', md_rep (ss_get S v x).2 h' → tv_ag md_hi h h' → K (ss_get S v x).1 h') : tv_CI ad (d + 4) yX3_get [.ref (ad 400), .int v, .int x] h K := by
  have o2 := ok.2.1
  refine nX3_get _ _ h (md_isVersion (S := S) r.2.1 ⟨o2.1, o2.2.1⟩ (fun n hn en ev => tv_b1 ?_) (fun ev => tv_b0 ?_))
  · refine md_rg (b := 4095) rfl (by omega) (fun k hk ek evk => tv_c1 ?_) (fun evk => tv_c0 ?_)
    · have e : ss_get S v x = (sp_get (ss_v S n).1 k, S) := by unfold ss_get; simp only [ev, evk]
      rw [e] at hK
      subst en ek
      exact md_valueOf (by omega) (r.2.2.1 n hn) (by omega) (hK h r tv_ag.rf)
    · have e : ss_get S v x = (-102, S) := by unfold ss_get; simp only [ev, evk]
      rw [e] at hK
      exact hK h r tv_ag.rf
  · have e : ss_get S v x = (-101, S) := by unfold ss_get; simp only [ev]
    rw [e] at hK
    exact hK h r tv_ag.rf
theorem mt_about {v x : Int32} (ok : ss_ok S c) (r : md_rep S h) {K : Int32 → tv_AH → Prop} (hK : ∀ h', md_rep (ss_about S v x).2 h' → tv_ag md_hi h h' → K (ss_about S v x).1 h') : tv_CI ad (d + 3) yX3_about [.ref (ad 400), .int v, .int x] h K := by
  have o2 := ok.2.1
  refine nX3_about _ _ h (md_isVersion (S := S) r.2.1 ⟨o2.1, o2.2.1⟩ (fun n hn en ev => tv_b1 ?_) (fun ev => tv_b0 ?_))
  · refine md_rg (b := 5) rfl (by omega) (fun k hk ek evk => tv_c1 ?_) (fun evk => tv_c0 ?_)
    · have e : ss_about S v x = (sp_about (ss_f S) (ss_w S) (ss_v S n).1 k, S) := by unfold ss_about; simp only [ev, evk]
      rw [e] at hK
      subst en ek
      exact md_aboutNow (by omega) (r.2.2.1 n hn) hk (hK h r tv_ag.rf)
    · have e : ss_about S v x = (-102, S) := by unfold ss_about; simp only [ev, evk]
      rw [e] at hK
      exact hK h r tv_ag.rf
  · have e : ss_about S v x = (-101, S) := by unfold ss_about; simp only [ev]
    rw [e] at hK
    exact hK h r tv_ag.rf
theorem mt_node {v p x : Int32} (ok : ss_ok S c) (r : md_rep S h) {K : Int32 → tv_AH → Prop} (hK : ∀ h', md_rep (ss_node S v p x).2 h' → tv_ag md_hi h h' → K (ss_node S v p x).1 h') : tv_CI ad (d + 5) yX3_node [.ref (ad 400), .int v, .int p, .int x] h K := by
  have o2 := ok.2.1
  refine nX3_node _ _ _ h (md_isVersion (S := S) r.2.1 ⟨o2.1, o2.2.1⟩ (fun n hn en ev => tv_c1 ?_) (fun ev => tv_c0 ?_))
  · subst en
    have kn := r.2.2.1 n hn
    have hN96 := sp_N_len (f := ss_f S) (w := ss_w S) kn.2.1.1
    rw [tv_nc n, kn.2.2.1]
    refine ⟨pk_in n 22 (by omega), md_within ?_⟩
    rw [tv_if1 (by omega)]
    by_cases hp : 0 ≤ p ∧ p < nI (sp_N (ss_f S) (ss_w S) (ss_v S n).1).length
    · rw [if_pos hp]
      obtain ⟨i, hi, rfl⟩ := nI_of (Int32.not_lt.mpr hp.1)
      have hil := (nI_ltI hi (by omega)).mp hp.2
      refine tv_b1 (md_rg (b := 4) rfl (by omega) (fun k hk ek evk => tv_c1 ?_) (fun evk => tv_c0 ?_))
      · have e : ss_node S (nI n) (nI i) x = (sp_node (ss_f S) (ss_w S) (ss_v S n).1 (sp_n (sp_N (ss_f S) (ss_w S) (ss_v S n).1) i) k, S) := by
          unfold ss_node
          simp only [ev, evk, hp, and_self, if_true, nI_clamp hi]
        rw [e] at hK
        subst ek
        exact md_nodeNow (by omega) r.1 kn hil hk (hK h r tv_ag.rf)
      · have e : ss_node S (nI n) (nI i) x = (-102, S) := by unfold ss_node; simp only [ev, evk, hp, and_self, if_true]
        rw [e] at hK
        exact hK h r tv_ag.rf
    · rw [if_neg hp]
      have e : ss_node S (nI n) p x = (-101, S) := by unfold ss_node; simp only [ev]; rw [if_neg hp]
      rw [e] at hK
      exact tv_b0 (hK h r tv_ag.rf)
  · have e : ss_node S v p x = (-101, S) := by unfold ss_node; simp only [ev]
    rw [e] at hK
    exact hK h r tv_ag.rf
theorem mt_entry {v p x : Int32} (ok : ss_ok S c) (r : md_rep S h) {K : Int32 → tv_AH → Prop} (hK : ∀ h', md_rep (ss_entry S v p x).2 h' → tv_ag md_hi h h' → K (ss_entry S v p x).1 h') : tv_CI ad (d + 4) yX3_entry [.ref (ad 400), .int v, .int p, .int x] h K := by
  have o2 := ok.2.1
  refine nX3_entry _ _ _ h (md_isVersion (S := S) r.2.1 ⟨o2.1, o2.2.1⟩ (fun n hn en ev => tv_c1 ?_) (fun ev => tv_c0 ?_))
  · subst en
    have kn := r.2.2.1 n hn
    have h24 := kn.2.1.1
    rw [tv_nc n, kn.1.1]
    refine ⟨pk_in n 22 (by omega), md_within ?_⟩
    rw [tv_if1 (by omega)]
    by_cases hp : 0 ≤ p ∧ p < nI (ss_v S n).1.length
    · rw [if_pos hp]
      obtain ⟨i, hi, rfl⟩ := nI_of (Int32.not_lt.mpr hp.1)
      have hil := (nI_ltI hi (by omega)).mp hp.2
      refine tv_b1 (md_rg (b := 2) rfl (by omega) (fun k hk ek evk => tv_c1 ?_) (fun evk => tv_c0 ?_))
      · have e : ss_entry S (nI n) (nI i) x = (sp_entry (ss_f S) (ss_w S) (ss_v S n).1 i k, S) := by
          unfold ss_entry
          simp only [ev, evk, hp, and_self, if_true, nI_clamp hi]
        rw [e] at hK
        subst ek
        exact md_entryNow (by omega) kn hil hk (hK h r tv_ag.rf)
      · have e : ss_entry S (nI n) (nI i) x = (-102, S) := by unfold ss_entry; simp only [ev, evk, hp, and_self, if_true]
        rw [e] at hK
        exact hK h r tv_ag.rf
    · rw [if_neg hp]
      have e : ss_entry S (nI n) p x = (-101, S) := by unfold ss_entry; simp only [ev]; rw [if_neg hp]
      rw [e] at hK
      exact tv_b0 (hK h r tv_ag.rf)
  · have e : ss_entry S v p x = (-101, S) := by unfold ss_entry; simp only [ev]
    rw [e] at hK
    exact hK h r tv_ag.rf
theorem mt_shared {v u : Int32} (ok : ss_ok S c) (r : md_rep S h) {K : Int32 → tv_AH → Prop} (hK : ∀ h', md_rep (ss_shared S v u).2 h' → tv_ag md_hi h h' → K (ss_shared S v u).1 h') : tv_CI ad (d + 3) yX3_shared [.ref (ad 400), .int v, .int u] h K := by
  have o2 := ok.2.1
  refine nX3_shared _ _ h (md_isVersion (S := S) r.2.1 ⟨o2.1, o2.2.1⟩ (fun n hn en ev => tv_c1 ?_) (fun ev => tv_c0 ?_))
  · refine md_isVersion (S := S) r.2.1 ⟨o2.1, o2.2.1⟩ (fun m hm em evm => tv_c1 ?_) (fun evm => tv_c0 ?_)
    · have e : ss_shared S v u = (nI (sp_shr (ss_v S n).2 (ss_v S m).2), S) := by unfold ss_shared; simp only [ev, evm]
      rw [e] at hK
      subst en em
      exact md_sharedNow (by omega) (by omega) (r.2.2.1 n hn) (r.2.2.1 m hm) (hK h r tv_ag.rf)
    · have e : ss_shared S v u = (-101, S) := by unfold ss_shared; simp only [ev, evm]
      rw [e] at hK
      exact hK h r tv_ag.rf
  · have e : ss_shared S v u = (-101, S) := by unfold ss_shared; simp only [ev]
    rw [e] at hK
    exact hK h r tv_ag.rf
theorem mt_two {v u x : Int32} (ok : ss_ok S c) (r : md_rep S h) (hsym : ∀ n m, n < (ss_vs S).length → m < (ss_vs S).length → sp_inb (ss_v S n).1 (ss_v S m).1 = sp_inb (ss_v S m).1 (ss_v S n).1) {K : Int32 → tv_AH → Prop} (hK : ∀ h', md_rep (ss_two S v u x).2 h' → tv_ag md_hi h h' → K (ss_two S v u x).1 h') : tv_CI ad (d + 6) yX3_two [.ref (ad 400), .int v, .int u, .int x] h K := by
  have o2 := ok.2.1
  refine nX3_two _ _ _ h (md_isVersion (S := S) r.2.1 ⟨o2.1, o2.2.1⟩ (fun n hn en ev => tv_c1 ?_) (fun ev => tv_c0 ?_))
  · refine md_isVersion (S := S) r.2.1 ⟨o2.1, o2.2.1⟩ (fun m hm em evm => tv_b1 ?_) (fun evm => tv_b0 ?_)
    · refine md_rg (b := 4) rfl (by omega) (fun k hk ek evk => tv_c1 ?_) (fun evk => tv_c0 ?_)
      · have e : ss_two S v u x = (nI (sp_tw2 (ss_v S n).1 (ss_v S m).1 k), S) := by unfold ss_two; simp only [ev, evm, evk]
        rw [e] at hK
        subst en em ek
        exact md_twoNow (by omega) (by omega) (r.2.2.1 n hn) (r.2.2.1 m hm) (by rw [hsym n m hn hm]; exact sp_inb_le _ _) hk (hK h r tv_ag.rf)
      · have e : ss_two S v u x = (-102, S) := by unfold ss_two; simp only [ev, evm, evk]
        rw [e] at hK
        exact hK h r tv_ag.rf
    · have e : ss_two S v u x = (-101, S) := by unfold ss_two; simp only [ev, evm]
      rw [e] at hK
      exact hK h r tv_ag.rf
  · have e : ss_two S v u x = (-101, S) := by unfold ss_two; simp only [ev]
    rw [e] at hK
    exact hK h r tv_ag.rf
theorem mt_hash {x : Int32} (r : md_rep S h) {K : Int32 → tv_AH → Prop} (hK : ∀ h', md_rep (ss_hash S x).2 h' → tv_ag md_hi h h' → K (ss_hash S x).1 h') : tv_CI ad (d + 2) yX3_hash [.ref (ad 400), .int x] h K := by
  refine nX3_hash _ h (md_rg (b := 4095) rfl (by omega) (fun k hk ek evk => tv_c1 ?_) (fun evk => tv_c0 ?_))
  · have e : ss_hash S x = (nI (sp_hash (ss_f S) (ss_w S) k), S) := by unfold ss_hash; simp only [evk]
    rw [e] at hK
    subst ek
    exact md_hashOf r.1 (by omega) (hK h r tv_ag.rf)
  · have e : ss_hash S x = (-102, S) := by unfold ss_hash; simp only [evk]
    rw [e] at hK
    exact hK h r tv_ag.rf
theorem mt_blank (ok : ss_ok S c) (r : md_rep S h) {K : Int32 → tv_AH → Prop} (hK : ∀ h', md_rep (ss_blank S).2 h' → tv_ag md_hi h h' → K (ss_blank S).1 h') : tv_CI ad (d + 1) yX3_blank [.ref (ad 400)] h K := by
  refine nX3_blank h (fun h1 w1 => ?_)
  rw [r.2.2.2.1.1]
  have a1 : tv_ag (fun q i => q = 400 ∧ i = 0) h h1 := by rw [w1]; exact tv_ag.rf.wI ⟨rfl, rfl⟩
  obtain ⟨r1, r2, r3, r4, r5, r6⟩ := id r
  refine hK h1 (r.mk' a1 rfl ?_ (fun v hv => ⟨hv, rfl⟩) (fun v _ q i y => by unfold md_rM md_rE md_rN at y; omega) ok.2.1.2.1 (by omega) (by omega) ⟨by rw [w1, tv_wIe]; rfl, fun i hi => absurd (show i < 0 from hi) (by omega)⟩ ⟨?_, ?_, ?_⟩ ?_) (a1.mo (fun q i z => by unfold md_hi; omega))
  · rw [a1.2 _ _ (by omega)]; exact r2
  · rw [a1.2 _ _ (by omega)]; exact r5.1
  · rw [a1.2 _ _ (by omega)]; exact r5.2.1
  · rw [a1.2 _ _ (by omega)]; exact r5.2.2
  · exact r6.ag a1 (fun q i y => by unfold md_rM md_rE md_rN at y; omega) (by omega) (by omega)
theorem mt_letter {x : Int32} (ok : ss_ok S c) (r : md_rep S h) {K : Int32 → tv_AH → Prop} (hK : ∀ h', md_rep (ss_letter S x).2 h' → tv_ag md_hi h h' → K (ss_letter S x).1 h') : tv_CI ad (d + 2) yX3_letter [.ref (ad 400), .int x] h K := by
  have o4 := ok.2.2.2.1
  obtain ⟨r1, r2, r3, r4, r5, r6⟩ := id r
  refine nX3_letter _ h (md_within ?_)
  cases evx : sp_rg x 126 with
  | none =>
    have e : ss_letter S x = (-102, S) := by unfold ss_letter; simp only [evx]
    rw [e] at hK
    rw [if_neg]
    · exact tv_b0 (hK h r tv_ag.rf)
    · intro q
      exact sp_rg_none evx ⟨Int32.le_trans (by decide) q.1, q.2⟩
  | some k =>
    obtain ⟨k1, k2⟩ := sp_rg_some (by omega) evx
    subst k2
    by_cases hk : k < 32
    · have e : ss_letter S (nI k) = (-102, S) := by unfold ss_letter; simp only [evx]; rw [if_pos hk]
      rw [e] at hK
      rw [if_neg]
      · exact tv_b0 (hK h r tv_ag.rf)
      · intro q
        have := (nI_leI (a := 32) (by omega) (by omega)).mp q.1
        omega
    · have e : ss_letter S (nI k) = if (ss_pg S).length = 60 then (-104, S) else (nI ((ss_pg S).length + 1), (S.1, ss_vs S, ss_pg S ++ [k], S.2.2.2.1, ss_ed S)) := by unfold ss_letter; simp only [evx]; rw [if_neg hk]
      rw [e] at hK
      rw [if_pos ⟨(show nI 32 ≤ nI k from nI_le (by omega) (by omega)), (show nI k ≤ nI 126 from nI_le k1 (by decide))⟩, r4.1]
      refine tv_b1 (tv_ne (ss_pg S).length 60 (fun z => ⟨pk_in (ss_pg S).length 60 (by omega), fun h2 w2 h3 w3 => ?_⟩) (fun z => ?_))
      · rw [if_neg z] at hK
        rw [tv_nc (ss_pg S).length] at w2
        have e2 : h2.1 400 0 = nI (ss_pg S).length := by rw [w2, tv_wIc (by omega)]; exact r4.1
        rw [e2, nI_1] at w3
        have e3 : h3.1 400 0 = nI ((ss_pg S).length + 1) := by rw [w3, tv_wIe]
        rw [e3]
        have a3 : tv_ag (fun q i => (q = 401 ∧ i = (ss_pg S).length) ∨ (q = 400 ∧ i = 0)) h h3 := by rw [w3, w2]; exact (tv_ag.rf.wI (Or.inl ⟨rfl, rfl⟩)).wI (Or.inr ⟨rfl, rfl⟩)
        refine hK h3 (r.mk' a3 rfl ?_ (fun v hv => ⟨hv, rfl⟩) (fun v _ q i y => by unfold md_rM md_rE md_rN at y; omega) ok.2.1.2.1 (by omega) (by omega) ⟨?_, fun i hi => ?_⟩ ⟨?_, ?_, ?_⟩ ?_) (a3.mo (fun q i z => by unfold md_hi; omega))
        · rw [a3.2 _ _ (by omega)]; exact r2
        · show h3.1 400 0 = nI (ss_pg S ++ [k]).length
          rw [List.length_append, List.length_singleton]; exact e3
        · change i < (ss_pg S ++ [k]).length at hi
          show h3.1 401 i = nI ((ss_pg S ++ [k]).getD i 0)
          rw [List.length_append, List.length_singleton] at hi
          by_cases y : i < (ss_pg S).length
          · rw [a3.2 _ _ (by omega), r4.2 i y]
            simp [List.getD_eq_getElem?_getD, List.getElem?_append, y]
          · have : i = (ss_pg S).length := by omega
            subst this
            rw [w3, tv_wIc (by omega), w2, tv_wIe]
            simp [List.getD_eq_getElem?_getD]
        · rw [a3.2 _ _ (by omega)]; exact r5.1
        · rw [a3.2 _ _ (by omega)]; exact r5.2.1
        · rw [a3.2 _ _ (by omega)]; exact r5.2.2
        · exact r6.ag a3 (fun q i y => by unfold md_rM md_rE md_rN at y; omega) (by omega) (by omega)
      · rw [if_pos z] at hK
        exact hK h r tv_ag.rf
theorem mt_scheme {x y : Int32} (ok : ss_ok S c) (r : md_rep S h) {K : Int32 → tv_AH → Prop} (hK : ∀ h', md_rep (ss_scheme S x y).2 h' → tv_ag md_hi h h' → K (ss_scheme S x y).1 h') : tv_CI ad (d + 2) yX3_scheme [.ref (ad 400), .int x, .int y] h K := by
  obtain ⟨r1, r2, r3, r4, r5, r6⟩ := id r
  obtain ⟨o1, o2, o3, o4, o5, o6⟩ := ok
  refine nX3_scheme _ _ h (md_within ?_)
  cases evx : sp_rg x 65535 with
  | none =>
    have e : ss_scheme S x y = (-102, S) := by unfold ss_scheme; simp only [evx]
    rw [e] at hK
    rw [if_neg]
    · exact tv_c0 (hK h r tv_ag.rf)
    · intro q
      exact sp_rg_none evx ⟨Int32.le_trans (by decide) q.1, q.2⟩
  | some f =>
    obtain ⟨k1, k2⟩ := sp_rg_some (by omega) evx
    subst k2
    by_cases hf0 : f = 0
    · have e : ss_scheme S (nI f) y = (-102, S) := by unfold ss_scheme; simp only [evx]; rw [hf0]; rfl
      rw [e] at hK
      rw [if_neg]
      · exact tv_c0 (hK h r tv_ag.rf)
      · intro q
        have := (nI_leI (a := 1) (by omega) (by omega)).mp q.1
        omega
    · have hc1 : (1 : Int32) ≤ nI f := (show nI 1 ≤ nI f from nI_le (by omega) (by omega))
      have hc2 : nI f ≤ (65535 : Int32) := by
        have := nI_le k1 (by omega)
        exact this
      rw [if_pos ⟨hc1, hc2⟩, show (2 : Int32) = nI 2 from rfl, pk_rem (by omega) (by omega) (by omega)]
      have hm2 : f % 2 < 2 := Nat.mod_lt _ (by omega)
      refine tv_c1 (pk_eq (f % 2) 0 (fun z => ?_) (fun z => md_within ?_))
      · have e : ss_scheme S (nI f) y = (-102, S) := by unfold ss_scheme; simp only [evx]; rw [if_pos z]
        rw [e] at hK
        exact hK h r tv_ag.rf
      · cases evy : sp_rg y 30 with
        | none =>
          have e : ss_scheme S (nI f) y = (-102, S) := by unfold ss_scheme; simp only [evx, evy]; rw [if_neg z]
          rw [e] at hK
          rw [if_neg]
          · exact tv_b0 (hK h r tv_ag.rf)
          · intro q
            exact sp_rg_none evy ⟨Int32.le_trans (by decide) q.1, q.2⟩
        | some w =>
          obtain ⟨w1, w2⟩ := sp_rg_some (by omega) evy
          subst w2
          by_cases hw3 : w < 3
          · have e : ss_scheme S (nI f) (nI w) = (-102, S) := by unfold ss_scheme; simp only [evx, evy]; rw [if_neg z, if_pos hw3]
            rw [e] at hK
            rw [if_neg]
            · exact tv_b0 (hK h r tv_ag.rf)
            · intro q
              have := (nI_leI (a := 3) (by omega) (by omega)).mp q.1
              omega
          · have e : ss_scheme S (nI f) (nI w) = (nI ((ss_vs S).length - 1), ((f, w), (ss_vs S).take 1, ss_pg S, S.2.2.2.1, none)) := by unfold ss_scheme; simp only [evx, evy]; rw [if_neg z, if_neg hw3]
            rw [e] at hK
            rw [if_pos ⟨(show nI 3 ≤ nI w from nI_le (by omega) (by omega)), (show nI w ≤ nI 30 from nI_le w1 (by decide))⟩, r2, show (1 : Int32) = nI 1 from rfl, pk_sub o2.1]
            refine tv_b1 (fun h3 e3 h4 e4 h5 e5 h6 e6 => ?_)
            have a6 : tv_ag (fun q i => q = 400 ∧ (i = 4 ∨ i = 5 ∨ i = 2 ∨ i = 3)) h h6 := by
              rw [e6, e5, e4, e3]
              refine (((tv_ag.rf.wI ?_).wI ?_).wI ?_).wI ?_ <;> omega
            have hlen1 : ((ss_vs S).take 1).length = 1 := by rw [List.length_take]; omega
            have m0 : md_M 0 f w [] [] (2 ^ 30) h6 := by
              have k0 := r3 0 (by omega)
              rw [o2.2.2] at k0
              have k6 := k0.ag a6 (fun q i y => by unfold md_rM md_rE md_rN at y; omega)
              obtain ⟨q1, q2, q3, -, -, -, -⟩ := k6
              exact ⟨q1, q2, q3, fun i hi => absurd hi (by simp [sp_N, sp_lay_nil]), rfl, fun i hi => absurd hi (by simp), fun i hi => absurd hi (by simp)⟩
            refine hK h6 ⟨⟨?_, ?_, (show sp_sc f w from ⟨by omega, by omega, by omega, w1⟩)⟩, ?_, ?_, ⟨?_, fun i hi => ?_⟩, ⟨?_, ?_, ?_⟩, ?_⟩ (a6.mo (fun q i z => by unfold md_hi; omega))
            · rw [e6, tv_wIc (by omega), e5, tv_wIe]
            · rw [e6, tv_wIe]
            · show h6.1 400 4 = nI ((ss_vs S).take 1).length
              rw [hlen1, e6, tv_wIc (by omega), e5, tv_wIc (by omega), e4, tv_wIc (by omega), e3, tv_wIe]
            · intro v hv
              change v < ((ss_vs S).take 1).length at hv
              rw [hlen1] at hv
              have : v = 0 := by omega
              subst this
              show md_M 0 f w (((ss_vs S).take 1).getD 0 ([], [])).1 (((ss_vs S).take 1).getD 0 ([], [])).2 (2 ^ 30) h6
              have e0 : ((ss_vs S).take 1).getD 0 ([], []) = ss_v S 0 := by
                show _ = (ss_vs S).getD 0 ([], [])
                simp only [List.getD_eq_getElem?_getD, List.getElem?_take]
                rfl
              rw [e0, o2.2.2]
              exact m0
            · rw [a6.2 _ _ (by omega)]; exact r4.1
            · rw [a6.2 _ _ (by omega)]; exact r4.2 i hi
            · rw [a6.2 _ _ (by omega)]; exact r5.1
            · rw [a6.2 _ _ (by omega)]; exact r5.2.1
            · rw [a6.2 _ _ (by omega)]; exact r5.2.2
            · refine ⟨?_, ?_⟩
              · rw [e6, tv_wIc (by omega), e5, tv_wIc (by omega), e4, tv_wIe]
              · unfold md_ed at r6
                cases hed : ss_ed S with
                | none =>
                  rw [hed] at r6
                  obtain ⟨-, E0, q1, q2⟩ := r6
                  exact ⟨E0, q1.cg q2.1 (fun q i y => a6.2 q i (by unfold md_rE at y; omega)), q2⟩
                | some t =>
                  obtain ⟨V, own, mi⟩ := t
                  rw [hed] at r6
                  exact ⟨V.1, r6.2.2.1.cg r6.2.2.2.1.1 (fun q i y => a6.2 q i (by unfold md_rE at y; omega)), r6.2.2.2.1⟩
end MDY
