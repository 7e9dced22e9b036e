/-! THE COMPONENT'S CALLS: queries; the heap stays as it is -/
section CCD
variable {ad : Nat → Nat} {d c : Nat} {h h' : tv_AH} {S : sp_S}
theorem cc_get {v x : Int32} (ok : ss_ok S c) (r : cp_rep S h) {K : Int32 → tv_AH → Prop} (hK : K (ss_get S v x).1 h) : tv_CI ad (d + 2) yX2_get [.ref (ad 0), .int v, .int x] h K := by
  have o2 := ok.2.1
  refine nX2_get _ _ h (ct_isVersion (d := d) (S := S) r.2.1 ⟨o2.1, o2.2.1⟩ (fun n hn en ev => tv_b1 ?_) (fun ev => tv_b0 ?_))
  · refine ct_isKey (fun k hk ek evk => tv_b1 ?_) (fun evk => tv_b0 ?_)
    · have e : ss_get S v x = (sp_get (ss_v S n).1 k, S) := by unfold ss_get; simp only [ev, evk]
      rw [e] at hK
      subst en ek
      have kn := r.v hn
      have vn := ok.v hn
      rw [tv_nc n]
      refine ⟨pk_in n 20 (by omega), ct_indexOfKey (d := d) kn.1 vn.1 (by omega) (ct_ixge vn.1.1 (fun hf => ?_) (fun i hf => ?_))⟩
      · unfold sp_get at hK
        rw [hf] at hK
        exact hK
      · have hi := (sp_fi_some hf).1
        have h24 := vn.1.1
        rw [sp_ix_some hf, tv_nc i, (kn.1.2 i hi).2.1]
        unfold sp_get at hK
        rw [hf] at hK
        exact ⟨pk_in i 24 (by omega), hK⟩
    · have e : ss_get S v x = (-102, S) := by unfold ss_get; simp only [ev, evk]
      rw [e] at hK
      exact hK
  · have e : ss_get S v x = (-101, S) := by unfold ss_get; simp only [ev]
    rw [e] at hK
    exact hK
theorem cc_about {v x : Int32} (ok : ss_ok S c) (r : cp_rep S h) {K : Int32 → tv_AH → Prop} (hK : K (ss_about S v x).1 h) : tv_CI ad (d + 2) yX2_about [.ref (ad 0), .int v, .int x] h K := by
  have o2 := ok.2.1
  refine nX2_about _ _ h (ct_isVersion (d := d) (S := S) r.2.1 ⟨o2.1, o2.2.1⟩ (fun n hn en ev => tv_b1 ?_) (fun ev => tv_b0 ?_))
  · have kn := r.v hn
    have vn := ok.v hn
    subst en
    have go : ∀ k, sp_rg x 5 = some k → K (sp_about (ss_f S) (ss_w S) (ss_v S n).1 k) h := fun k evk => by
      have e : ss_about S (nI n) x = (sp_about (ss_f S) (ss_w S) (ss_v S n).1 k, S) := by unfold ss_about; simp only [ev, evk]
      rw [e] at hK
      exact hK
    rw [tv_nc n, kn.1.1, kn.2.1.1]
    refine ⟨pk_in n 20 (by omega), fun z => go 0 (sp_rg_t 0 (by omega) (by omega) z).2, fun z => go 1 (sp_rg_t 1 (by omega) (by omega) z).2, fun z => ?_, fun z => ?_, fun z => ?_, fun z => ?_, fun z => ?_⟩
    · exact ct_nodesOfKind (d := d) (k := 0) kn.2.1 vn.1 (by omega) (go 2 (sp_rg_t 2 (by omega) (by omega) z).2)
    · exact ct_nodesOfKind (d := d) (k := 1) kn.2.1 vn.1 (by omega) (go 3 (sp_rg_t 3 (by omega) (by omega) z).2)
    · exact ct_nodesOfKind (d := d) (k := 2) kn.2.1 vn.1 (by omega) (go 4 (sp_rg_t 4 (by omega) (by omega) z).2)
    · exact ct_greatestLevel (d := d) kn.2.1 vn.1 (go 5 (sp_rg_t 5 (by omega) (by omega) z).2)
    · have evk := sp_rg_o (b := 5) (by omega) z
      have e : ss_about S (nI n) x = (-102, S) := by unfold ss_about; simp only [ev, evk]
      rw [e] at hK
      exact hK
  · have e : ss_about S v x = (-101, S) := by unfold ss_about; simp only [ev]
    rw [e] at hK
    exact hK
theorem cc_node {v p x : Int32} (ok : ss_ok S c) (r : cp_rep S h) {K : Int32 → tv_AH → Prop} (hK : K (ss_node S v p x).1 h) : tv_CI ad (d + 2) yX2_node [.ref (ad 0), .int v, .int p, .int x] h K := by
  have o2 := ok.2.1
  refine nX2_node _ _ _ h (ct_isVersion (d := d) (S := S) r.2.1 ⟨o2.1, o2.2.1⟩ (fun n hn en ev => tv_b1 ?_) (fun ev => tv_b0 ?_))
  · have kn := r.v hn
    have vn := ok.v hn
    have n96 := sp_N_len (f := ss_f S) (w := ss_w S) vn.1.1
    have n24 := vn.1.1
    subst en
    have out : ¬ (0 ≤ p ∧ p < nI (sp_N (ss_f S) (ss_w S) (ss_v S n).1).length) → K (-101) h := fun z => by
      have e : ss_node S (nI n) p x = (-101, S) := by unfold ss_node; simp only [ev]; rw [if_neg z]
      rw [e] at hK
      exact hK
    rw [tv_nc n, kn.2.1.1]
    refine ⟨pk_in n 20 (by omega), fun z => out (fun y => absurd z (Int32.not_lt.mpr y.1)), fun z => ⟨fun z2 => ?_, fun z2 => out (fun y => z2 y.2)⟩⟩
    obtain ⟨i, i1, i2⟩ := nI_of z
    subst i2
    have hi : i < (sp_N (ss_f S) (ss_w S) (ss_v S n).1).length := (nI_ltI i1 (by omega)).mp z2
    have in9 : vp_in (nI i) 96 := pk_in i 96 (by omega)
    obtain ⟨k7, k8, k9, k10, k11, k12, k13⟩ := kn.2.1.2.1 i hi
    have okn := sp_N_ok hi
    have go : ∀ k, sp_rg x 4 = some k → K (sp_node (ss_f S) (ss_w S) (ss_v S n).1 (sp_n (sp_N (ss_f S) (ss_w S) (ss_v S n).1) i) k) h := fun k evk => by
      have e : ss_node S (nI n) (nI i) x = (sp_node (ss_f S) (ss_w S) (ss_v S n).1 (sp_n (sp_N (ss_f S) (ss_w S) (ss_v S n).1) i) k, S) := by
        unfold ss_node
        simp only [ev, evk]
        rw [if_pos ⟨nI_pos' i1, z2⟩, tv_nc i]
      rw [e] at hK
      exact hK
    have hf : (sp_n (sp_N (ss_f S) (ss_w S) (ss_v S n).1) i).2.2.1 < (ss_v S n).1.length := by
      have := okn.2.1
      have := okn.2.2.1
      omega
    rw [tv_nc i, k7, k8, k9, k10, k11, tv_nc (sp_n (sp_N (ss_f S) (ss_w S) (ss_v S n).1) i).2.2.1, (kn.1.2 _ hf).1]
    refine ⟨fun z => ⟨in9, go 0 (sp_rg_t 0 (by omega) (by omega) z).2⟩, fun z => ⟨in9, go 1 (sp_rg_t 1 (by omega) (by omega) z).2⟩, fun z => ⟨in9, go 2 (sp_rg_t 2 (by omega) (by omega) z).2⟩, fun z => ⟨in9, pk_in (sp_n (sp_N (ss_f S) (ss_w S) (ss_v S n).1) i).2.2.1 24 (by omega), go 3 (sp_rg_t 3 (by omega) (by omega) z).2⟩, fun z => ⟨in9, go 4 (sp_rg_t 4 (by omega) (by omega) z).2⟩, fun z => ?_⟩
    have evk := sp_rg_o (b := 4) (by omega) z
    have e : ss_node S (nI n) (nI i) x = (-102, S) := by
      unfold ss_node
      simp only [ev, evk]
      rw [if_pos ⟨nI_pos' i1, z2⟩]
    rw [e] at hK
    exact hK
  · have e : ss_node S v p x = (-101, S) := by unfold ss_node; simp only [ev]
    rw [e] at hK
    exact hK
theorem cc_entry {v p x : Int32} (ok : ss_ok S c) (r : cp_rep S h) {K : Int32 → tv_AH → Prop} (hK : K (ss_entry S v p x).1 h) : tv_CI ad (d + 2) yX2_entry [.ref (ad 0), .int v, .int p, .int x] h K := by
  have o2 := ok.2.1
  refine nX2_entry _ _ _ h (ct_isVersion (d := d) (S := S) r.2.1 ⟨o2.1, o2.2.1⟩ (fun n hn en ev => tv_b1 ?_) (fun ev => tv_b0 ?_))
  · have kn := r.v hn
    have vn := ok.v hn
    have n24 := vn.1.1
    subst en
    have out : ¬ (0 ≤ p ∧ p < nI (ss_v S n).1.length) → K (-101) h := fun z => by
      have e : ss_entry S (nI n) p x = (-101, S) := by unfold ss_entry; simp only [ev]; rw [if_neg z]
      rw [e] at hK
      exact hK
    rw [tv_nc n, kn.1.1]
    refine ⟨pk_in n 20 (by omega), fun z => out (fun y => absurd z (Int32.not_lt.mpr y.1)), fun z => ⟨fun z2 => ?_, fun z2 => out (fun y => z2 y.2)⟩⟩
    obtain ⟨i, i1, i2⟩ := nI_of z
    subst i2
    have hi : i < (ss_v S n).1.length := (nI_ltI i1 (by omega)).mp z2
    have in9 : vp_in (nI i) 24 := pk_in i 24 (by omega)
    have go : ∀ k, sp_rg x 2 = some k → K (sp_entry (ss_f S) (ss_w S) (ss_v S n).1 i k) h := fun k evk => by
      have e : ss_entry S (nI n) (nI i) x = (sp_entry (ss_f S) (ss_w S) (ss_v S n).1 i k, S) := by
        unfold ss_entry
        simp only [ev, evk]
        rw [if_pos ⟨nI_pos' i1, z2⟩, tv_nc i]
      rw [e] at hK
      exact hK
    rw [tv_nc i, (kn.1.2 i hi).1, (kn.1.2 i hi).2.1, kn.2.1.2.2 i hi]
    refine ⟨fun z => ⟨in9, go 0 (sp_rg_t 0 (by omega) (by omega) z).2⟩, fun z => ⟨in9, go 1 (sp_rg_t 1 (by omega) (by omega) z).2⟩, fun z => ⟨in9, go 2 (sp_rg_t 2 (by omega) (by omega) z).2⟩, fun z => ?_⟩
    have evk := sp_rg_o (b := 2) (by omega) z
    have e : ss_entry S (nI n) (nI i) x = (-102, S) := by
      unfold ss_entry
      simp only [ev, evk]
      rw [if_pos ⟨nI_pos' i1, z2⟩]
    rw [e] at hK
    exact hK
  · have e : ss_entry S v p x = (-101, S) := by unfold ss_entry; simp only [ev]
    rw [e] at hK
    exact hK
theorem cc_shared {v u : Int32} (ok : ss_ok S c) (r : cp_rep S h) {K : Int32 → tv_AH → Prop} (hK : K (ss_shared S v u).1 h) : tv_CI ad (d + 3) yX2_shared [.ref (ad 0), .int v, .int u] h K := by
  obtain ⟨o1, o2, o3, o4, o5, P, o6, o7⟩ := id ok
  refine nX2_shared _ _ h (ct_isVersion (d := d + 1) (S := S) r.2.1 ⟨o2.1, o2.2.1⟩ (fun n hn en ev => tv_c1 ?_) (fun ev => tv_c0 ?_))
  · refine ct_isVersion (d := d + 1) (S := S) r.2.1 ⟨o2.1, o2.2.1⟩ (fun m hm em evm => tv_b1 ?_) (fun evm => tv_b0 ?_)
    · have e : ss_shared S v u = (nI (sp_shr (ss_v S n).2 (ss_v S m).2), S) := by unfold ss_shared; simp only [ev, evm]
      rw [e] at hK
      subst en em
      have kn := r.v hn
      have vn := ok.v hn
      have km := r.v hm
      have vm := ok.v hm
      have n96 := sp_N_len (f := ss_f S) (w := ss_w S) vn.1.1
      have ln := vn.2.2.1
      rw [tv_nc n]
      refine ⟨pk_in n 20 (by omega), ?_⟩
      have H : ∀ t i, i + t = (ss_v S n).2.length → tv_Wp ad RX2 cX2_shared 6 (some .int) (d + 2) (tv_pI K) 32 [(0, .ref (ad 0)), (2, .int (nI m)), (3, .ref (ad (tv_tp (h.2.2 1 n)))), (4, .int (nI (((ss_v S n).2.take i).filter (fun i => (ss_v S m).2.contains i)).length)), (5, .int (nI i))] [] h := by
        intro t
        induction t with
        | zero =>
          intro i hi
          refine bX2_shared_32 _ _ _ _ h ?_
          rw [kn.2.1.1, ← ln]
          refine pk_le (ss_v S n).2.length i (fun _ => ?_) (fun c => absurd c (by omega))
          rw [show i = (ss_v S n).2.length by omega, List.take_length]
          exact hK
        | succ t ih =>
          intro i hi
          refine bX2_shared_32 _ _ _ _ h ?_
          rw [kn.2.1.1, ← ln, tv_nc m]
          refine pk_le (ss_v S n).2.length i (fun c => absurd c (by omega)) (fun _ => ⟨pk_in m 20 (by omega), ?_⟩)
          have cc := sp_tkf (l := (ss_v S n).2) (p := fun i => (ss_v S m).2.contains i) (show i < (ss_v S n).2.length by omega)
          refine ct_hasNodeOf (d := d) o1 km kn vm.1 vm.2.1 vn.1 vn.2.1 vm.2.2.1 vn.2.2.1 (fun i hi => Nat.lt_trans (vm.2.2.2 i hi) (by omega)) (fun i hi => Nat.lt_trans (vn.2.2.2 i hi) (by omega)) (show i < (ss_v S n).2.length by omega) P (o6 m hm) (o6 n hn) ?_
          rw [nI_1, nI_1]
          have ihn := ih (i + 1) (by omega)
          rw [cc] at ihn
          by_cases g : (ss_v S m).2.contains (sp_id (ss_v S n).2 i) = true
          · rw [if_pos g] at ihn
            rw [if_pos g]
            exact tv_c1 ihn
          · rw [if_neg g, Nat.add_zero] at ihn
            rw [if_neg g]
            exact tv_c0 ihn
      exact H (ss_v S n).2.length 0 (by omega)
    · have e : ss_shared S v u = (-101, S) := by unfold ss_shared; simp only [ev, evm]
      rw [e] at hK
      exact hK
  · have e : ss_shared S v u = (-101, S) := by unfold ss_shared; simp only [ev]
    rw [e] at hK
    exact hK
theorem cc_two {v u x : Int32} (ok : ss_ok S c) (r : cp_rep S h) {K : Int32 → tv_AH → Prop} (hK : K (ss_two S v u x).1 h) : tv_CI ad (d + 3) yX2_two [.ref (ad 0), .int v, .int u, .int x] h K := by
  have o2 := ok.2.1
  refine nX2_two _ _ _ h (ct_isVersion (d := d + 1) (S := S) r.2.1 ⟨o2.1, o2.2.1⟩ (fun n hn en ev => tv_c1 ?_) (fun ev => tv_c0 ?_))
  · refine ct_isVersion (d := d + 1) (S := S) r.2.1 ⟨o2.1, o2.2.1⟩ (fun m hm em evm => tv_b1 ?_) (fun evm => tv_b0 ?_)
    · subst en em
      have kn := r.v hn
      have vn := ok.v hn
      have km := r.v hm
      have vm := ok.v hm
      have l1 := vn.1.1
      have l2 := vm.1.1
      have sym := sp_inb_sym vn.2.1 vm.2.1
      have i1 := sp_inb_le (ss_v S n).1 (ss_v S m).1
      have i2 := sp_inb_le (ss_v S m).1 (ss_v S n).1
      have a1 := sp_alk_inb (ss_v S n).1 (ss_v S m).1 vn.1
      have go : ∀ k, sp_rg x 4 = some k → K (nI (sp_tw2 (ss_v S n).1 (ss_v S m).1 k)) h := fun k evk => by
        have e : ss_two S (nI n) (nI m) x = (nI (sp_tw2 (ss_v S n).1 (ss_v S m).1 k), S) := by unfold ss_two; simp only [ev, evm, evk]
        rw [e] at hK
        exact hK
      rw [tv_nc n, tv_nc m]
      refine ⟨pk_in n 20 (by omega), pk_in m 20 (by omega), ct_keysAlsoIn (d := d) kn.1 km.1 vn.1 vm.1 (ct_pairsAlsoIn (d := d) kn.1 km.1 vn.1 vm.1 ?_)⟩
      rw [kn.1.1, km.1.1]
      refine ⟨fun z => ?_, fun z => go 1 (sp_rg_t 1 (by omega) (by omega) z).2, fun z => ?_, fun z => ?_, fun z => ?_, fun z => ?_⟩
      · have g := go 0 (sp_rg_t 0 (by omega) (by omega) z).2
        unfold sp_tw2 at g
        rw [if_pos rfl] at g
        refine tv_ne (sp_alk (ss_v S n).1 (ss_v S m).1) (ss_v S n).1.length (fun q => ?_) (fun q => tv_ne (sp_alk (ss_v S n).1 (ss_v S m).1) (ss_v S m).1.length (fun q2 => ?_) (fun q2 => ?_))
        · rw [if_neg (fun y => q y.1)] at g
          exact g
        · rw [if_neg (fun y => q2 y.2)] at g
          exact g
        · rw [if_pos ⟨q, q2⟩] at g
          exact g
      · rw [pk_sub a1]
        exact go 2 (sp_rg_t 2 (by omega) (by omega) z).2
      · rw [pk_sub i1]
        exact go 3 (sp_rg_t 3 (by omega) (by omega) z).2
      · rw [pk_sub (by omega)]
        exact go 4 (sp_rg_t 4 (by omega) (by omega) z).2
      · have evk := sp_rg_o (b := 4) (by omega) z
        have e : ss_two S (nI n) (nI m) x = (-102, S) := by unfold ss_two; simp only [ev, evm, evk]
        rw [e] at hK
        exact hK
    · have e : ss_two S v u x = (-101, S) := by unfold ss_two; simp only [ev, evm]
      rw [e] at hK
      exact hK
  · have e : ss_two S v u x = (-101, S) := by unfold ss_two; simp only [ev]
    rw [e] at hK
    exact hK
theorem cc_count {x : Int32} (ok : ss_ok S c) (r : cp_rep S h) {K : Int32 → tv_AH → Prop} (hK : K (ss_count S x).1 h) : tv_CI ad (d + 2) yX2_count [.ref (ad 0), .int x] h K := by
  obtain ⟨r1, r2, r3, r4, r5, r6, r7⟩ := id r
  have go : ∀ k, sp_rg x 8 = some k → K (nI (sp_count S k)) h := fun k evk => by
    have e : ss_count S x = (nI (sp_count S k), S) := by unfold ss_count; simp only [evk]
    rw [e] at hK
    exact hK
  refine nX2_count _ h ?_
  rw [r2, r6.1, r5.1, r6.2.1, r6.2.2, r1.1, r1.2]
  refine ⟨fun z => go 0 (sp_rg_t 0 (by omega) (by omega) z).2, fun z => go 1 (sp_rg_t 1 (by omega) (by omega) z).2, fun z => ?_, fun z => go 3 (sp_rg_t 3 (by omega) (by omega) z).2, fun z => go 4 (sp_rg_t 4 (by omega) (by omega) z).2, fun z => go 5 (sp_rg_t 5 (by omega) (by omega) z).2, fun z => ?_, fun z => go 7 (sp_rg_t 7 (by omega) (by omega) z).2, fun z => go 8 (sp_rg_t 8 (by omega) (by omega) z).2, fun z => ?_⟩
  · exact ct_differentNodes (d := d) r2 ok.2.1.2.1 (fun v hv => (r4 v hv).2) (go 2 (sp_rg_t 2 (by omega) (by omega) z).2)
  · have g := go 6 (sp_rg_t 6 (by omega) (by omega) z).2
    cases hed : ss_ed S with
    | none =>
      rw [r.no hed]
      have e : sp_count S 6 = 0 := by unfold sp_count; simp [hed]
      rw [e] at g
      exact tv_c0 g
    | some t =>
      obtain ⟨V, own, mi⟩ := t
      rw [(r.ed hed).1]
      have e : sp_count S 6 = 1 := by unfold sp_count; simp [hed]
      rw [e] at g
      exact tv_c1 g
  · have evk := sp_rg_o (b := 8) (by omega) z
    have e : ss_count S x = (-102, S) := by unfold ss_count; simp only [evk]
    rw [e] at hK
    exact hK
end CCD
