/-! BOTH SIDES BESIDE EACH OTHER: a call of the component, then the same of the reference: the same answer, and both hold the next state -/
def lw_Inv (S : sp_S) (c : Nat) (h : tv_AH) : Prop := ss_ok S c ∧ cp_rep S h ∧ md_rep S h
section LWP
variable {ad : Nat → Nat} {c : Nat} {h h' : tv_AH} {S : sp_S}
theorem md_rep.lo (r : md_rep S h) (a : cp_lo h h') : md_rep S h' := by
  obtain ⟨r1, r2, r3, r4, r5, r6⟩ := r
  refine ⟨⟨by rw [a _ _ (by omega)]; exact r1.1, by rw [a _ _ (by omega)]; exact r1.2.1, r1.2.2⟩, by rw [a _ _ (by omega)]; exact r2, fun v hv => (r3 v hv).cg (fun q i z => a q i (by unfold md_rE md_rN at z; omega)), ⟨by rw [a _ _ (by omega)]; exact r4.1, fun i hi => by rw [a _ _ (by omega)]; exact r4.2 i hi⟩, ⟨by rw [a _ _ (by omega)]; exact r5.1, by rw [a _ _ (by omega)]; exact r5.2.1, by rw [a _ _ (by omega)]; exact r5.2.2⟩, ?_⟩
  unfold md_ed at r6 ⊢
  cases he : ss_ed S with
  | none =>
    rw [he] at r6
    obtain ⟨k1, E0, k2, k3⟩ := r6
    exact ⟨by rw [a _ _ (by omega)]; exact k1, E0, k2.cg k3.1 (fun q i z => a q i (by unfold md_rE at z; omega)), k3⟩
  | some t =>
    obtain ⟨V, own, mi⟩ := t
    rw [he] at r6
    obtain ⟨k1, k2, k3⟩ := r6
    exact ⟨by rw [a _ _ (by omega)]; exact k1, by rw [a _ _ (by omega)]; exact k2, k3.cg (fun q i z => a q i (by unfold md_rE md_rN at z; omega))⟩
theorem cp_rep.hi0 (r : cp_rep S h) (a1 : ∀ q i, q < 400 → h'.1 q i = h.1 q i) (a2 : ∀ q i, q < 400 → h'.2.1 q i = h.2.1 q i) (a3 : h'.2.2 = h.2.2) : cp_rep S h' := by
  have kv : ∀ (f w : Nat) (j : Fin 22) (V : sp_V), ct_V f w j V h → ct_V f w j V h' := fun f w j V x => x.cg (fun q i z => a1 q i (ct_rO_lt (ct_rT_O z)).2) (fun q i z => a2 q i (ct_rO_lt (ct_rJ_O z)).2)
  obtain ⟨r1, r2, r3, r4, r5, r6, r7⟩ := r
  refine ⟨⟨by rw [a1 _ _ (by omega)]; exact r1.1, by rw [a1 _ _ (by omega)]; exact r1.2⟩, by rw [a1 _ _ (by omega)]; exact r2, r3.cg a3, fun v hv => ?_, ⟨by rw [a1 _ _ (by omega)]; exact r5.1, fun i hi => by rw [a1 _ _ (by omega)]; exact r5.2 i hi⟩, ⟨by rw [a1 _ _ (by omega)]; exact r6.1, by rw [a1 _ _ (by omega)]; exact r6.2.1, by rw [a1 _ _ (by omega)]; exact r6.2.2⟩, ?_⟩
  · rw [a3]
    have := ct_tp (h.2.2 1 v)
    exact ⟨kv _ _ _ _ (r4 v hv).1, by rw [a1 _ _ (by omega)]; exact (r4 v hv).2⟩
  · unfold cp_ed at r7 ⊢
    cases he : ss_ed S with
    | none =>
      rw [he] at r7
      show h'.1 0 9 = 0
      rw [a1 _ _ (by omega)]
      exact r7
    | some t =>
      obtain ⟨V, own, mi⟩ := t
      rw [he] at r7
      obtain ⟨k1, k2, k3, k4⟩ := r7
      exact ⟨by rw [a1 _ _ (by omega)]; exact k1, by rw [a1 _ _ (by omega)]; exact k2, by rw [a1 _ _ (by omega)]; exact k3, by rw [a3]; exact kv _ _ _ _ k4⟩
theorem cp_rep.hi (r : cp_rep S h) (a : tv_ag md_hi h h') : cp_rep S h' := r.hi0 (fun q i z => a.2 q i (by unfold md_hi; omega)) (fun q i z => by rw [a.1]) (by rw [a.1])
theorem ss_sym (ok : ss_ok S c) : ∀ n m, n < (ss_vs S).length → m < (ss_vs S).length → sp_inb (ss_v S n).1 (ss_v S m).1 = sp_inb (ss_v S m).1 (ss_v S n).1 := fun n m hn hm => sp_inb_sym (ok.v hn).2.1 (ok.v hm).2.1
theorem lp_put {v x y : Int32} (I : lw_Inv S c h) (hc : c < 512) : tv_CI ad 30 yX2_put [.ref (ad 0), .int v, .int x, .int y] h (fun r h1 => tv_CI ad 30 yX3_put [.ref (ad 400), .int v, .int x, .int y] h1 (fun r' h2 => r = r' ∧ ∃ S', lw_Inv S' (c + 1) h2)) := by
  obtain ⟨ok, r, k⟩ := I
  exact cc_put (d := 10) ok r (fun h1 r1 l1 => mt_put (d := 23) ok (k.lo l1) (fun h2 k2 a2 => ⟨rfl, _, ss_put_ok ok hc, r1.hi a2, k2⟩))
theorem lp_remove {v x : Int32} (I : lw_Inv S c h) (hc : c < 512) : tv_CI ad 30 yX2_remove [.ref (ad 0), .int v, .int x] h (fun r h1 => tv_CI ad 30 yX3_remove [.ref (ad 400), .int v, .int x] h1 (fun r' h2 => r = r' ∧ ∃ S', lw_Inv S' (c + 1) h2)) := by
  obtain ⟨ok, r, k⟩ := I
  exact cc_remove (d := 10) ok r (fun h1 r1 l1 => mt_remove (d := 23) ok (k.lo l1) (fun h2 k2 a2 => ⟨rfl, _, ss_remove_ok ok hc, r1.hi a2, k2⟩))
theorem lp_both {v x y : Int32} (I : lw_Inv S c h) (hc : c < 512) : tv_CI ad 30 yX2_both [.ref (ad 0), .int v, .int x, .int y] h (fun r h1 => tv_CI ad 30 yX3_both [.ref (ad 400), .int v, .int x, .int y] h1 (fun r' h2 => r = r' ∧ ∃ S', lw_Inv S' (c + 1) h2)) := by
  obtain ⟨ok, r, k⟩ := I
  exact cc_both (d := 10) ok r (fun h1 r1 l1 => mt_both (d := 23) ok (k.lo l1) (ss_sym ok) (fun h2 k2 a2 => ⟨rfl, _, ss_both_ok ok hc, r1.hi a2, k2⟩))
theorem lp_chosen {v x y : Int32} (I : lw_Inv S c h) (hc : c < 512) : tv_CI ad 30 yX2_chosen [.ref (ad 0), .int v, .int x, .int y] h (fun r h1 => tv_CI ad 30 yX3_chosen [.ref (ad 400), .int v, .int x, .int y] h1 (fun r' h2 => r = r' ∧ ∃ S', lw_Inv S' (c + 1) h2)) := by
  obtain ⟨ok, r, k⟩ := I
  exact cc_chosen (d := 10) ok r (fun h1 r1 l1 => mt_chosen (d := 23) ok (k.lo l1) (fun h2 k2 a2 => ⟨rfl, _, ss_chosen_ok ok hc, r1.hi a2, k2⟩))
theorem lp_forget (I : lw_Inv S c h) (hc : c < 512) : tv_CI ad 30 yX2_forget [.ref (ad 0)] h (fun r h1 => tv_CI ad 30 yX3_forget [.ref (ad 400)] h1 (fun r' h2 => r = r' ∧ ∃ S', lw_Inv S' (c + 1) h2)) := by
  obtain ⟨ok, r, k⟩ := I
  exact cc_forget (d := 29) ok r (fun h1 r1 l1 => mt_forget (d := 29) ok (k.lo l1) (fun h2 k2 a2 => ⟨rfl, _, ss_forget_ok ok hc, r1.hi a2, k2⟩))
theorem lp_begin {v : Int32} (I : lw_Inv S c h) (hc : c < 512) : tv_CI ad 30 yX2_begin [.ref (ad 0), .int v] h (fun r h1 => tv_CI ad 30 yX3_begin [.ref (ad 400), .int v] h1 (fun r' h2 => r = r' ∧ ∃ S', lw_Inv S' (c + 1) h2)) := by
  obtain ⟨ok, r, k⟩ := I
  exact cc_begin (d := 10) ok r (fun h1 r1 l1 => mt_begin (d := 26) ok (k.lo l1) (fun h2 k2 a2 => ⟨rfl, _, ss_begin_ok ok hc, r1.hi a2, k2⟩))
theorem lp_set {v x : Int32} (I : lw_Inv S c h) (hc : c < 512) : tv_CI ad 30 yX2_set [.ref (ad 0), .int v, .int x] h (fun r h1 => tv_CI ad 30 yX3_set [.ref (ad 400), .int v, .int x] h1 (fun r' h2 => r = r' ∧ ∃ S', lw_Inv S' (c + 1) h2)) := by
  obtain ⟨ok, r, k⟩ := I
  exact cc_set (d := 9) ok r (fun h1 r1 l1 => mt_set (d := 22) ok (k.lo l1) (fun h2 k2 a2 => ⟨rfl, _, ss_set_ok ok hc, r1.hi a2, k2⟩))
theorem lp_unset {v : Int32} (I : lw_Inv S c h) (hc : c < 512) : tv_CI ad 30 yX2_unset [.ref (ad 0), .int v] h (fun r h1 => tv_CI ad 30 yX3_unset [.ref (ad 400), .int v] h1 (fun r' h2 => r = r' ∧ ∃ S', lw_Inv S' (c + 1) h2)) := by
  obtain ⟨ok, r, k⟩ := I
  exact cc_unset (d := 9) ok r (fun h1 r1 l1 => mt_unset (d := 22) ok (k.lo l1) (fun h2 k2 a2 => ⟨rfl, _, ss_unset_ok ok hc, r1.hi a2, k2⟩))
theorem lp_seal (I : lw_Inv S c h) (hc : c < 512) : tv_CI ad 30 yX2_seal [.ref (ad 0)] h (fun r h1 => tv_CI ad 30 yX3_seal [.ref (ad 400)] h1 (fun r' h2 => r = r' ∧ ∃ S', lw_Inv S' (c + 1) h2)) := by
  obtain ⟨ok, r, k⟩ := I
  exact cc_seal (d := 25) ok r (fun h1 r1 l1 => mt_seal (d := 26) ok (k.lo l1) (fun h2 k2 a2 => ⟨rfl, _, ss_seal_ok ok hc, r1.hi a2, k2⟩))
theorem lp_leave (I : lw_Inv S c h) (hc : c < 512) : tv_CI ad 30 yX2_leave [.ref (ad 0)] h (fun r h1 => tv_CI ad 30 yX3_leave [.ref (ad 400)] h1 (fun r' h2 => r = r' ∧ ∃ S', lw_Inv S' (c + 1) h2)) := by
  obtain ⟨ok, r, k⟩ := I
  exact cc_leave (d := 28) ok r (fun h1 r1 l1 => mt_leave (d := 28) ok (k.lo l1) (fun h2 k2 a2 => ⟨rfl, _, ss_leave_ok ok hc, r1.hi a2, k2⟩))
theorem ss_edit_2 {v : Int32} : (ss_edit S v).2 = S := by
  unfold ss_edit
  (repeat' split) <;> rfl
theorem lp_edit {v : Int32} (I : lw_Inv S c h) (hc : c < 512) : tv_CI ad 30 yX2_edit [.ref (ad 0), .int v] h (fun r h1 => tv_CI ad 30 yX3_edit [.ref (ad 400), .int v] h1 (fun r' h2 => r = r' ∧ ∃ S', lw_Inv S' (c + 1) h2)) := by
  obtain ⟨ok, r, k⟩ := I
  refine cc_editq (d := 28) ok r (mt_edit (d := 27) k (fun h2 k2 a2 => ⟨rfl, S, ok.up hc, r.hi a2, ?_⟩))
  rw [ss_edit_2] at k2
  exact k2
theorem ss_get_2 {v x : Int32} : (ss_get S v x).2 = S := by
  unfold ss_get
  (repeat' split) <;> rfl
theorem lp_get {v x : Int32} (I : lw_Inv S c h) (hc : c < 512) : tv_CI ad 30 yX2_get [.ref (ad 0), .int v, .int x] h (fun r h1 => tv_CI ad 30 yX3_get [.ref (ad 400), .int v, .int x] h1 (fun r' h2 => r = r' ∧ ∃ S', lw_Inv S' (c + 1) h2)) := by
  obtain ⟨ok, r, k⟩ := I
  refine cc_get (d := 28) ok r (mt_get (d := 26) ok k (fun h2 k2 a2 => ⟨rfl, S, ok.up hc, r.hi a2, ?_⟩))
  rw [ss_get_2] at k2
  exact k2
theorem ss_about_2 {v x : Int32} : (ss_about S v x).2 = S := by
  unfold ss_about
  (repeat' split) <;> rfl
theorem lp_about {v x : Int32} (I : lw_Inv S c h) (hc : c < 512) : tv_CI ad 30 yX2_about [.ref (ad 0), .int v, .int x] h (fun r h1 => tv_CI ad 30 yX3_about [.ref (ad 400), .int v, .int x] h1 (fun r' h2 => r = r' ∧ ∃ S', lw_Inv S' (c + 1) h2)) := by
  obtain ⟨ok, r, k⟩ := I
  refine cc_about (d := 28) ok r (mt_about (d := 27) ok k (fun h2 k2 a2 => ⟨rfl, S, ok.up hc, r.hi a2, ?_⟩))
  rw [ss_about_2] at k2
  exact k2
theorem ss_node_2 {v x y : Int32} : (ss_node S v x y).2 = S := by
  unfold ss_node
  (repeat' split) <;> rfl
theorem lp_node {v x y : Int32} (I : lw_Inv S c h) (hc : c < 512) : tv_CI ad 30 yX2_node [.ref (ad 0), .int v, .int x, .int y] h (fun r h1 => tv_CI ad 30 yX3_node [.ref (ad 400), .int v, .int x, .int y] h1 (fun r' h2 => r = r' ∧ ∃ S', lw_Inv S' (c + 1) h2)) := by
  obtain ⟨ok, r, k⟩ := I
  refine cc_node (d := 28) ok r (mt_node (d := 25) ok k (fun h2 k2 a2 => ⟨rfl, S, ok.up hc, r.hi a2, ?_⟩))
  rw [ss_node_2] at k2
  exact k2
theorem ss_entry_2 {v x y : Int32} : (ss_entry S v x y).2 = S := by
  unfold ss_entry
  (repeat' split) <;> rfl
theorem lp_entry {v x y : Int32} (I : lw_Inv S c h) (hc : c < 512) : tv_CI ad 30 yX2_entry [.ref (ad 0), .int v, .int x, .int y] h (fun r h1 => tv_CI ad 30 yX3_entry [.ref (ad 400), .int v, .int x, .int y] h1 (fun r' h2 => r = r' ∧ ∃ S', lw_Inv S' (c + 1) h2)) := by
  obtain ⟨ok, r, k⟩ := I
  refine cc_entry (d := 28) ok r (mt_entry (d := 26) ok k (fun h2 k2 a2 => ⟨rfl, S, ok.up hc, r.hi a2, ?_⟩))
  rw [ss_entry_2] at k2
  exact k2
theorem ss_shared_2 {v x : Int32} : (ss_shared S v x).2 = S := by
  unfold ss_shared
  (repeat' split) <;> rfl
theorem lp_shared {v x : Int32} (I : lw_Inv S c h) (hc : c < 512) : tv_CI ad 30 yX2_shared [.ref (ad 0), .int v, .int x] h (fun r h1 => tv_CI ad 30 yX3_shared [.ref (ad 400), .int v, .int x] h1 (fun r' h2 => r = r' ∧ ∃ S', lw_Inv S' (c + 1) h2)) := by
  obtain ⟨ok, r, k⟩ := I
  refine cc_shared (d := 27) ok r (mt_shared (d := 27) ok k (fun h2 k2 a2 => ⟨rfl, S, ok.up hc, r.hi a2, ?_⟩))
  rw [ss_shared_2] at k2
  exact k2
theorem ss_two_2 {v x y : Int32} : (ss_two S v x y).2 = S := by
  unfold ss_two
  (repeat' split) <;> rfl
theorem lp_two {v x y : Int32} (I : lw_Inv S c h) (hc : c < 512) : tv_CI ad 30 yX2_two [.ref (ad 0), .int v, .int x, .int y] h (fun r h1 => tv_CI ad 30 yX3_two [.ref (ad 400), .int v, .int x, .int y] h1 (fun r' h2 => r = r' ∧ ∃ S', lw_Inv S' (c + 1) h2)) := by
  obtain ⟨ok, r, k⟩ := I
  refine cc_two (d := 27) ok r (mt_two (d := 24) ok k (ss_sym ok) (fun h2 k2 a2 => ⟨rfl, S, ok.up hc, r.hi a2, ?_⟩))
  rw [ss_two_2] at k2
  exact k2
theorem ss_hash_2 {v : Int32} : (ss_hash S v).2 = S := by
  unfold ss_hash
  (repeat' split) <;> rfl
theorem lp_hash {v : Int32} (I : lw_Inv S c h) (hc : c < 512) : tv_CI ad 30 yX2_hash [.ref (ad 0), .int v] h (fun r h1 => tv_CI ad 30 yX3_hash [.ref (ad 400), .int v] h1 (fun r' h2 => r = r' ∧ ∃ S', lw_Inv S' (c + 1) h2)) := by
  obtain ⟨ok, r, k⟩ := I
  refine cc_hash (d := 28) ok r (fun h1 r1 l1 => mt_hash (d := 28) (k.lo l1) (fun h2 k2 a2 => ⟨rfl, S, ok.up hc, ?_, ?_⟩))
  · rw [ss_hash_2] at r1; exact r1.hi a2
  · rw [ss_hash_2] at k2; exact k2
theorem lp_blank (I : lw_Inv S c h) (hc : c < 512) : tv_CI ad 30 yX2_blank [.ref (ad 0)] h (fun r h1 => tv_CI ad 30 yX3_blank [.ref (ad 400)] h1 (fun r' h2 => r = r' ∧ ∃ S', lw_Inv S' (c + 1) h2)) := by
  obtain ⟨ok, r, k⟩ := I
  exact cc_blank (d := 29) r (fun h1 r1 l1 => mt_blank (d := 29) ok (k.lo l1) (fun h2 k2 a2 => ⟨rfl, _, ss_blank_ok ok hc, r1.hi a2, k2⟩))
theorem lp_letter {v : Int32} (I : lw_Inv S c h) (hc : c < 512) : tv_CI ad 30 yX2_letter [.ref (ad 0), .int v] h (fun r h1 => tv_CI ad 30 yX3_letter [.ref (ad 400), .int v] h1 (fun r' h2 => r = r' ∧ ∃ S', lw_Inv S' (c + 1) h2)) := by
  obtain ⟨ok, r, k⟩ := I
  exact cc_letter (d := 29) ok r (fun h1 r1 l1 => mt_letter (d := 28) ok (k.lo l1) (fun h2 k2 a2 => ⟨rfl, _, ss_letter_ok ok hc, r1.hi a2, k2⟩))
theorem lp_scheme {v x : Int32} (I : lw_Inv S c h) (hc : c < 512) : tv_CI ad 30 yX2_scheme [.ref (ad 0), .int v, .int x] h (fun r h1 => tv_CI ad 30 yX3_scheme [.ref (ad 400), .int v, .int x] h1 (fun r' h2 => r = r' ∧ ∃ S', lw_Inv S' (c + 1) h2)) := by
  obtain ⟨ok, r, k⟩ := I
  exact cc_scheme (d := 29) ok r (fun h1 r1 l1 => mt_scheme (d := 28) ok (k.lo l1) (fun h2 k2 a2 => ⟨rfl, _, ss_scheme_ok ok hc, r1.hi a2, k2⟩))
theorem ss_count_2 {v : Int32} : (ss_count S v).2 = S := by
  unfold ss_count
  (repeat' split) <;> rfl
theorem lp_count {v : Int32} (I : lw_Inv S c h) (hc : c < 512) : tv_CI ad 30 yX2_count [.ref (ad 0), .int v] h (fun r h1 => tv_CI ad 30 yX3_count [.ref (ad 400), .int v] h1 (fun r' h2 => r = r' ∧ ∃ S', lw_Inv S' (c + 1) h2)) := by
  obtain ⟨ok, r, k⟩ := I
  refine cc_count (d := 28) ok r (mt_count (d := 26) ok k (fun h2 k2 a2 => ⟨rfl, S, ok.up hc, r.hi a2, ?_⟩))
  rw [ss_count_2] at k2
  exact k2
theorem lp_fault (I : lw_Inv S c h) (hc : c < 512) : tv_CI ad 30 yX2_fault [.ref (ad 0)] h (fun r h1 => tv_CI ad 30 yX3_fault [.ref (ad 400)] h1 (fun r' h2 => r = r' ∧ ∃ S', lw_Inv S' (c + 1) h2)) := by
  obtain ⟨ok, r, k⟩ := I
  refine cc_fault (d := 27) ok r (fun h1 r1 l1 => mt_fault (d := 26) ok (k.lo l1) (fun h2 k2 a2 => ⟨rfl, S, ok.up hc, ?_, ?_⟩))
  · exact cp_rep.hi (S := S) r1 a2
  · exact k2
theorem lp_read (I : lw_Inv S c h) (hc : c < 512) : tv_CI ad 30 yX2_read [.ref (ad 0)] h (fun r h1 => tv_CI ad 30 yX3_read [.ref (ad 400)] h1 (fun r' h2 => r = r' ∧ ∃ S', lw_Inv S' (c + 1) h2)) := by
  obtain ⟨ok, r, k⟩ := I
  exact cc_read (d := 10) ok hc r (fun h1 r1 l1 => mt_read (d := 21) ok hc (k.lo l1) (fun h2 k2 a2 => ⟨rfl, _, ss_read_ok ok hc, r1.hi a2, k2⟩))
theorem lp_digest (I : lw_Inv S c h) (hc : c < 512) : tv_CJ ad 30 yX2_digest [.ref (ad 0)] h (fun r h1 => tv_CJ ad 30 yX3_digest [.ref (ad 400)] h1 (fun r' h2 => r = r' ∧ ∃ S', lw_Inv S' (c + 1) h2)) := by
  obtain ⟨ok, r, k⟩ := I
  exact cc_digest (d := 25) ok r (mt_digest (d := 24) ok k (fun h2 k2 a2 => ⟨rfl, S, ok.up hc, r.hi0 (fun q i z => by rw [a2.1]) (fun q i z => by rw [a2.2.2 q (by omega)]) a2.2.1, k2⟩))
end LWP
