/-! THE REFERENCE: the numbers of an edit's nodes -/
section MDG
variable {ad : Nat → Nat} {d : Nat} {h : tv_AH} {f w own : Nat} {E E' : List (Nat × Nat)} {ids : List Nat}
theorem tv_2016 (i : Nat) : (2016 : Int32) + nI i = nI (2016 + i) := by rw [show (2016 : Int32) = nI 2016 from rfl, nI_add]
theorem tv_1920 (i : Nat) : (1920 : Int32) + nI i = nI (1920 + i) := by rw [show (1920 : Int32) = nI 1920 from rfl, nI_add]
theorem tv_low {g l : Nat} (hg : g < 2 ^ 30) (hl : l ≤ 6) : nI g &&& (((1 : Int32) <<< ((5 * nI l) &&& 31)) - 1) = nI (g % 32 ^ l) := by
  rw [show (5 : Int32) = nI 5 from rfl, pk_mul, tv_mask (by omega)]
  have h2 : 2 ^ (5 * l) ≤ 2 ^ 30 := Nat.pow_le_pow_right (by decide) (by omega)
  have h1 := Nat.two_pow_pos (5 * l)
  rw [pk_andN (by omega) (5 * l) (pk_tn (by omega)), show (32 : Nat) ^ l = 2 ^ (5 * l) by rw [Nat.pow_mul]]
theorem sp_kd_lt {g : Nat → Nat} {a b : Nat} : sp_kd g a b < 3 := by unfold sp_kd; split; (split <;> omega); omega
theorem md_isStead {i k : Nat} (s : md_sc f w h) (hb : sp_eb E) (hb' : sp_eb E') (hN : md_N 20 (sp_N f w E) h) (hN' : md_N 21 (sp_N f w E') h) (hi : i < (sp_N f w E').length) (hk : k < (sp_N f w E).length) (hkd : (sp_n (sp_N f w E) k).1 = (sp_n (sp_N f w E') i).1) {K : Int32 → tv_AH → Prop} (hK : K (if sp_std f w E' (sp_n (sp_N f w E') i) E (sp_n (sp_N f w E) k) then 1 else 0) h) : tv_CI ad (d + 2) yX3_isStead [.ref (ad 400), .int (nI (2016 + i)), .int (nI (sp_k E' (sp_n (sp_N f w E') i).2.2.1)), .int (nI (1920 + k)), .int (nI (sp_k E (sp_n (sp_N f w E) k).2.2.1))] h K := by
  have hN96 := sp_N_len (f := f) (w := w) hb.1
  have hN96' := sp_N_len (f := f) (w := w) hb'.1
  obtain ⟨o1, o2, o3, o4, o5, o6⟩ := sp_N_ok hi
  obtain ⟨p1, p2, p3, p4, p5, p6⟩ := sp_N_ok hk
  have kx : (sp_n (sp_N f w E') i).1 < 3 := by rw [o6]; exact sp_kd_lt
  obtain ⟨n1, n2, -, -⟩ := hN' i hi
  obtain ⟨-, n2', -, -⟩ := hN k hk
  have kb := (hb'.2 (sp_n (sp_N f w E') i).2.2.1 (by omega)).1
  have kb' := (hb.2 (sp_n (sp_N f w E) k).2.2.1 (by omega)).1
  have e1 : 96 * 21 + i = 2016 + i := by omega
  have e2 : 96 * 20 + k = 1920 + k := by omega
  rw [e1] at n1 n2
  rw [e2] at n2'
  have hK1 : sp_std f w E' (sp_n (sp_N f w E') i) E (sp_n (sp_N f w E) k) → K 1 h := fun c => by rw [if_pos c] at hK; exact hK
  have hK0 : ¬ sp_std f w E' (sp_n (sp_N f w E') i) E (sp_n (sp_N f w E) k) → K 0 h := fun c => by rw [if_neg c] at hK; exact hK
  clear hK
  generalize sp_n (sp_N f w E') i = x at *
  generalize sp_n (sp_N f w E) k = y at *
  have g1 := sp_hash_lt (k := sp_k E' x.2.2.1) s.2.2
  have g2 := sp_hash_lt (k := sp_k E y.2.2.1) s.2.2
  refine nX3_isStead _ _ _ _ h ?_
  rw [tv_nc (2016 + i), tv_nc (1920 + k), n1, n2, n2', nI_toInt (show x.1 < 2 ^ 31 by omega)]
  have hin : vp_in (nI (2016 + i)) 2112 := pk_in (2016 + i) 2112 (by omega)
  have hin' : vp_in (nI (1920 + k)) 2112 := pk_in (1920 + k) 2112 (by omega)
  refine ⟨hin, fun c => ?_, fun c => ?_, fun c => ⟨hin, hin, hin', ?_⟩⟩
  · have c0 : x.1 = 0 := by omega
    have hs : sp_std f w E' x E y ↔ sp_k E' x.2.2.1 = sp_k E y.2.2.1 := by
      unfold sp_std
      rw [if_pos c0]
      exact ⟨fun q => q.2, fun q => ⟨hkd, q⟩⟩
    exact tv_ne (sp_k E' x.2.2.1) (sp_k E y.2.2.1) (fun z => hK0 (fun q => z (hs.mp q))) (fun z => hK1 (hs.mpr z))
  · have c0 : x.1 = 1 := by omega
    have hs : sp_std f w E' x E y ↔ sp_hash f w (sp_k E' x.2.2.1) = sp_hash f w (sp_k E y.2.2.1) := by
      unfold sp_std
      rw [if_neg (show ¬ x.1 = 0 by omega), if_pos c0]
      exact ⟨fun q => q.2, fun q => ⟨hkd, q⟩⟩
    exact md_hashOf s kb (md_hashOf s kb' (tv_ne (sp_hash f w (sp_k E' x.2.2.1)) (sp_hash f w (sp_k E y.2.2.1)) (fun z => hK0 (fun q => z (hs.mp q))) (fun z => hK1 (hs.mpr z))))
  · have hs : sp_std f w E' x E y ↔ (x.2.1 = y.2.1 ∧ sp_hash f w (sp_k E' x.2.2.1) % 32 ^ x.2.1 = sp_hash f w (sp_k E y.2.2.1) % 32 ^ x.2.1) := by
      unfold sp_std
      rw [if_neg (show ¬ x.1 = 0 by omega), if_neg (show ¬ x.1 = 1 by omega)]
      exact ⟨fun q => q.2, fun q => ⟨hkd, q⟩⟩
    refine tv_ne x.2.1 y.2.1 (fun z => ?_) (fun z => ?_)
    · exact hK0 (fun q => z (hs.mp q).1)
    · refine md_hashOf s kb (md_hashOf s kb' ?_)
      rw [tv_low g1 o5, tv_low g2 o5]
      have l1 : sp_hash f w (sp_k E' x.2.2.1) % 32 ^ x.2.1 ≤ sp_hash f w (sp_k E' x.2.2.1) := Nat.mod_le _ _
      have l2 : sp_hash f w (sp_k E y.2.2.1) % 32 ^ x.2.1 ≤ sp_hash f w (sp_k E y.2.2.1) := Nat.mod_le _ _
      exact tv_ne (sp_hash f w (sp_k E' x.2.2.1) % 32 ^ x.2.1) (sp_hash f w (sp_k E y.2.2.1) % 32 ^ x.2.1) (fun r => hK0 (fun q => r (hs.mp q).2)) (fun r => hK1 (hs.mpr ⟨z, r⟩))
theorem md_steadOf {i : Nat} (s : md_sc f w h) (e' : md_E 21 E' h) (hb' : sp_eb E') (hN' : md_N 21 (sp_N f w E') h) (k20 : md_M 20 f w E ids own h) (hi : i < (sp_N f w E').length) {K : Int32 → tv_AH → Prop} (hK : K (sp_oi (sp_fs f w E' (sp_n (sp_N f w E') i) E ids own)) h) : tv_CI ad (d + 3) yX3_steadOf [.ref (ad 400), .int (nI i)] h K := by
  obtain ⟨k1, k2, k3, k4, k5, k6, k7⟩ := k20
  have hN96 := sp_N_len (f := f) (w := w) k2.1
  have hN96' := sp_N_len (f := f) (w := w) hb'.1
  have h24 := k2.1
  have h24' := hb'.1
  obtain ⟨o1, o2, o3, o4, o5, o6⟩ := sp_N_ok hi
  refine nX3_steadOf _ h ?_
  have e1 : 96 * 21 + i = 2016 + i := by omega
  obtain ⟨n1, n2, n3, n4⟩ := hN' i hi
  rw [e1] at n1 n3
  have kx : (sp_n (sp_N f w E') i).1 < 3 := by rw [o6]; exact sp_kd_lt
  rw [tv_2016, tv_nc (2016 + i), n3]
  refine ⟨pk_in (2016 + i) 2112 (by omega), md_keyAt (m := 21) (by omega) (by omega) ?_⟩
  rw [(e'.2 _ (by omega)).1]
  have H : ∀ n k, k + n = (sp_N f w E).length → (∀ j, j < k → ¬ (own ≤ sp_id ids j ∧ sp_std f w E' (sp_n (sp_N f w E') i) E (sp_n (sp_N f w E) j))) → tv_Wp ad RX3 cX3_steadOf 6 (some .int) (d + 2) (tv_pI K) 22 [(0, .ref (ad 400)), (2, .int (nI (2016 + i))), (3, .int (nI (sp_k E' (sp_n (sp_N f w E') i).2.2.1))), (4, .int (nI k))] [] h := by
    intro n
    induction n with
    | zero =>
      intro k hk hne
      refine bX3_steadOf_22 _ _ _ h ?_
      rw [k3]
      refine ⟨pk_in 20 22 (by omega), pk_le (sp_N f w E).length k (fun _ => ?_) (fun q => absurd q (by omega))⟩
      have : sp_fs f w E' (sp_n (sp_N f w E') i) E ids own = none := sp_fst_none.mpr (fun j hj => decide_eq_false (hne j (by omega)))
      rw [this] at hK
      exact hK
    | succ n ih =>
      intro k hk hne
      refine bX3_steadOf_22 _ _ _ h ?_
      rw [k3]
      refine ⟨pk_in 20 22 (by omega), pk_le (sp_N f w E).length k (fun q => absurd q (by omega)) (fun q => ?_)⟩
      have e2 : 96 * 20 + k = 1920 + k := by omega
      obtain ⟨m1, m2, m3, m4⟩ := k4 k q
      have m7 := (k7 k (by omega)).2
      rw [e2] at m1 m3 m7
      obtain ⟨p1, p2, p3, p4, p5, p6⟩ := sp_N_ok q
      have ky : (sp_n (sp_N f w E) k).1 < 3 := by rw [p6]; exact sp_kd_lt
      have next : ¬ (own ≤ sp_id ids k ∧ sp_std f w E' (sp_n (sp_N f w E') i) E (sp_n (sp_N f w E) k)) → tv_Wp ad RX3 cX3_steadOf 6 (some .int) (d + 2) (tv_pI K) 22 [(0, .ref (ad 400)), (2, .int (nI (2016 + i))), (3, .int (nI (sp_k E' (sp_n (sp_N f w E') i).2.2.1))), (4, .int (nI k + 1))] [] h := by
        intro hno
        rw [nI_1]
        refine ih (k + 1) (by omega) (fun j hj => ?_)
        by_cases z : j = k
        · rw [z]; exact hno
        · exact hne j (by omega)
      have hin' : vp_in (nI (1920 + k)) 2112 := pk_in (1920 + k) 2112 (by omega)
      rw [tv_1920, tv_nc (1920 + k), tv_nc (2016 + i), m7, m1, m3, n1]
      refine ⟨hin', fun z => ?_, fun z => ⟨hin', pk_in (2016 + i) 2112 (by omega), ?_⟩⟩
      · refine next (fun t => ?_)
        rw [if_pos t.1] at z
        exact absurd z (by decide)
      · have hown : own ≤ sp_id ids k := Classical.byContradiction fun t => z (by rw [if_neg t])
        refine tv_ne (sp_n (sp_N f w E) k).1 (sp_n (sp_N f w E') i).1 (fun t => next (fun u => t u.2.1)) (fun t => ⟨hin', md_keyAt (m := 20) (by omega) (by omega) ?_⟩)
        rw [(k1.2 _ (by omega)).1]
        refine md_isStead s k2 hb' k4 hN' hi q t ?_
        by_cases c : sp_std f w E' (sp_n (sp_N f w E') i) E (sp_n (sp_N f w E) k)
        · rw [if_pos c]
          refine ⟨fun u => absurd u (by decide), fun _ => ?_⟩
          have : sp_fs f w E' (sp_n (sp_N f w E') i) E ids own = some k := sp_fst_some.mpr ⟨q, decide_eq_true ⟨hown, c⟩, fun j hj => decide_eq_false (hne j hj)⟩
          rw [this] at hK
          exact hK
        · rw [if_neg c]
          exact ⟨fun _ => next (fun u => c u.2), fun u => absurd rfl u⟩
  exact H (sp_N f w E).length 0 (by omega) (fun j hj => absurd hj (by omega))
/-- what tellEdit may change -/
def md_rX (q i : Nat) : Prop := md_rM 20 q i ∨ md_rN 21 q i ∨ md_rP q i ∨ (q = 400 ∧ (i = 7 ∨ i = 6))
theorem md_tellEdit {md mi : Nat} (s : md_sc f w h) (e : md_E 21 E' h) (hb : sp_eb E') (k20 : md_M 20 f w E ids own h) (hmd : h.1 400 7 = nI md) (hmi : h.1 400 6 = nI mi) (hmb : md + 96 ≤ 2 ^ 30) (how : own ≤ md) {K : tv_AH → Prop}
    (hK : ∀ h', md_M 20 f w E' (sp_edn f w E' E ids own md).1 own h' → h'.1 400 7 = nI (sp_edn f w E' E ids own md).2 → md ≤ (sp_edn f w E' E ids own md).2 → h'.1 400 6 = nI (mi + ((sp_edn f w E' E ids own md).2 - md)) → tv_ag md_rX h h' → K h') :
    tv_CV ad (d + 5) yX3_tellEdit [.ref (ad 400)] h K := by
  have hN96 := sp_N_len (f := f) (w := w) hb.1
  have h24 := hb.1
  refine nX3_tellEdit h (md_layNodes (m := 21) (by omega) s e hb (fun h1 c1 n1 z1 a1 => ?_))
  have ag1 : tv_ag (fun q i => md_rT q i ∨ (q = 400 ∧ i = 6)) h h1 := a1.mo (fun q i z => Or.inl (by rcases z with z | z; exact Or.inl z; exact Or.inr (Or.inl z)))
  generalize hL : (sp_N f w E').length = L at *
  let G := fun i md => match sp_fs f w E' (sp_n (sp_N f w E') i) E ids own with
    | some k => (sp_id ids k, md)
    | none => (md, md + 1)
  let go := fun n i md => sp_go L (sp_wd (sp_N f w E')) (fun i => sp_tk f w E' i (E, ids)) G n i md
  have hgo : sp_edn f w E' E ids own md = go (L + 1) 0 md := by
    unfold sp_edn
    rw [hL]
    rfl
  rw [hgo] at hK
  have H : ∀ n i md' (A : List Nat) (h2 : tv_AH), L - i < n → A.length = i → i ≤ L → md ≤ md' → md' ≤ md + i → (A ++ (go n i md').1, (go n i md').2) = go (L + 1) 0 md → md_lp f w E' A own h2 → h2.1 400 7 = nI md' → h2.1 400 6 = nI (mi + (md' - md)) → tv_ag (fun q i => md_rT q i ∨ (q = 400 ∧ i = 6)) h h2 → tv_Wp ad RX3 cX3_tellEdit 5 none (d + 4) (tv_pV K) 8 [(0, .ref (ad 400)), (1, .int (nI i))] [] h2 := by
    intro n
    induction n with
    | zero => intro i md' A h2 hn; exact absurd hn (by omega)
    | succ n ih =>
      intro i md' A h2 hn hA hi hmd1 hmd' hgo2 lp hm2 hi2 ag
      obtain ⟨p1, p2, p3, p4, p5, p6, p7⟩ := id lp
      have kk := k20.ag ag (fun q i r z => z.elim (md_rT_ne (m := 20) (by omega) r) (fun z => by unfold md_rM md_rE md_rN at r; omega))
      have s2 : md_sc f w h2 := s.ag ag (by unfold md_rT md_rN md_rP; omega) (by unfold md_rT md_rN md_rP; omega)
      rw [hL] at p4 p7
      refine bX3_tellEdit_8 _ h2 ?_
      rw [p2, hL]
      refine ⟨pk_in 21 22 (by omega), pk_le L i (fun q => ?_) (fun q => ?_)⟩
      · have hiL : i = L := by omega
        have g1 : go (n + 1) i md' = ([], md') := by
          show (if i < L then _ else _) = _
          rw [if_neg (by omega)]
        rw [g1, List.append_nil] at hgo2
        rw [← hgo2] at hK
        refine md_takeNew (f := f) (w := w) (E := E') (ids := A) (own := own) ⟨p1, hb, by rw [p2], p3, by omega, p5, fun t ht => p6 t ht⟩ (fun h3 k3 a3 => ?_)
        refine hK h3 k3 ?_ hmd1 ?_ ((ag.mo (fun q i z => ?_)).tr (a3.mo (fun q i z => Or.inl z)))
        · rw [a3.2 _ _ (by unfold md_rM md_rE md_rN; omega)]; exact hm2
        · rw [a3.2 _ _ (by unfold md_rM md_rE md_rN; omega)]; exact hi2
        · rcases z with (z | z | z) | z
          · exact Or.inr (Or.inl z)
          · exact Or.inr (Or.inr (Or.inl z))
          · exact Or.inr (Or.inr (Or.inr ⟨z.1, Or.inl z.2⟩))
          · exact Or.inr (Or.inr (Or.inr ⟨z.1, Or.inr z.2⟩))
      · have g1 : go (n + 1) i md' = (match sp_tk f w E' i (E, ids) with
          | some l => (l ++ (go n (i + sp_wd (sp_N f w E') i) md').1, (go n (i + sp_wd (sp_N f w E') i) md').2)
          | none => ((G i md').1 :: (go n (i + 1) (G i md').2).1, (go n (i + 1) (G i md').2).2)) := by
          show (if i < L then _ else _) = _
          rw [if_pos q]
          rfl
        have hiN : i < (sp_N f w E').length := by omega
        have kml := kk.2.2.2.2.1
        have kmN := sp_N_len (f := f) (w := w) kk.2.1.1
        refine md_likeIn (m := 21) (m' := 20) (by omega) (by omega) p1 hb kk.1 kk.2.1 p3 kk.2.2.1 kk.2.2.2.1 hiN ?_
        cases hf1 : sp_fl E' (sp_n (sp_N f w E') i) E (sp_N f w E) with
        | some k =>
          have hk96 : k < 96 := by
            have := (sp_fst_some.mp hf1).1
            omega
          have htk : sp_tk f w E' i (E, ids) = some ((ids.drop k).take (sp_wd (sp_N f w E') i)) := by
            unfold sp_tk
            simp only [hf1]
          obtain ⟨w1, w2, w3⟩ := sp_fl_wd hiN kml hf1
          refine ⟨fun z => absurd z (tv_m1 (by omega)), fun _ => ?_⟩
          refine md_takeAll (m := 21) (m' := 20) (i := i) (k := k) (by omega) (by omega) (by omega) hb p2 p3 hiN rfl (by omega) (fun t ht => by rw [Nat.add_assoc]; exact md_z kk (by omega)) (fun h3 c3 a3 => ?_)
          rw [nI_add]
          have hll := sp_dt_len (A := ids) (k := k) (n := sp_wd (sp_N f w E') i) w1
          refine ih (i + sp_wd (sp_N f w E') i) md' (A ++ (ids.drop k).take (sp_wd (sp_N f w E') i)) h3 (by omega) (by rw [List.length_append, hll, hA]) (by omega) hmd1 (by omega) ?_ ?_ ?_ ?_ ?_
          · rw [← hgo2, g1, htk, List.append_assoc]
          · refine lp.app hb (by rw [hll]; omega) (a3.mo (fun q j z => by rw [hll, hA]; omega)) (fun t ht => ?_) (fun t ht => ?_)
            · rw [hll] at ht
              rw [sp_id_dt ht]
              exact kk.2.2.2.2.2.1 _ (by omega)
            · rw [hll] at ht
              rw [sp_id_dt ht, hA]
              have c := c3 t ht
              rw [show 96 * 21 + i + t = 2016 + i + t by omega, Nat.add_assoc (96 * 20) k t] at c
              rw [c.1, c.2]
              exact kk.2.2.2.2.2.2 (k + t) (by omega)
          · rw [a3.2 _ _ (by omega)]; exact hm2
          · rw [a3.2 _ _ (by omega)]; exact hi2
          · exact ag.tr (a3.mo (fun q j z => by unfold md_rT md_rN; omega))
        | none =>
          have htk : sp_tk f w E' i (E, ids) = none := by
            unfold sp_tk
            simp only [hf1]
          rw [htk] at g1
          refine ⟨fun _ => ?_, fun z => absurd rfl z⟩
          refine md_steadOf s2 p1 hb p3 kk hiN ?_
          cases hfs : sp_fs f w E' (sp_n (sp_N f w E') i) E ids own with
          | some k =>
            obtain ⟨k1, kt, -⟩ := sp_fst_some.mp hfs
            have kown := (of_decide_eq_true kt).1
            have hG : G i md' = (sp_id ids k, md') := by simp only [G, hfs]
            refine ⟨fun _ => ?_, fun z => absurd z (tv_m1 (by omega))⟩
            show vp_in (1920 + nI k) 2112 ∧ _
            rw [show sp_oi (some k) = nI k from rfl, tv_1920, tv_2016, tv_nc (1920 + k), tv_nc (2016 + i)]
            have hin : vp_in (nI (2016 + i)) 2112 := pk_in (2016 + i) 2112 (by omega)
            refine ⟨pk_in (1920 + k) 2112 (by omega), hin, fun h4 w4 => ⟨hin, fun h5 w5 => ?_⟩⟩
            have kid := (kk.2.2.2.2.2.2 k (by omega)).1
            rw [show 96 * 20 + k = 1920 + k by omega] at kid
            rw [kid] at w4
            rw [nI_1]
            have a5 : tv_ag (fun q j => (q = 418 ∨ q = 419) ∧ j = 2016 + i) h2 h5 := by rw [w5, w4]; exact (tv_ag.rf.wI ⟨Or.inl rfl, rfl⟩).wI ⟨Or.inr rfl, rfl⟩
            refine ih (i + 1) md' (A ++ [sp_id ids k]) h5 (by omega) (by rw [List.length_append, hA]; rfl) (by omega) hmd1 (by omega) ?_ ?_ ?_ ?_ (ag.tr (a5.mo (fun q j z => by unfold md_rT md_rN; omega)))
            · rw [← hgo2, g1, hG, List.append_assoc]
              rfl
            · refine lp.app hb (by rw [List.length_singleton]; omega) (a5.mo (fun q j z => by rw [List.length_singleton, hA]; omega)) (fun t ht => ?_) (fun t ht => ?_)
              · rw [List.length_singleton] at ht
                rw [show t = 0 by omega]
                exact kk.2.2.2.2.2.1 k (by omega)
              · rw [List.length_singleton] at ht
                have e0 : 2016 + A.length + t = 2016 + i := by omega
                have e1 : t = 0 := by omega
                rw [e0, e1, w5, tv_wIc (by omega), w4, tv_wIe, tv_wIe, if_pos (show own ≤ sp_id [sp_id ids k] 0 from kown)]
                exact ⟨rfl, rfl⟩
            · rw [a5.2 _ _ (by omega)]; exact hm2
            · rw [a5.2 _ _ (by omega)]; exact hi2
          | none =>
            have hG : G i md' = (md', md' + 1) := by simp only [G, hfs]
            refine ⟨fun z => absurd rfl z, fun _ => ?_⟩
            rw [tv_2016]
            refine md_make (by omega) hm2 ?_
            have e6 : (tv_wI (tv_wI h2 418 (2016 + i) (nI md')) 400 7 (nI (md' + 1))).1 400 6 = nI (mi + (md' - md)) := by rw [tv_wIc (by omega), tv_wIc (by omega)]; exact hi2
            rw [e6, nI_1, tv_nc (2016 + i)]
            intro h7 w7
            refine ⟨pk_in (2016 + i) 2112 (by omega), fun h8 w8 => ?_⟩
            rw [nI_1]
            have a8 : tv_ag (fun q j => ((q = 418 ∨ q = 419) ∧ j = 2016 + i) ∨ (q = 400 ∧ (j = 7 ∨ j = 6))) h2 h8 := by
              rw [w8, w7]
              exact (((tv_ag.rf.wI (Or.inl ⟨Or.inl rfl, rfl⟩)).wI (Or.inr ⟨rfl, Or.inl rfl⟩)).wI (Or.inr ⟨rfl, Or.inr rfl⟩)).wI (Or.inl ⟨Or.inr rfl, rfl⟩)
            refine ih (i + 1) (md' + 1) (A ++ [md']) h8 (by omega) (by rw [List.length_append, hA]; rfl) (by omega) (by omega) (by omega) ?_ ?_ ?_ ?_ (ag.tr (a8.mo (fun q j z => by unfold md_rT md_rN; omega)))
            · rw [← hgo2, g1, hG, List.append_assoc]
              rfl
            · refine lp.app hb (by rw [List.length_singleton]; omega) (a8.mo (fun q j z => by rw [List.length_singleton, hA]; omega)) (fun t ht => ?_) (fun t ht => ?_)
              · rw [List.length_singleton] at ht
                rw [show t = 0 by omega]
                show md' < 2 ^ 30
                omega
              · rw [List.length_singleton] at ht
                have e0 : 2016 + A.length + t = 2016 + i := by omega
                have e1 : t = 0 := by omega
                rw [e0, e1, w8, tv_wIc (by omega), tv_wIe, w7, tv_wIc (by omega), tv_wIc (by omega), tv_wIe, if_pos (show own ≤ sp_id [md'] 0 from by show own ≤ md'; omega)]
                exact ⟨rfl, rfl⟩
            · rw [w8, tv_wIc (by omega), w7, tv_wIc (by omega), tv_wIe]
            · rw [w8, tv_wIc (by omega), w7, tv_wIe, show mi + (md' - md) + 1 = mi + (md' + 1 - md) by omega]
  refine H (L + 1) 0 md [] h1 (by omega) rfl (by omega) (Nat.le_refl _) (by omega) (by simp) ?_ ?_ ?_ ag1
  · refine ⟨e.cg hb.1 (fun q i r => a1.2 q i (by unfold md_rE at r; unfold md_rN md_rP; omega)), by rw [hL]; exact c1, n1, by simp, fun i hi => absurd hi (by simp), fun i hi => absurd hi (by simp), fun i _ hi => ?_⟩
    exact z1 i (by omega)
  · rw [a1.2 _ _ (by unfold md_rN md_rP; omega)]; exact hmd
  · rw [a1.2 _ _ (by unfold md_rN md_rP; omega), Nat.sub_self]; exact hmi
end MDG
