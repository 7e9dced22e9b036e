/-! THE COMPONENT: kinds, parts and places of nodes -/
theorem tv_ltn {n : Nat} (h : n < 2 ^ 64) : (lN n).toBitVec.toNat = n := Nat.mod_eq_of_lt h
theorem tv_lor {a b k : Nat} (hb : b < 2 ^ k) (ha : 2 ^ k * a + b < 2 ^ 64) : lN (2 ^ k * a) ||| lN b = lN (2 ^ k * a + b) := by
  apply Int64.toBitVec_inj.mp
  rw [Int64.toBitVec_or]
  apply BitVec.eq_of_toNat_eq
  rw [BitVec.toNat_or, tv_ltn (by omega), tv_ltn (by omega), tv_ltn ha]
  exact (Nat.two_pow_add_eq_or_of_lt hb a).symm
theorem tv_lshl {a : Nat} (h : a < 2 ^ 30) : lN a <<< (Int32.toInt64 15 &&& 63) = lN (2 ^ 15 * a) := by
  apply Int64.toBitVec_inj.mp
  apply BitVec.eq_of_toNat_eq
  show ((lN a).toBitVec <<< ((Int32.toInt64 15 &&& 63).toBitVec.smod 64).toNat).toNat = _
  rw [show ((Int32.toInt64 15 &&& 63).toBitVec.smod 64).toNat = 15 by decide, BitVec.toNat_shiftLeft, Nat.shiftLeft_eq, tv_ltn (by omega), tv_ltn (by omega)]
  omega
theorem sp_rank_part {g l : Nat} (hl : l < 6) : sp_rank g / 2 ^ (30 - 5 * (l + 1)) % 32 = sp_part g l := by
  have a0 := sp_part_lt g 0
  have a1 := sp_part_lt g 1
  have a2 := sp_part_lt g 2
  have a3 := sp_part_lt g 3
  have a4 := sp_part_lt g 4
  have a5 := sp_part_lt g 5
  unfold sp_rank
  match l, hl with
  | 0, _ => simp only [Nat.reduceAdd, Nat.reduceMul, Nat.reduceSub, Nat.reducePow]; omega
  | 1, _ => simp only [Nat.reduceAdd, Nat.reduceMul, Nat.reduceSub, Nat.reducePow]; omega
  | 2, _ => simp only [Nat.reduceAdd, Nat.reduceMul, Nat.reduceSub, Nat.reducePow]; omega
  | 3, _ => simp only [Nat.reduceAdd, Nat.reduceMul, Nat.reduceSub, Nat.reducePow]; omega
  | 4, _ => simp only [Nat.reduceAdd, Nat.reduceMul, Nat.reduceSub, Nat.reducePow]; omega
  | 5, _ => simp only [Nat.reduceAdd, Nat.reduceMul, Nat.reduceSub, Nat.reducePow]; omega
theorem sp_srt_rk {f w i j : Nat} {E : List (Nat × Nat)} (hs : sp_srt f w E) (hb : sp_eb E) (hij : i ≤ j) (hj : j < E.length) : sp_rkk f w (sp_k E i) ≤ sp_rkk f w (sp_k E j) := by
  by_cases z : i = j
  · rw [z]; exact Nat.le_refl _
  · have h1 := hs i j (by omega) hj
    have h2 := (hb.2 i (by omega)).1
    have h3 := (hb.2 j hj).1
    unfold sp_ord at h1
    change sp_rkk f w (sp_k E i) * 4096 + sp_k E i < sp_rkk f w (sp_k E j) * 4096 + sp_k E j at h1
    omega
theorem sp_one_rk {f w a b : Nat} {E : List (Nat × Nat)} (s : sp_sc f w) (hs : sp_srt f w E) (hb : sp_eb E) (hab : a < b) (hbn : b ≤ E.length) : sp_one (sp_g f w E) a b ↔ sp_rkk f w (sp_k E a) = sp_rkk f w (sp_k E (b - 1)) := by
  constructor
  · intro o
    have : sp_hash f w (sp_k E (b - 1)) = sp_hash f w (sp_k E a) := o (b - 1) (by omega) (by omega)
    unfold sp_rkk
    rw [this]
  · intro e i h1 h2
    have q1 := sp_srt_rk hs hb h2 (by omega)
    have q2 := sp_srt_rk hs hb (show i ≤ b - 1 by omega) (by omega)
    exact sp_rank_inj (sp_hash_lt s) (sp_hash_lt s) (show sp_rkk f w (sp_k E i) = sp_rkk f w (sp_k E a) by omega)
section CTD
variable {ad : Nat → Nat} {d f w : Nat} {h : tv_AH} {j : Fin 22} {E : List (Nat × Nat)} {k v : Nat}
theorem ct_bitsBelow {l : Nat} (hl : l ≤ 6) {K : Int32 → tv_AH → Prop} (hK : K (nI (30 - 5 * l)) h) : tv_CI ad (d + 1) yX1_bitsBelow [.int (nI l)] h K := by
  refine nX1_bitsBelow _ h ?_
  rw [show (5 : Int32) = nI 5 from rfl, pk_mul, show (30 : Int32) = nI 30 from rfl, pk_sub (by omega)]
  exact hK
theorem ct_partOf {g l : Nat} (hl : l < 6) {K : Int32 → tv_AH → Prop} (hK : K (nI (sp_part g l)) h) : tv_CI ad (d + 2) yX1_partOf [.int (nI (sp_rank g)), .int (nI l)] h K := by
  have := sp_rank_lt g
  refine nX1_partOf _ _ h ?_
  rw [nI_1]
  refine ct_bitsBelow (l := l + 1) (by omega) ?_
  rw [tv_shr (by omega) (by omega), tv_a31 (Nat.lt_of_le_of_lt (Nat.div_le_self _ _) (by omega)), sp_rank_part hl]
  exact hK
theorem ct_packed {r s : Nat} (hr : r < 2 ^ 30) (hs : s < 8) (hk : k < 4096) {K : Int64 → tv_AH → Prop} (hK : K (lN (r * 32768 + s * 4096 + k)) h) : tv_CJ ad (d + 1) yX1_packed [.int (nI r), .int (nI s), .int (nI k)] h K := by
  refine nX1_packed _ _ _ h ?_
  rw [show (12 : Int32) &&& 31 = nI 12 &&& 31 from rfl, tv_shl (by omega) (by omega), nI_l (by omega), nI_l (by omega), nI_l (by omega), tv_lshl hr, tv_lor (by omega) (by omega), show 2 ^ 15 * r + s * 2 ^ 12 = 2 ^ 12 * (8 * r + s) by omega, tv_lor (by omega) (by omega), show 2 ^ 12 * (8 * r + s) + k = r * 32768 + s * 4096 + k by omega]
  exact hK
/-- a node's place -/
theorem ct_placeOf {x : sp_nd} (hx : x.1 ≤ 2) (hl : x.2.1 ≤ 6) (hk : sp_k E x.2.2.1 < 4096) {K : Int64 → tv_AH → Prop} (hK : K (lN (sp_pl f w E x)) h) : tv_CJ ad (d + 2) yX1_placeOf [.int (nI x.1), .int (nI x.2.1), .int (nI (sp_rkk f w (sp_k E x.2.2.1))), .int (nI (sp_k E x.2.2.1))] h K := by
  have hr := sp_rkk_lt f w (sp_k E x.2.2.1)
  unfold sp_pl at hK
  change K (lN (if x.1 = 0 then sp_rkk f w (sp_k E x.2.2.1) * 32768 + 7 * 4096 + sp_k E x.2.2.1 else if x.1 = 1 then sp_rkk f w (sp_k E x.2.2.1) * 32768 + 6 * 4096 else (sp_rkk f w (sp_k E x.2.2.1) / 2 ^ (30 - 5 * x.2.1) * 2 ^ (30 - 5 * x.2.1)) * 32768 + x.2.1 * 4096)) h at hK
  generalize sp_rkk f w (sp_k E x.2.2.1) = r at *
  refine nX1_placeOf _ _ _ _ h (tv_ne x.1 0 (fun z0 => tv_ne x.1 1 (fun z1 => ?_) (fun z1 => ?_)) (fun z0 => ?_))
  · rw [if_neg z0, if_neg z1] at hK
    have q1 : r / 2 ^ (30 - 5 * x.2.1) * 2 ^ (30 - 5 * x.2.1) ≤ r := Nat.div_mul_le_self _ _
    refine ct_bitsBelow hl ?_
    rw [tv_shr (by omega) (by omega), tv_shl (by omega) (by omega)]
    generalize r / 2 ^ (30 - 5 * x.2.1) * 2 ^ (30 - 5 * x.2.1) = r' at *
    refine ct_packed (s := x.2.1) (k := 0) (by omega) (by omega) (by omega) ?_
    rw [Nat.add_zero]
    exact hK
  · rw [if_neg z0, if_pos z1] at hK
    exact ct_packed (s := 6) (k := 0) (by omega) (by omega) (by omega) hK
  · rw [if_pos z0] at hK
    exact ct_packed (s := 7) (by omega) (by omega) hk hK
theorem ct_kindOfTree {l a b : Nat} (s : sp_sc f w) (e : ct_E f w j E h) (hb : sp_eb E) (hs : sp_srt f w E) (hl : l ≤ 6) (hab : a < b) (hbn : b ≤ E.length) (agr : sp_agr (sp_g f w E) a b l) {K : Int32 → tv_AH → Prop} (hK : K (nI (sp_kd (sp_g f w E) a b)) h) : tv_CI ad (d + 1) yX1_kindOfTree [.ref (ad (tv_tp j)), .int (nI l), .int (nI a), .int (nI b)] h K := by
  have h24 := hb.1
  have ho := sp_one_rk s hs hb hab hbn
  refine nX1_kindOfTree _ _ _ _ h ?_
  have eb : nI b - 1 = nI (b - 1) := by rw [show (1 : Int32) = nI 1 from rfl, pk_sub (by omega)]
  rw [pk_sub (Nat.le_of_lt hab), eb, tv_nc a, tv_nc (b - 1), (e.2 a (by omega)).2.2, (e.2 (b - 1) (by omega)).2.2]
  unfold sp_kd at hK
  have q1 := sp_rkk_lt f w (sp_k E a)
  have q2 := sp_rkk_lt f w (sp_k E (b - 1))
  refine tv_ne (b - a) 1 (fun z => ⟨pk_in a 24 (by omega), pk_in (b - 1) 24 (by omega), pk_eq (sp_rkk f w (sp_k E a)) (sp_rkk f w (sp_k E (b - 1))) (fun y => ?_) (fun y => pk_lt l 6 (fun u => ?_) (fun u => ?_))⟩) (fun z => ?_)
  · rw [if_pos (ho.mpr y), if_neg (by omega)] at hK; exact hK
  · rw [if_neg (fun t => y (ho.mp t))] at hK; exact hK
  · exact absurd (ho.mp (sp_agr_one (by omega) (fun i _ => sp_hash_lt s) agr)) y
  · rw [if_pos (fun i h1 h2 => by rw [show i = a by omega]), if_pos (by omega)] at hK; exact hK
theorem ct_levelEntries {l a b : Nat} (hab : a ≤ b) (hbn : b ≤ 24) {K : tv_AH → Prop} (hK : ∀ h', (∀ t, a ≤ t → t < b → h'.1 (tv_tp j + 4) t = nI l) → tv_ag (fun q i => q = tv_tp j + 4 ∧ a ≤ i ∧ i < b) h h' → K h') : tv_CV ad (d + 1) yX1_levelEntries [.ref (ad (tv_tp j)), .int (nI l), .int (nI a), .int (nI b)] h K := by
  refine nX1_levelEntries _ _ _ _ h ?_
  have H : ∀ n c (h2 : tv_AH), c + n = b → a ≤ c → (∀ t, a ≤ t → t < c → h2.1 (tv_tp j + 4) t = nI l) → tv_ag (fun q i => q = tv_tp j + 4 ∧ a ≤ i ∧ i < b) h h2 → tv_Wp ad RX1 cX1_levelEntries 5 none d (tv_pV K) 3 [(0, .ref (ad (tv_tp j))), (1, .int (nI l)), (3, .int (nI b)), (4, .int (nI c))] [] h2 := by
    intro n
    induction n with
    | zero =>
      intro c h2 hc hac hv ag
      refine bX1_levelEntries_3 _ _ _ _ h2 (pk_le b c (fun _ => hK h2 (fun t h1 h2 => hv t h1 (by omega)) ag) (fun z => absurd z (by omega)))
    | succ n ih =>
      intro c h2 hc hac hv ag
      refine bX1_levelEntries_3 _ _ _ _ h2 (pk_le b c (fun z => absurd z (by omega)) (fun z => ⟨pk_in c 24 (by omega), fun h3 w3 => ?_⟩))
      rw [tv_nc c] at w3
      rw [nI_1]
      subst w3
      refine ih (c + 1) _ (by omega) (by omega) (fun t h1 h3 => ?_) (ag.wI ⟨rfl, hac, z⟩)
      by_cases y : t = c
      · rw [y, tv_wIe]
      · rw [tv_wIc (by omega)]; exact hv t h1 (by omega)
  exact H (b - a) a h (by omega) (Nat.le_refl _) (fun t h1 h2 => absurd h2 (by omega)) tv_ag.rf
end CTD
