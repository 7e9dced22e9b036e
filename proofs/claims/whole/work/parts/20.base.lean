/-! reads behind writes, agreement of heaps, numbers -/
theorem tv_wI1 (h : tv_AH) (q i : Nat) (v : Int32) (a b : Nat) : (tv_wI h q i v).1 a b = if a = q ∧ b = i then v else h.1 a b := rfl
theorem tv_wI2 (h : tv_AH) (q i : Nat) (v : Int32) : (tv_wI h q i v).2 = h.2 := rfl
theorem tv_wIn (h : tv_AH) (q i : Nat) (v : Int32) {a : Nat} (n : a ≠ q) : (tv_wI h q i v).1 a = h.1 a := by funext b; simp [tv_wI, n]
theorem tv_wJ1 (h : tv_AH) (q i : Nat) (v : Int64) : (tv_wJ h q i v).1 = h.1 := rfl
theorem tv_wJ2 (h : tv_AH) (q i : Nat) (v : Int64) (a b : Nat) : (tv_wJ h q i v).2.1 a b = if a = q ∧ b = i then v else h.2.1 a b := rfl
theorem tv_wJn (h : tv_AH) (q i : Nat) (v : Int64) {a : Nat} (n : a ≠ q) : (tv_wJ h q i v).2.1 a = h.2.1 a := by funext b; simp [tv_wJ, n]
theorem tv_wJ3 (h : tv_AH) (q i : Nat) (v : Int64) : (tv_wJ h q i v).2.2 = h.2.2 := rfl
theorem tv_wR1 (h : tv_AH) (q i : Nat) (v : Fin 22) : (tv_wR h q i v).1 = h.1 := rfl
theorem tv_wR2 (h : tv_AH) (q i : Nat) (v : Fin 22) : (tv_wR h q i v).2.1 = h.2.1 := rfl
theorem tv_wR3 (h : tv_AH) (q i : Nat) (v : Fin 22) (a b : Nat) : (tv_wR h q i v).2.2 a b = if a = q ∧ b = i then v else h.2.2 a b := rfl
theorem tv_cp1 (h : tv_AH) (q0 sp q1 dp n a : Nat) : (tv_cp h q0 sp q1 dp n).1 a = if a = q1 then va_cpy (h.1 q0) (h.1 q1) sp dp n else h.1 a := rfl
theorem tv_cp2 (h : tv_AH) (q0 sp q1 dp n : Nat) : (tv_cp h q0 sp q1 dp n).2 = h.2 := rfl
theorem tv_wIc {h : tv_AH} {q i : Nat} {v : Int32} {a b : Nat} (n : ¬ (a = q ∧ b = i)) : (tv_wI h q i v).1 a b = h.1 a b := by rw [tv_wI1, if_neg n]
theorem tv_wIe {h : tv_AH} {q i : Nat} {v : Int32} : (tv_wI h q i v).1 q i = v := by rw [tv_wI1, if_pos ⟨rfl, rfl⟩]
/-- the heaps agree but for ints at the places of P -/
def tv_ag (P : Nat → Nat → Prop) (h h' : tv_AH) : Prop := h'.2 = h.2 ∧ ∀ q i, ¬ P q i → h'.1 q i = h.1 q i
theorem tv_ag.rf {P : Nat → Nat → Prop} {h : tv_AH} : tv_ag P h h := ⟨rfl, fun _ _ _ => rfl⟩
theorem tv_ag.tr {P : Nat → Nat → Prop} {h h' h'' : tv_AH} (a : tv_ag P h h') (b : tv_ag P h' h'') : tv_ag P h h'' := ⟨b.1.trans a.1, fun q i n => (b.2 q i n).trans (a.2 q i n)⟩
theorem tv_ag.mo {P P' : Nat → Nat → Prop} {h h' : tv_AH} (a : tv_ag P h h') (m : ∀ q i, P q i → P' q i) : tv_ag P' h h' := ⟨a.1, fun q i n => a.2 q i (fun z => n (m q i z))⟩
theorem tv_ag.wI {P : Nat → Nat → Prop} {h h' : tv_AH} {q i : Nat} {v : Int32} (a : tv_ag P h h') (p : P q i) : tv_ag P h (tv_wI h' q i v) := ⟨a.1, fun q' i' n => by rw [tv_wIc (fun z => n (by rw [z.1, z.2]; exact p))]; exact a.2 q' i' n⟩
theorem tv_sl : ∀ n, n < 32 → ((nI n &&& 31).toBitVec.smod 32).toNat = n := by decide +kernel
theorem tv_shl {a k : Nat} (hk : k < 32) (h : a * 2 ^ k < 2 ^ 32) : nI a <<< (nI k &&& 31) = nI (a * 2 ^ k) := pk_shlN _ k (tv_sl k hk) h
theorem tv_shr {a k : Nat} (hk : k < 32) (h : a < 2 ^ 31) : nI a >>> (nI k &&& 31) = nI (a / 2 ^ k) := pk_shrN h _ k (tv_sl k hk)
theorem tv_a31 {a : Nat} (h : a < 2 ^ 32) : nI a &&& 31 = nI (a % 32) := pk_andN h 5 (by decide)
theorem tv_nI_inj {a b : Nat} (ha : a < 2 ^ 32) (hb : b < 2 ^ 32) (h : nI a = nI b) : a = b := by
  have := congrArg (fun x => x.toBitVec.toNat) h
  simpa [pk_tn ha, pk_tn hb] using this
theorem tv_m1 {n : Nat} (h : n < 2 ^ 31) : ¬ nI n = -1 := by
  intro e
  have e2 := congrArg Int32.toInt e
  rw [nI_toInt h] at e2
  have : (-1 : Int32).toInt = -1 := by decide
  omega
theorem tv_m1lt {n : Nat} (h : n < 2 ^ 31) : (-1 : Int32) < nI n := by
  rw [Int32.lt_iff_toInt_lt, nI_toInt h]
  have : (-1 : Int32).toInt = -1 := by decide
  omega
/-! THE SPECIFICATION'S NUMBERS: hashes, parts, ranks, the order of keys -/
def sp_hash (f w k : Nat) : Nat := k * f % 2 ^ w
def sp_part (g l : Nat) : Nat := g / 32 ^ l % 32
def sp_rank (g : Nat) : Nat := ((((sp_part g 0 * 32 + sp_part g 1) * 32 + sp_part g 2) * 32 + sp_part g 3) * 32 + sp_part g 4) * 32 + sp_part g 5
def sp_ord (f w k : Nat) : Nat := sp_rank (sp_hash f w k) * 4096 + k
/-- factor and width are good -/
def sp_sc (f w : Nat) : Prop := f < 65536 ∧ f % 2 = 1 ∧ 3 ≤ w ∧ w ≤ 30
theorem sp_part_lt (g l : Nat) : sp_part g l < 32 := Nat.mod_lt _ (by decide)
theorem sp_rank_lt (g : Nat) : sp_rank g < 2 ^ 30 := by
  have h0 := sp_part_lt g 0
  have h1 := sp_part_lt g 1
  have h2 := sp_part_lt g 2
  have h3 := sp_part_lt g 3
  have h4 := sp_part_lt g 4
  have h5 := sp_part_lt g 5
  unfold sp_rank
  omega
theorem sp_hash_lt {f w k : Nat} (s : sp_sc f w) : sp_hash f w k < 2 ^ 30 := Nat.lt_of_lt_of_le (Nat.mod_lt _ (Nat.two_pow_pos w)) (Nat.pow_le_pow_right (by decide) s.2.2.2)
/-- a hash below 2^30 is its parts -/
theorem sp_parts {g : Nat} (h : g < 2 ^ 30) : g = sp_part g 0 + 32 * (sp_part g 1 + 32 * (sp_part g 2 + 32 * (sp_part g 3 + 32 * (sp_part g 4 + 32 * sp_part g 5)))) := by
  unfold sp_part
  simp only [Nat.reducePow]
  omega
theorem sp_rank_inj {a b : Nat} (ha : a < 2 ^ 30) (hb : b < 2 ^ 30) (h : sp_rank a = sp_rank b) : a = b := by
  rw [sp_parts ha, sp_parts hb]
  have a0 := sp_part_lt a 0
  have a1 := sp_part_lt a 1
  have a2 := sp_part_lt a 2
  have a3 := sp_part_lt a 3
  have a4 := sp_part_lt a 4
  have a5 := sp_part_lt a 5
  have b0 := sp_part_lt b 0
  have b1 := sp_part_lt b 1
  have b2 := sp_part_lt b 2
  have b3 := sp_part_lt b 3
  have b4 := sp_part_lt b 4
  have b5 := sp_part_lt b 5
  unfold sp_rank at h
  omega
theorem tv_mask {w : Nat} (hw : w ≤ 30) : ((1 : Int32) <<< (nI w &&& 31)) - 1 = nI (2 ^ w - 1) := by
  have e : (1 : Int32) = nI 1 := rfl
  have h2 : 2 ^ w ≤ 2 ^ 30 := Nat.pow_le_pow_right (by decide) hw
  have h1 := Nat.two_pow_pos w
  rw [e, tv_shl (by omega) (by omega), Nat.one_mul, pk_sub (by omega)]
theorem tv_hash {f w k : Nat} (s : sp_sc f w) (hk : k < 4096) : (nI k * nI f) &&& (((1 : Int32) <<< (nI w &&& 31)) - 1) = nI (sp_hash f w k) := by
  have h2 : 2 ^ w ≤ 2 ^ 30 := Nat.pow_le_pow_right (by decide) s.2.2.2
  have h1 := Nat.two_pow_pos w
  have h3 : k * f ≤ 4095 * 65535 := Nat.mul_le_mul (by omega) (by have := s.1; omega)
  rw [tv_mask s.2.2.2, pk_mul]
  exact pk_andN (by omega) w (pk_tn (by omega))
theorem tv_part {g l : Nat} (hg : g < 2 ^ 30) (hl : l < 6) : (nI g >>> ((5 * nI l) &&& 31)) &&& 31 = nI (sp_part g l) := by
  have e : (5 : Int32) = nI 5 := rfl
  rw [e, pk_mul, tv_shr (by omega) (by omega), tv_a31 (Nat.lt_of_le_of_lt (Nat.div_le_self _ _) (by omega))]
  unfold sp_part
  rw [show (32 : Nat) ^ l = 2 ^ (5 * l) by rw [Nat.pow_mul]]
