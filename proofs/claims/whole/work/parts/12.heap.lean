/-! THE RULES THAT TOUCH THE HEAP, CALLS AND RETURNS -/
def tv_ftyP (ci k : Nat) : Prop := (tv_ft ci k = 0 → tv_ty ci k = .int ∧ (tv_T ci k).2.2.2 = false) ∧ (tv_ft ci k = 1 → tv_ty ci k = .boolean ∧ (tv_T ci k).2.2.2 = false) ∧ (tv_ft ci k = 2 → tv_ty ci k = .long ∧ (tv_T ci k).2.2.2 = false) ∧ (tv_ft ci k = 4 → tv_ty ci k = .object RX1 ∧ (tv_T ci k).2.2.2 = false)
theorem tv_fty0 : ∀ k, k < 6 → tv_ftyP 0 k
  | 0, _ => ⟨fun z => absurd z (by decide), fun z => absurd z (by decide), fun z => absurd z (by decide), fun z => absurd z (by decide)⟩
  | 1, _ => ⟨fun _ => ⟨rfl, rfl⟩, fun z => absurd z (by decide), fun z => absurd z (by decide), fun z => absurd z (by decide)⟩
  | 2, _ => ⟨fun z => absurd z (by decide), fun _ => ⟨rfl, rfl⟩, fun z => absurd z (by decide), fun z => absurd z (by decide)⟩
  | 3, _ => ⟨fun _ => ⟨rfl, rfl⟩, fun z => absurd z (by decide), fun z => absurd z (by decide), fun z => absurd z (by decide)⟩
  | 4, _ => ⟨fun z => absurd z (by decide), fun z => absurd z (by decide), fun z => absurd z (by decide), fun z => absurd z (by decide)⟩
  | 5, _ => ⟨fun z => absurd z (by decide), fun z => absurd z (by decide), fun z => absurd z (by decide), fun z => absurd z (by decide)⟩
  | k + 6, h => absurd h (by omega)
theorem tv_fty1 : ∀ k, k < 15 → tv_ftyP 1 k
  | 0, _ => ⟨fun _ => ⟨rfl, rfl⟩, fun z => absurd z (by decide), fun z => absurd z (by decide), fun z => absurd z (by decide)⟩
  | 1, _ => ⟨fun z => absurd z (by decide), fun z => absurd z (by decide), fun z => absurd z (by decide), fun z => absurd z (by decide)⟩
  | 2, _ => ⟨fun z => absurd z (by decide), fun z => absurd z (by decide), fun z => absurd z (by decide), fun z => absurd z (by decide)⟩
  | 3, _ => ⟨fun z => absurd z (by decide), fun z => absurd z (by decide), fun z => absurd z (by decide), fun z => absurd z (by decide)⟩
  | 4, _ => ⟨fun z => absurd z (by decide), fun z => absurd z (by decide), fun z => absurd z (by decide), fun z => absurd z (by decide)⟩
  | 5, _ => ⟨fun _ => ⟨rfl, rfl⟩, fun z => absurd z (by decide), fun z => absurd z (by decide), fun z => absurd z (by decide)⟩
  | 6, _ => ⟨fun z => absurd z (by decide), fun z => absurd z (by decide), fun z => absurd z (by decide), fun z => absurd z (by decide)⟩
  | 7, _ => ⟨fun z => absurd z (by decide), fun z => absurd z (by decide), fun z => absurd z (by decide), fun z => absurd z (by decide)⟩
  | 8, _ => ⟨fun z => absurd z (by decide), fun z => absurd z (by decide), fun z => absurd z (by decide), fun z => absurd z (by decide)⟩
  | 9, _ => ⟨fun z => absurd z (by decide), fun z => absurd z (by decide), fun z => absurd z (by decide), fun z => absurd z (by decide)⟩
  | 10, _ => ⟨fun z => absurd z (by decide), fun z => absurd z (by decide), fun z => absurd z (by decide), fun z => absurd z (by decide)⟩
  | 11, _ => ⟨fun z => absurd z (by decide), fun z => absurd z (by decide), fun z => absurd z (by decide), fun z => absurd z (by decide)⟩
  | 12, _ => ⟨fun z => absurd z (by decide), fun z => absurd z (by decide), fun z => absurd z (by decide), fun z => absurd z (by decide)⟩
  | 13, _ => ⟨fun z => absurd z (by decide), fun z => absurd z (by decide), fun z => absurd z (by decide), fun z => absurd z (by decide)⟩
  | 14, _ => ⟨fun _ => ⟨rfl, rfl⟩, fun z => absurd z (by decide), fun z => absurd z (by decide), fun z => absurd z (by decide)⟩
  | k + 15, h => absurd h (by omega)
theorem tv_fty2 : ∀ k, k < 13 → tv_ftyP 2 k
  | 0, _ => ⟨fun z => absurd z (by decide), fun z => absurd z (by decide), fun z => absurd z (by decide), fun z => absurd z (by decide)⟩
  | 1, _ => ⟨fun _ => ⟨rfl, rfl⟩, fun z => absurd z (by decide), fun z => absurd z (by decide), fun z => absurd z (by decide)⟩
  | 2, _ => ⟨fun z => absurd z (by decide), fun z => absurd z (by decide), fun z => absurd z (by decide), fun z => absurd z (by decide)⟩
  | 3, _ => ⟨fun _ => ⟨rfl, rfl⟩, fun z => absurd z (by decide), fun z => absurd z (by decide), fun z => absurd z (by decide)⟩
  | 4, _ => ⟨fun _ => ⟨rfl, rfl⟩, fun z => absurd z (by decide), fun z => absurd z (by decide), fun z => absurd z (by decide)⟩
  | 5, _ => ⟨fun _ => ⟨rfl, rfl⟩, fun z => absurd z (by decide), fun z => absurd z (by decide), fun z => absurd z (by decide)⟩
  | 6, _ => ⟨fun _ => ⟨rfl, rfl⟩, fun z => absurd z (by decide), fun z => absurd z (by decide), fun z => absurd z (by decide)⟩
  | 7, _ => ⟨fun _ => ⟨rfl, rfl⟩, fun z => absurd z (by decide), fun z => absurd z (by decide), fun z => absurd z (by decide)⟩
  | 8, _ => ⟨fun z => absurd z (by decide), fun z => absurd z (by decide), fun z => absurd z (by decide), fun _ => ⟨rfl, rfl⟩⟩
  | 9, _ => ⟨fun z => absurd z (by decide), fun _ => ⟨rfl, rfl⟩, fun z => absurd z (by decide), fun z => absurd z (by decide)⟩
  | 10, _ => ⟨fun _ => ⟨rfl, rfl⟩, fun z => absurd z (by decide), fun z => absurd z (by decide), fun z => absurd z (by decide)⟩
  | 11, _ => ⟨fun _ => ⟨rfl, rfl⟩, fun z => absurd z (by decide), fun z => absurd z (by decide), fun z => absurd z (by decide)⟩
  | 12, _ => ⟨fun z => absurd z (by decide), fun z => absurd z (by decide), fun z => absurd z (by decide), fun _ => ⟨rfl, rfl⟩⟩
  | k + 13, h => absurd h (by omega)
theorem tv_fty3 : ∀ k, k < 34 → tv_ftyP 3 k
  | 0, _ => ⟨fun _ => ⟨rfl, rfl⟩, fun z => absurd z (by decide), fun z => absurd z (by decide), fun z => absurd z (by decide)⟩
  | 1, _ => ⟨fun z => absurd z (by decide), fun z => absurd z (by decide), fun z => absurd z (by decide), fun z => absurd z (by decide)⟩
  | 2, _ => ⟨fun _ => ⟨rfl, rfl⟩, fun z => absurd z (by decide), fun z => absurd z (by decide), fun z => absurd z (by decide)⟩
  | 3, _ => ⟨fun _ => ⟨rfl, rfl⟩, fun z => absurd z (by decide), fun z => absurd z (by decide), fun z => absurd z (by decide)⟩
  | 4, _ => ⟨fun _ => ⟨rfl, rfl⟩, fun z => absurd z (by decide), fun z => absurd z (by decide), fun z => absurd z (by decide)⟩
  | 5, _ => ⟨fun z => absurd z (by decide), fun _ => ⟨rfl, rfl⟩, fun z => absurd z (by decide), fun z => absurd z (by decide)⟩
  | 6, _ => ⟨fun _ => ⟨rfl, rfl⟩, fun z => absurd z (by decide), fun z => absurd z (by decide), fun z => absurd z (by decide)⟩
  | 7, _ => ⟨fun _ => ⟨rfl, rfl⟩, fun z => absurd z (by decide), fun z => absurd z (by decide), fun z => absurd z (by decide)⟩
  | 8, _ => ⟨fun _ => ⟨rfl, rfl⟩, fun z => absurd z (by decide), fun z => absurd z (by decide), fun z => absurd z (by decide)⟩
  | 9, _ => ⟨fun _ => ⟨rfl, rfl⟩, fun z => absurd z (by decide), fun z => absurd z (by decide), fun z => absurd z (by decide)⟩
  | 10, _ => ⟨fun z => absurd z (by decide), fun z => absurd z (by decide), fun z => absurd z (by decide), fun z => absurd z (by decide)⟩
  | 11, _ => ⟨fun z => absurd z (by decide), fun z => absurd z (by decide), fun z => absurd z (by decide), fun z => absurd z (by decide)⟩
  | 12, _ => ⟨fun z => absurd z (by decide), fun z => absurd z (by decide), fun z => absurd z (by decide), fun z => absurd z (by decide)⟩
  | 13, _ => ⟨fun z => absurd z (by decide), fun z => absurd z (by decide), fun z => absurd z (by decide), fun z => absurd z (by decide)⟩
  | 14, _ => ⟨fun z => absurd z (by decide), fun z => absurd z (by decide), fun z => absurd z (by decide), fun z => absurd z (by decide)⟩
  | 15, _ => ⟨fun z => absurd z (by decide), fun z => absurd z (by decide), fun z => absurd z (by decide), fun z => absurd z (by decide)⟩
  | 16, _ => ⟨fun z => absurd z (by decide), fun z => absurd z (by decide), fun z => absurd z (by decide), fun z => absurd z (by decide)⟩
  | 17, _ => ⟨fun z => absurd z (by decide), fun z => absurd z (by decide), fun z => absurd z (by decide), fun z => absurd z (by decide)⟩
  | 18, _ => ⟨fun z => absurd z (by decide), fun z => absurd z (by decide), fun z => absurd z (by decide), fun z => absurd z (by decide)⟩
  | 19, _ => ⟨fun z => absurd z (by decide), fun z => absurd z (by decide), fun z => absurd z (by decide), fun z => absurd z (by decide)⟩
  | 20, _ => ⟨fun z => absurd z (by decide), fun z => absurd z (by decide), fun z => absurd z (by decide), fun z => absurd z (by decide)⟩
  | 21, _ => ⟨fun z => absurd z (by decide), fun z => absurd z (by decide), fun z => absurd z (by decide), fun z => absurd z (by decide)⟩
  | 22, _ => ⟨fun z => absurd z (by decide), fun z => absurd z (by decide), fun z => absurd z (by decide), fun z => absurd z (by decide)⟩
  | 23, _ => ⟨fun _ => ⟨rfl, rfl⟩, fun z => absurd z (by decide), fun z => absurd z (by decide), fun z => absurd z (by decide)⟩
  | 24, _ => ⟨fun _ => ⟨rfl, rfl⟩, fun z => absurd z (by decide), fun z => absurd z (by decide), fun z => absurd z (by decide)⟩
  | 25, _ => ⟨fun z => absurd z (by decide), fun z => absurd z (by decide), fun z => absurd z (by decide), fun z => absurd z (by decide)⟩
  | 26, _ => ⟨fun z => absurd z (by decide), fun z => absurd z (by decide), fun z => absurd z (by decide), fun z => absurd z (by decide)⟩
  | 27, _ => ⟨fun z => absurd z (by decide), fun _ => ⟨rfl, rfl⟩, fun z => absurd z (by decide), fun z => absurd z (by decide)⟩
  | 28, _ => ⟨fun _ => ⟨rfl, rfl⟩, fun z => absurd z (by decide), fun z => absurd z (by decide), fun z => absurd z (by decide)⟩
  | 29, _ => ⟨fun z => absurd z (by decide), fun z => absurd z (by decide), fun z => absurd z (by decide), fun z => absurd z (by decide)⟩
  | 30, _ => ⟨fun z => absurd z (by decide), fun z => absurd z (by decide), fun z => absurd z (by decide), fun z => absurd z (by decide)⟩
  | 31, _ => ⟨fun z => absurd z (by decide), fun z => absurd z (by decide), fun z => absurd z (by decide), fun z => absurd z (by decide)⟩
  | 32, _ => ⟨fun z => absurd z (by decide), fun z => absurd z (by decide), fun z => absurd z (by decide), fun z => absurd z (by decide)⟩
  | 33, _ => ⟨fun z => absurd z (by decide), fun z => absurd z (by decide), fun _ => ⟨rfl, rfl⟩, fun z => absurd z (by decide)⟩
  | k + 34, h => absurd h (by omega)
theorem tv_fty (ci : Nat) (hc : ci < 4) (k : Nat) (hk : k < tv_nf ci) : tv_ftyP ci k := by
  match ci, hc with
  | 0, _ => exact tv_fty0 k hk
  | 1, _ => exact tv_fty1 k hk
  | 2, _ => exact tv_fty2 k hk
  | 3, _ => exact tv_fty3 k hk
theorem tv_fsk {ad : Nat → Nat} {h : tv_AH} {ci q k : Nat} (hk : k < tv_nf ci) : ((List.range (tv_nf ci)).map (tv_fv ad h ci q))[k]? = some (tv_fv ad h ci q k) := by
  simp [hk]
theorem tv_fset {ad : Nat → Nat} {h h' : tv_AH} {ci q k : Nat} {v : Value} (hk : k < tv_nf ci) (h1 : tv_fv ad h' ci q k = v) (h2 : ∀ j, j ≠ k → tv_fv ad h' ci q j = tv_fv ad h ci q j) : ((List.range (tv_nf ci)).map (tv_fv ad h ci q)).set k v = (List.range (tv_nf ci)).map (tv_fv ad h' ci q) := by
  apply List.ext_getElem?
  intro i
  rw [List.getElem?_set]
  split
  · rename_i e
    subst e
    simp [hk, h1]
  · rename_i e
    simp only [List.getElem?_map]
    cases hi : (List.range (tv_nf ci))[i]? with
    | none => rfl
    | some j =>
      have e2 := List.getElem?_eq_some_iff.mp hi
      obtain ⟨l1, e1⟩ := e2
      simp only [List.getElem_range] at e1
      subst e1
      simp only [Option.map_some]
      rw [h2 i (fun z => e z.symm)]
section TVH
variable {ad : Nat → Nat} {own : String} {cc : ByteArray} {nL : Nat} {rt : Option FieldType} {d : Nat} {post : Option Value → tv_AH → Prop} {pc : Nat} {lv : List (Nat × Value)} {st : List Value} {h : tv_AH} {idx ci k q n : Nat} {i x : Int32}
theorem tvr_getv {t : Nat} {v : Value} (hd : decode cc pc = .ok (.getfield idx, 3)) (hf : tv_F own idx ci k t) (hq : tv_ko q = some ci) (hv : tv_fv ad h ci q k = v) (kk : tv_Wp ad own cc nL rt d post (pc + 3) lv (v :: st) h) : tv_Wp ad own cc nL rt d post pc lv (.ref (ad q) :: st) h := fun p l e R s m args below meth c cells slots Q D cs A X H locs ls hP hS hl => by
  obtain ⟨hx, hb, hml, hown, hts, hK, hok, hR, hret⟩ := id X
  obtain ⟨nn, hn, he⟩ := tv_at (ad := ad) (cs := cs) (h := h) (tv_koL hq)
  rw [tv_ce_o hq] at he
  obtain ⟨i1, i2, i3, i4⟩ := tv_inN ci (tv_ko4 hq).1
  exact va_get (D := D) (ci := ci) (v := v) (C := tv_R ci) (T := tv_T ci) (N := tv_nf ci) hx hb hts i1 hown hK hP nn he i2 k hf.2.1 (hts _ hf.1) (fun _ h9 => h9) (by rw [tv_fsk hf.2.1, hv]) hd (kk p l e R s m args below meth c cells slots Q D cs A X H locs ls hP hS hl)
theorem tvr_getI (hd : decode cc pc = .ok (.getfield idx, 3)) (hf : tv_F own idx ci k 0) (hq : tv_ko q = some ci) (kk : tv_Wp ad own cc nL rt d post (pc + 3) lv (.int (h.1 q k) :: st) h) : tv_Wp ad own cc nL rt d post pc lv (.ref (ad q) :: st) h := tvr_getv hd hf hq (by simp [tv_fv, hf.2.2]) kk
theorem tvr_getZ (hd : decode cc pc = .ok (.getfield idx, 3)) (hf : tv_F own idx ci k 1) (hq : tv_ko q = some ci) (kk : tv_Wp ad own cc nL rt d post (pc + 3) lv (.int (h.1 q k) :: st) h) : tv_Wp ad own cc nL rt d post pc lv (.ref (ad q) :: st) h := tvr_getv hd hf hq (by simp [tv_fv, hf.2.2]) kk
theorem tvr_getJ (hd : decode cc pc = .ok (.getfield idx, 3)) (hf : tv_F own idx ci k 2) (hq : tv_ko q = some ci) (kk : tv_Wp ad own cc nL rt d post (pc + 3) lv (.long (h.2.1 q k) :: st) h) : tv_Wp ad own cc nL rt d post pc lv (.ref (ad q) :: st) h := tvr_getv hd hf hq (by simp [tv_fv, hf.2.2]) kk
theorem tvr_getA {q2 : Nat} (hd : decode cc pc = .ok (.getfield idx, 3)) (hf : tv_F own idx ci k 3) (hq : tv_ko q = some ci) (hq2 : tv_sr ci q k = q2) (kk : tv_Wp ad own cc nL rt d post (pc + 3) lv (.ref (ad q2) :: st) h) : tv_Wp ad own cc nL rt d post pc lv (.ref (ad q) :: st) h := tvr_getv hd hf hq (by simp [tv_fv, hf.2.2, hq2]) kk
theorem tvr_getT (hd : decode cc pc = .ok (.getfield idx, 3)) (hf : tv_F own idx ci k 4) (hq : tv_ko q = some ci) (kk : tv_Wp ad own cc nL rt d post (pc + 3) lv (.ref (ad (tv_tp (h.2.2 q k))) :: st) h) : tv_Wp ad own cc nL rt d post pc lv (.ref (ad q) :: st) h := tvr_getv hd hf hq (by simp [tv_fv, hf.2.2]) kk
theorem tvr_putv {t : Nat} {v : Value} {ty : FieldType} {h' : tv_AH} (hd : decode cc pc = .ok (.putfield idx, 3)) (hf : tv_F own idx ci k t) (hq : tv_ko q = some ci) (hty : tv_ty ci k = ty ∧ (tv_T ci k).2.2.2 = false) (hn : narrow ty v = v) (hfit : fits ty v = true) (h1 : tv_fv ad h' ci q k = v) (h2 : ∀ j, j ≠ k → tv_fv ad h' ci q j = tv_fv ad h ci q j) (h3 : ∀ (cs : Nat → ClassId), ∀ q' ∈ tv_live, q' ≠ q → tv_ce ad cs h' q' = tv_ce ad cs h q') (kk : tv_Wp ad own cc nL rt d post (pc + 3) lv st h') : tv_Wp ad own cc nL rt d post pc lv (v :: .ref (ad q) :: st) h := fun p l e R s m args below meth c cells slots Q D cs A X H locs ls hP hS hl => by
  obtain ⟨hx, hb, hml, hown, hts, hK, hok, hR, hret⟩ := id X
  obtain ⟨nn, hnn, he⟩ := tv_at (ad := ad) (cs := cs) (h := h) (tv_koL hq)
  rw [tv_ce_o hq] at he
  obtain ⟨i1, i2, i3, i4⟩ := tv_inN ci (tv_ko4 hq).1
  refine va_put (D := D) (ci := ci) (v := v) (ty := ty) (C := tv_R ci) (T := tv_T ci) (N := tv_nf ci) hx hb hts i1 (tv_ty ci) i3 i4 hown hK hP (tv_D hok) hS nn he i2 k hf.2.1 (hts _ hf.1) (fun _ h9 => h9) hty.2 (by rw [i3 k hf.2.1, hty.1]) hn hfit (by simpa using hf.2.1) hd (fun H1 locs1 hP1 _ hS1 => ?_)
  rw [tv_fset hf.2.1 h1 h2, ← tv_ce_o (cs := cs) hq, tv_set hnn (h3 cs)] at hP1
  exact kk p l e R s m args below meth c cells slots Q D cs A X H1 locs1 ls hP1 hS1 hl
theorem tvr_putI (hd : decode cc pc = .ok (.putfield idx, 3)) (hf : tv_F own idx ci k 0) (hq : tv_ko q = some ci) (kk : tv_Wp ad own cc nL rt d post (pc + 3) lv st (tv_wI h q k x)) : tv_Wp ad own cc nL rt d post pc lv (.int x :: .ref (ad q) :: st) h :=
  tvr_putv hd hf hq ((tv_fty ci (tv_ko4 hq).1 k hf.2.1).1 hf.2.2) rfl rfl (by simp [tv_fv, hf.2.2, tv_wI]) (fun j hj => by simp [tv_fv, tv_wI, hj]) (fun cs q' _ hne => tv_ce_ne hne) kk
theorem tvr_putZ (hd : decode cc pc = .ok (.putfield idx, 3)) (hf : tv_F own idx ci k 1) (hq : tv_ko q = some ci) (hz : x = 0 ∨ x = 1) (kk : tv_Wp ad own cc nL rt d post (pc + 3) lv st (tv_wI h q k x)) : tv_Wp ad own cc nL rt d post pc lv (.int x :: .ref (ad q) :: st) h :=
  tvr_putv hd hf hq ((tv_fty ci (tv_ko4 hq).1 k hf.2.1).2.1 hf.2.2) (by rcases hz with rfl | rfl <;> rfl) (by rcases hz with rfl | rfl <;> rfl) (by simp [tv_fv, hf.2.2, tv_wI]) (fun j hj => by simp [tv_fv, tv_wI, hj]) (fun cs q' _ hne => tv_ce_ne hne) kk
theorem tvr_putJ {a : Int64} (hd : decode cc pc = .ok (.putfield idx, 3)) (hf : tv_F own idx ci k 2) (hq : tv_ko q = some ci) (kk : tv_Wp ad own cc nL rt d post (pc + 3) lv st (tv_wJ h q k a)) : tv_Wp ad own cc nL rt d post pc lv (.long a :: .ref (ad q) :: st) h :=
  tvr_putv hd hf hq ((tv_fty ci (tv_ko4 hq).1 k hf.2.1).2.2.1 hf.2.2) rfl rfl (by simp [tv_fv, hf.2.2, tv_wJ]) (fun j hj => by simp [tv_fv, tv_wJ, hj]) (fun cs q' _ hne => tv_ce_neJ hne) kk
theorem tvr_putT {j : Fin 22} (hd : decode cc pc = .ok (.putfield idx, 3)) (hf : tv_F own idx ci k 4) (hq : tv_ko q = some ci) (kk : tv_Wp ad own cc nL rt d post (pc + 3) lv st (tv_wR h q k j)) : tv_Wp ad own cc nL rt d post pc lv (.ref (ad (tv_tp j)) :: .ref (ad q) :: st) h :=
  tvr_putv hd hf hq ((tv_fty ci (tv_ko4 hq).1 k hf.2.1).2.2.2 hf.2.2) rfl rfl (by simp [tv_fv, hf.2.2, tv_wR]) (fun j hj => by simp [tv_fv, tv_wR, hj]) (fun cs q' _ hne => tv_ce_neR hne tv_ce_eq) kk
theorem tvr_iald (hd : decode cc pc = .ok (.iaload, 1)) (hq : tv_ka q = some (0, n)) (hi : vp_in i n) (kk : tv_Wp ad own cc nL rt d post (pc + 1) lv (.int (h.1 q i.toNatClampNeg) :: st) h) : tv_Wp ad own cc nL rt d post pc lv (.int i :: .ref (ad q) :: st) h := fun p l e R s m args below meth c cells slots Q D cs A X H locs ls hP hS hl => by
  obtain ⟨nn, hnn, he⟩ := tv_at (ad := ad) (cs := cs) (h := h) (tv_kaL hq)
  rw [tv_ce_a hq] at he
  exact va_iald X.1 X.2.1 X.2.2.2.2.2.1 hP nn 0 he rfl hi hd (kk p l e R s m args below meth c cells slots Q D cs A X H locs ls hP hS hl)
theorem tvr_lald (hd : decode cc pc = .ok (.laload, 1)) (hq : tv_ka q = some (1, n)) (hi : vp_in i n) (kk : tv_Wp ad own cc nL rt d post (pc + 1) lv (.long (h.2.1 q i.toNatClampNeg) :: st) h) : tv_Wp ad own cc nL rt d post pc lv (.int i :: .ref (ad q) :: st) h := fun p l e R s m args below meth c cells slots Q D cs A X H locs ls hP hS hl => by
  obtain ⟨nn, hnn, he⟩ := tv_at (ad := ad) (cs := cs) (h := h) (tv_kaL hq)
  rw [tv_ce_a hq] at he
  exact va_lald X.1 X.2.1 X.2.2.2.2.2.1 hP nn 1 he rfl hi hd (kk p l e R s m args below meth c cells slots Q D cs A X H locs ls hP hS hl)
theorem tvr_zald (hd : decode cc pc = .ok (.baload, 1)) (hq : tv_ka q = some (2, n)) (hi : vp_in i n) (kk : tv_Wp ad own cc nL rt d post (pc + 1) lv (.int (h.1 q i.toNatClampNeg) :: st) h) : tv_Wp ad own cc nL rt d post pc lv (.int i :: .ref (ad q) :: st) h := fun p l e R s m args below meth c cells slots Q D cs A X H locs ls hP hS hl => by
  obtain ⟨nn, hnn, he⟩ := tv_at (ad := ad) (cs := cs) (h := h) (tv_kaL hq)
  rw [tv_ce_a hq] at he
  exact va_zald X.1 X.2.1 X.2.2.2.2.2.1 hP nn 2 he rfl hi hd (kk p l e R s m args below meth c cells slots Q D cs A X H locs ls hP hS hl)
theorem tvr_aald (hd : decode cc pc = .ok (.aaload, 1)) (hi : vp_in i 20) (kk : tv_Wp ad own cc nL rt d post (pc + 1) lv (.ref (ad (tv_tp (h.2.2 1 i.toNatClampNeg))) :: st) h) : tv_Wp ad own cc nL rt d post pc lv (.int i :: .ref (ad 1) :: st) h := fun p l e R s m args below meth c cells slots Q D cs A X H locs ls hP hS hl => by
  obtain ⟨nn, hnn, he⟩ := tv_at (ad := ad) (cs := cs) (h := h) tv_1L
  rw [tv_ce_v] at he
  exact va_aldq X.1 X.2.1 X.2.2.2.2.2.1 hP nn 3 he rfl hi hd (kk p l e R s m args below meth c cells slots Q D cs A X H locs ls hP hS hl)
theorem tvr_iast (hd : decode cc pc = .ok (.iastore, 1)) (hq : tv_ka q = some (0, n)) (hi : vp_in i n) (kk : tv_Wp ad own cc nL rt d post (pc + 1) lv st (tv_wI h q i.toNatClampNeg x)) : tv_Wp ad own cc nL rt d post pc lv (.int x :: .int i :: .ref (ad q) :: st) h := fun p l e R s m args below meth c cells slots Q D cs A X H locs ls hP hS hl => by
  obtain ⟨nn, hnn, he⟩ := tv_at (ad := ad) (cs := cs) (h := h) (tv_kaL hq)
  rw [tv_ce_a hq] at he
  refine va_iast X.1 X.2.1 X.2.2.2.2.2.1 hP (tv_D X.2.2.2.2.2.2.1) hS nn 0 he rfl hi hd (fun H1 locs1 hP1 _ hS1 => ?_)
  have e1 : (Sum.inl (cs 0, n, Sum.inl (upd (h.1 q) i.toNatClampNeg x)) : va_E) = tv_ce ad cs (tv_wI h q i.toNatClampNeg x) q := by
    rw [tv_ce_a hq]
    have : upd (h.1 q) i.toNatClampNeg x = (tv_wI h q i.toNatClampNeg x).1 q := by funext j; simp [upd, tv_wI]
    rw [this]; rfl
  rw [e1, tv_set hnn (fun q' _ hne => tv_ce_ne hne)] at hP1
  exact kk p l e R s m args below meth c cells slots Q D cs A X H1 locs1 ls hP1 hS1 hl
theorem tvr_zast (hd : decode cc pc = .ok (.bastore, 1)) (hq : tv_ka q = some (2, n)) (hi : vp_in i n) (hz : x = 0 ∨ x = 1) (kk : tv_Wp ad own cc nL rt d post (pc + 1) lv st (tv_wI h q i.toNatClampNeg x)) : tv_Wp ad own cc nL rt d post pc lv (.int x :: .int i :: .ref (ad q) :: st) h := fun p l e R s m args below meth c cells slots Q D cs A X H locs ls hP hS hl => by
  obtain ⟨nn, hnn, he⟩ := tv_at (ad := ad) (cs := cs) (h := h) (tv_kaL hq)
  rw [tv_ce_a hq] at he
  refine va_zast X.1 X.2.1 X.2.2.2.2.2.1 hP (tv_D X.2.2.2.2.2.2.1) hS nn 2 he rfl hi hd (fun H1 locs1 hP1 _ hS1 => ?_)
  have e0 : vp_nar .boolean x = x := by rcases hz with rfl | rfl <;> rfl
  rw [e0] at hP1
  have e1 : (Sum.inl (cs 2, n, Sum.inl (upd (h.1 q) i.toNatClampNeg x)) : va_E) = tv_ce ad cs (tv_wI h q i.toNatClampNeg x) q := by
    rw [tv_ce_a hq]
    have : upd (h.1 q) i.toNatClampNeg x = (tv_wI h q i.toNatClampNeg x).1 q := by funext j; simp [upd, tv_wI]
    rw [this]; rfl
  rw [e1, tv_set hnn (fun q' _ hne => tv_ce_ne hne)] at hP1
  exact kk p l e R s m args below meth c cells slots Q D cs A X H1 locs1 ls hP1 hS1 hl
theorem tvr_last {a : Int64} (hd : decode cc pc = .ok (.lastore, 1)) (hq : tv_ka q = some (1, n)) (hi : vp_in i n) (kk : tv_Wp ad own cc nL rt d post (pc + 1) lv st (tv_wJ h q i.toNatClampNeg a)) : tv_Wp ad own cc nL rt d post pc lv (.long a :: .int i :: .ref (ad q) :: st) h := fun p l e R s m args below meth c cells slots Q D cs A X H locs ls hP hS hl => by
  obtain ⟨nn, hnn, he⟩ := tv_at (ad := ad) (cs := cs) (h := h) (tv_kaL hq)
  rw [tv_ce_a hq] at he
  refine va_last X.1 X.2.1 X.2.2.2.2.2.1 hP (tv_D X.2.2.2.2.2.2.1) hS nn 1 he rfl hi hd (fun H1 locs1 hP1 _ hS1 => ?_)
  have e1 : (Sum.inl (cs 1, n, Sum.inr (Sum.inl (vp_updL (h.2.1 q) i.toNatClampNeg a))) : va_E) = tv_ce ad cs (tv_wJ h q i.toNatClampNeg a) q := by
    rw [tv_ce_a hq]
    have : vp_updL (h.2.1 q) i.toNatClampNeg a = (tv_wJ h q i.toNatClampNeg a).2.1 q := by funext j; simp [vp_updL, tv_wJ]
    rw [this]; rfl
  rw [e1, tv_set hnn (fun q' _ hne => tv_ce_neJ hne)] at hP1
  exact kk p l e R s m args below meth c cells slots Q D cs A X H1 locs1 ls hP1 hS1 hl
theorem tvr_aast {j : Fin 22} (hd : decode cc pc = .ok (.aastore, 1)) (hi : vp_in i 20) (kk : tv_Wp ad own cc nL rt d post (pc + 1) lv st (tv_wR h 1 i.toNatClampNeg j)) : tv_Wp ad own cc nL rt d post pc lv (.ref (ad (tv_tp j)) :: .int i :: .ref (ad 1) :: st) h := fun p l e R s m args below meth c cells slots Q D cs A X H locs ls hP hS hl => by
  obtain ⟨nn, hnn, he⟩ := tv_at (ad := ad) (cs := cs) (h := h) tv_1L
  obtain ⟨n2, hn2, he2⟩ := tv_at (ad := ad) (cs := cs) (h := h) (tv_koL (tv_ko_tp j))
  rw [tv_ce_v] at he
  rw [tv_ce_o (tv_ko_tp j)] at he2
  refine va_astq (r := (RX1, TX1, 15)) X.1 X.2.1 X.2.2.2.2.2.1 hP (tv_D X.2.2.2.2.2.2.1) hS nn 3 n2 1 he rfl he2 rfl hi hd (fun H1 locs1 hP1 _ hS1 => ?_)
  have e1 : (Sum.inl (cs 3, 20, Sum.inr (Sum.inr (Sum.inr (Sum.inr (va_up (fun i => some (ad (tv_tp (h.2.2 1 i)))) i.toNatClampNeg (some (ad (tv_tp j)))))))) : va_E) = tv_ce ad cs (tv_wR h 1 i.toNatClampNeg j) 1 := by
    rw [tv_ce_v]
    have : va_up (fun i => some (ad (tv_tp (h.2.2 1 i)))) i.toNatClampNeg (some (ad (tv_tp j))) = fun b => some (ad (tv_tp ((tv_wR h 1 i.toNatClampNeg j).2.2 1 b))) := by
      funext b
      simp only [va_up, tv_wR, true_and]
      split <;> rfl
    rw [this]; rfl
  rw [e1, tv_set hnn (fun q' _ hne => tv_ce_neR hne tv_ce_eq)] at hP1
  exact kk p l e R s m args below meth c cells slots Q D cs A X H1 locs1 ls hP1 hS1 hl
theorem tvr_copy {q0 q1 n0 n1 : Nat} {sp dp z : Int32} (hw : (Cond.methodLink own idx arraycopyName ∈ tv_ws ∧ Cond.native arraycopyName ∈ tv_ws ∧ Cond.static arraycopyName ∈ tv_ws ∧ Cond.initialized "java/lang/System" ∈ tv_ws)) (hd : decode cc pc = .ok (.invokestatic idx, 3)) (hq0 : tv_ka q0 = some (0, n0)) (hq1 : tv_ka q1 = some (0, n1)) (h1 : ¬ sp < 0) (h2 : ¬ dp < 0) (h3 : ¬ z < 0) (h4 : sp.toNatClampNeg + z.toNatClampNeg ≤ n0) (h5 : dp.toNatClampNeg + z.toNatClampNeg ≤ n1) (hst : (st.map fun v => v.category).sum ≤ 8) (kk : tv_Wp ad own cc nL rt d post (pc + 3) lv st (tv_cp h q0 sp.toNatClampNeg q1 dp.toNatClampNeg z.toNatClampNeg)) : tv_Wp ad own cc nL rt d post pc lv (.int z :: .int dp :: .ref (ad q1) :: .int sp :: .ref (ad q0) :: st) h := fun p l e R s m args below meth c cells slots Q D cs A X H locs ls hP hS hl => by
  obtain ⟨hx, hb, hml, hown, hts, hK, hok, hR, hret⟩ := id X
  obtain ⟨nn, hnn, he⟩ := tv_at (ad := ad) (cs := cs) (h := h) (tv_kaL hq0)
  obtain ⟨n2, hn2, he2⟩ := tv_at (ad := ad) (cs := cs) (h := h) (tv_kaL hq1)
  rw [tv_ce_a hq0] at he
  rw [tv_ce_a hq1] at he2
  refine va_copyi (ty := .int) hx hb (hml.trans hl.1.symm) hown (hts _ hw.1) (hts _ hw.2.1) (hts _ hw.2.2.1) (hts _ hw.2.2.2) hK hP (tv_D hok) hS nn n2 0 0 he he2 rfl rfl rfl h1 h2 h3 h4 h5 (fun _ _ => rfl) (Nat.le_trans (by omega) hR.1) (Nat.le_trans (Nat.add_le_add_right hst _) (Nat.le_trans ?_ hR.2.1)) hd (fun H1 locs1 hP1 _ hS1 => ?_)
  · have e : nativeFrameWords "java/lang/System" "arraycopy" 5 = 7 := by decide +kernel
    rw [e]
    omega
  have e1 : (Sum.inl (cs 0, n1, Sum.inl (va_cpy (h.1 q0) (h.1 q1) sp.toNatClampNeg dp.toNatClampNeg z.toNatClampNeg)) : va_E) = tv_ce ad cs (tv_cp h q0 sp.toNatClampNeg q1 dp.toNatClampNeg z.toNatClampNeg) q1 := by
    rw [tv_ce_a hq1]
    have : va_cpy (h.1 q0) (h.1 q1) sp.toNatClampNeg dp.toNatClampNeg z.toNatClampNeg = (tv_cp h q0 sp.toNatClampNeg q1 dp.toNatClampNeg z.toNatClampNeg).1 q1 := by simp [tv_cp]
    rw [this]; rfl
  rw [e1, tv_set hn2 (fun q' _ hne => tv_ce_neC hne)] at hP1
  exact kk p l e R s m args below meth c cells slots Q D cs A X H1 locs1 ls hP1 hS1 hl
theorem tvr_max {y : Int32} (hw : (Cond.methodLink own idx Lib.Math.max.name ∈ tv_ws ∧ Cond.static Lib.Math.max.name ∈ tv_ws ∧ Cond.initialized "java/lang/Math" ∈ tv_ws ∧ Cond.code Lib.Math.max.name Lib.Math.max.code 2 (some .int) ∈ tv_ws)) (hd : decode cc pc = .ok (.invokestatic idx, 3)) (hst : (st.map fun v => v.category).sum ≤ 8) (kk : tv_Wp ad own cc nL rt d post (pc + 3) lv (.int (if x < y then y else x) :: st) h) : tv_Wp ad own cc nL rt d post pc lv (.int y :: .int x :: st) h := fun p l e R s m args below meth c cells slots Q D cs A X H locs ls hP hS hl => by
  obtain ⟨hx, hb, hml, hown, hts, hK, hok, hR, hret⟩ := id X
  exact va_mmax hx hb (hml.trans hl.1.symm) hown (hts _ hw.1) (hts _ hw.2.1) (hts _ hw.2.2.1) (hts _ hw.2.2.2) (Nat.le_trans (by omega) hR.1) (Nat.le_trans (Nat.add_le_add_right hst _) (Nat.le_trans (by omega) hR.2.1)) hR.2.2.1 hR.2.2.2 hd (kk p l e R s m args below meth c cells slots Q D cs A X H locs ls hP hS hl)
theorem tvr_iret (hd : decode cc pc = .ok (.ireturn, 1)) (hn : tv_nr rt x) (hp : post (some (.int x)) h) : tv_Wp ad own cc nL rt d post pc lv [.int x] h := fun p l e R s m args below meth c cells slots Q D cs A X H locs ls hP hS hl => ((X.2.2.2.2.2.2.2.2 h H locs pc ls hP hS).1) x hd hn hp
theorem tvr_lret {a : Int64} (hd : decode cc pc = .ok (.lreturn, 1)) (hn : rt = some .long) (hp : post (some (.long a)) h) : tv_Wp ad own cc nL rt d post pc lv [.long a] h := fun p l e R s m args below meth c cells slots Q D cs A X H locs ls hP hS hl => ((X.2.2.2.2.2.2.2.2 h H locs pc ls hP hS).2.1) a hd hn hp
theorem tvr_vret (hd : decode cc pc = .ok (.return_, 1)) (hn : rt = none) (hp : post none h) : tv_Wp ad own cc nL rt d post pc lv [] h := fun p l e R s m args below meth c cells slots Q D cs A X H locs ls hP hS hl => ((X.2.2.2.2.2.2.2.2 h H locs pc ls hP hS).2.2) hd hn hp
theorem tv_nrz (hz : x = 0 ∨ x = 1) : tv_nr (some .boolean) x := ⟨_, rfl, by rcases hz with rfl | rfl <;> rfl⟩
end TVH
/-- behind a call -/
theorem tv_back {p : Program} {l : Launch} {e : Env} {R : Room} {s : State} {m : MethodId} {args : Array Value} {below : List Frame} {meth : Method} {c : Code} {H : Heap} {locs : List Loc} {cells slots : Nat} {Q : State → Prop} {pc : Nat} {ls : Array Slot} {rest st0 : List Value} {a : Array Value} {ad : Nat → Nat} {D : va_G} {cs : Nat → ClassId} {A : Nat → Prop} {post : Option Value → tv_AH → Prop} (hr : va_Run p l e R s m args below meth c H locs cells slots 0 0 (F0 m pc ls st0) rest (tv_Q ad D cs A post a) A) (hS : va_S A s.heap H locs)
    (kk : ∀ (r : Option Value) (h : tv_AH) (H1 : Heap) (locs1 : List Loc), post r h → va_P D tv_cl (tv_enc ad cs h) H1 → va_S A s.heap H1 locs1 → W p l e R s m args below meth c H1 locs1 cells slots Q (F0 m (pc + 3) ls (r.toList ++ rest))) : W p l e R s m args below meth c H locs cells slots Q (F0 m pc ls st0) := by
  intro T hT X
  obtain ⟨v, st₀, t, T', L, h0, X', hL, e1, e2, ⟨⟨r, u, hv, hp, hb⟩, hz, hk⟩, st⟩ := hr T hT X
  cases hv
  rw [h0] at hz hk
  obtain ⟨t2, a1, b1⟩ := kk v u T'.heap (locs ++ L) hp (by rw [e1]; exact hb)
    ⟨Nat.le_trans hS.1 (by rw [e1]; exact hz), fun q h1 h2 => by rw [e1, hk q (Nat.lt_of_lt_of_le h1 hS.1) h2]; exact hS.2.1 q h1 h2, fun q hq => by
      rcases List.mem_append.mp hq with h | h
      · exact hS.2.2 q h
      · exact hL q h⟩ T' rfl X'
  exact ⟨t2, st t2 a1, b1⟩
section TVC
variable {ad : Nat → Nat} {own : String} {cc : ByteArray} {nL : Nat} {rt : Option FieldType} {d : Nat} {post : Option Value → tv_AH → Prop} {pc : Nat} {lv : List (Nat × Value)} {st stk : List Value} {h : tv_AH} {idx ci q n : Nat} {y : MethodName} {As : List Value}
theorem tvr_callV (hd : decode cc pc = .ok (.invokevirtual idx, 3)) (hv : tv_V own idx y ci n) (hq : tv_ko q = some ci) (hstk : stk = As.reverse ++ .ref (ad q) :: st) (hn : As.length = n) (hst : (st.map fun v => v.category).sum ≤ 8) (kk : tv_Call ad d y (.ref (ad q) :: As) h (fun r h' => tv_Wp ad own cc nL rt d post (pc + 3) lv (r.toList ++ st) h')) : tv_Wp ad own cc nL rt d post pc lv stk h := fun p l e R s m args below meth c cells slots Q D cs A X H locs ls hP hS hl => by
  obtain ⟨hx, hb, hml, hown, hts, hK, hok, hR, hret⟩ := id X
  obtain ⟨cc', nL', rt', hcode, hnl, hM⟩ := kk
  have hM := hM _ (fun _ _ z => z) l D cs A hok
  obtain ⟨⟨w1, w2, w3, w4⟩, hyc, hy1, hy2, hyn⟩ := hv
  obtain ⟨nn, hnn, he⟩ := tv_at (ad := ad) (cs := cs) (h := h) (tv_koL hq)
  rw [tv_ce_o hq] at he
  obtain ⟨i1, i2, i3, i4⟩ := tv_inN ci (tv_ko4 hq).1
  have hG : GoodIn tv_ws (wsV own idx (tv_R ci) y (.code y cc' nL' rt' :: tv_ws)) := by
    intro w hw
    have hin : w ∈ tv_ws := by
      unfold wsV at hw
      rcases List.mem_append.mp hw with z | z
      · simp only [List.mem_cons, List.not_mem_nil, or_false] at z
        rcases z with rfl | rfl | rfl | rfl <;> assumption
      · rcases List.mem_cons.mp z with rfl | z
        · exact hcode
        · exact z
    exact ⟨hin, tv_ws_good hin⟩
  refine tv_back (va_runV (As := As) (rest := st) (C := tv_R ci) (Ts := tv_ws) ⟨hx, hb, hml, hown, hts⟩ hM (cwV n hts hG rfl rfl rfl ⟨hyc, hy1, hy2, hyn⟩ ⟨hR.1, ?_⟩) ⟨fun a U g mk z => ?_, va_recv hK hP i2 he, fun U hU hW => ?_⟩ rfl hn hl.1 hstk (lv_room hst) hd ⟨hR.2.2.1, hR.2.2.2⟩) hS (fun r h' H1 locs1 hp hP1 hS1 => hp p l e R s m args below meth c cells slots Q D cs A X H1 locs1 ls hP1 hS1 hl)
  · exact Nat.le_trans (show 8 + (nL' + 11) + 64 * d ≤ 64 * (d + 1) by omega) hR.2.1
  · obtain ⟨q0, qP, qK⟩ := z
    exact ⟨q0, qP, va_K.moved (u := U) (U := U.calling g mk a) (Vm.Alike.refl U.vm) qK⟩
  · exact ⟨rfl, by rw [hU]; exact hP, va_K.moved hW.alike hK⟩
theorem tvr_callS (hd : decode cc pc = .ok (.invokestatic idx, 3)) (hv : tv_S own idx y n) (hstk : stk = As.reverse ++ st) (hn : As.length = n) (hst : (st.map fun v => v.category).sum ≤ 8) (kk : tv_Call ad d y As h (fun r h' => tv_Wp ad own cc nL rt d post (pc + 3) lv (r.toList ++ st) h')) : tv_Wp ad own cc nL rt d post pc lv stk h := fun p l e R s m args below meth c cells slots Q D cs A X H locs ls hP hS hl => by
  obtain ⟨hx, hb, hml, hown, hts, hK, hok, hR, hret⟩ := id X
  obtain ⟨cc', nL', rt', hcode, hnl, hM⟩ := kk
  have hM := hM _ (fun _ _ z => z) l D cs A hok
  obtain ⟨⟨w1, w2, w3⟩, hyc, hy1, hy2, hyn⟩ := hv
  have hG : GoodIn tv_ws (wsS own idx y (.code y cc' nL' rt' :: tv_ws)) := by
    intro w hw
    have hin : w ∈ tv_ws := by
      unfold wsS at hw
      rcases List.mem_append.mp hw with z | z
      · simp only [List.mem_cons, List.not_mem_nil, or_false] at z
        rcases z with rfl | rfl | rfl <;> assumption
      · rcases List.mem_cons.mp z with rfl | z
        · exact hcode
        · exact z
    exact ⟨hin, tv_ws_good hin⟩
  refine tv_back (va_runS (As := As) (rest := st) (Ts := tv_ws) ⟨hx, hb, hml, hown, hts⟩ hM (cwS n hts hG rfl rfl rfl ⟨hyc, hy1, hy2, hyn⟩ ⟨hR.1, ?_⟩) ⟨fun a U g mk z => ?_, fun U hU hW => ?_⟩ rfl hn hl.1 hstk (lv_room hst) hd ⟨hR.2.2.1, hR.2.2.2⟩) hS (fun r h' H1 locs1 hp hP1 hS1 => hp p l e R s m args below meth c cells slots Q D cs A X H1 locs1 ls hP1 hS1 hl)
  · exact Nat.le_trans (show 8 + (nL' + 11) + 64 * d ≤ 64 * (d + 1) by omega) hR.2.1
  · obtain ⟨q0, qP, qK⟩ := z
    exact ⟨q0, qP, va_K.moved (u := U) (U := U.calling g mk a) (Vm.Alike.refl U.vm) qK⟩
  · exact ⟨rfl, by rw [hU]; exact hP, va_K.moved hW.alike hK⟩
theorem tvr_VI (hd : decode cc pc = .ok (.invokevirtual idx, 3)) (hv : tv_V own idx y ci n) (hq : tv_ko q = some ci) (hstk : stk = As.reverse ++ .ref (ad q) :: st) (hn : As.length = n) (hst : (st.map fun v => v.category).sum ≤ 8) (kk : tv_CI ad d y (.ref (ad q) :: As) h (fun x h' => tv_Wp ad own cc nL rt d post (pc + 3) lv (.int x :: st) h')) : tv_Wp ad own cc nL rt d post pc lv stk h := tvr_callV hd hv hq hstk hn hst (tv_Call.mono kk (fun _ _ ⟨_, e, z⟩ => by subst e; exact z))
theorem tvr_VJ (hd : decode cc pc = .ok (.invokevirtual idx, 3)) (hv : tv_V own idx y ci n) (hq : tv_ko q = some ci) (hstk : stk = As.reverse ++ .ref (ad q) :: st) (hn : As.length = n) (hst : (st.map fun v => v.category).sum ≤ 8) (kk : tv_CJ ad d y (.ref (ad q) :: As) h (fun x h' => tv_Wp ad own cc nL rt d post (pc + 3) lv (.long x :: st) h')) : tv_Wp ad own cc nL rt d post pc lv stk h := tvr_callV hd hv hq hstk hn hst (tv_Call.mono kk (fun _ _ ⟨_, e, z⟩ => by subst e; exact z))
theorem tvr_VV (hd : decode cc pc = .ok (.invokevirtual idx, 3)) (hv : tv_V own idx y ci n) (hq : tv_ko q = some ci) (hstk : stk = As.reverse ++ .ref (ad q) :: st) (hn : As.length = n) (hst : (st.map fun v => v.category).sum ≤ 8) (kk : tv_CV ad d y (.ref (ad q) :: As) h (fun h' => tv_Wp ad own cc nL rt d post (pc + 3) lv st h')) : tv_Wp ad own cc nL rt d post pc lv stk h := tvr_callV hd hv hq hstk hn hst (tv_Call.mono kk (fun _ _ ⟨e, z⟩ => by subst e; exact z))
theorem tvr_SI (hd : decode cc pc = .ok (.invokestatic idx, 3)) (hv : tv_S own idx y n) (hstk : stk = As.reverse ++ st) (hn : As.length = n) (hst : (st.map fun v => v.category).sum ≤ 8) (kk : tv_CI ad d y As h (fun x h' => tv_Wp ad own cc nL rt d post (pc + 3) lv (.int x :: st) h')) : tv_Wp ad own cc nL rt d post pc lv stk h := tvr_callS hd hv hstk hn hst (tv_Call.mono kk (fun _ _ ⟨_, e, z⟩ => by subst e; exact z))
theorem tvr_SJ (hd : decode cc pc = .ok (.invokestatic idx, 3)) (hv : tv_S own idx y n) (hstk : stk = As.reverse ++ st) (hn : As.length = n) (hst : (st.map fun v => v.category).sum ≤ 8) (kk : tv_CJ ad d y As h (fun x h' => tv_Wp ad own cc nL rt d post (pc + 3) lv (.long x :: st) h')) : tv_Wp ad own cc nL rt d post pc lv stk h := tvr_callS hd hv hstk hn hst (tv_Call.mono kk (fun _ _ ⟨_, e, z⟩ => by subst e; exact z))
theorem tvr_SV (hd : decode cc pc = .ok (.invokestatic idx, 3)) (hv : tv_S own idx y n) (hstk : stk = As.reverse ++ st) (hn : As.length = n) (hst : (st.map fun v => v.category).sum ≤ 8) (kk : tv_CV ad d y As h (fun h' => tv_Wp ad own cc nL rt d post (pc + 3) lv st h')) : tv_Wp ad own cc nL rt d post pc lv stk h := tvr_callS hd hv hstk hn hst (tv_Call.mono kk (fun _ _ ⟨e, z⟩ => by subst e; exact z))
end TVC
/-- A METHOD out of the walk of its body -/
theorem tv_enter {ad : Nat → Nat} {d : Nat} {y : MethodName} {a : List Value} {h : tv_AH} {post : Option Value → tv_AH → Prop} {cc : ByteArray} {nL : Nat} {rt : Option FieldType} (hc : Cond.code y cc nL rt ∈ tv_ws) (hnl : nL ≤ 30) (hy : plainName y.cls = true) (hsl : (lg_sl a).length ≤ nL) (k : tv_Wp ad y.cls cc nL rt d post 0 (lv_args 0 a) [] h) : tv_Call ad (d + 1) y a h post := by
  refine ⟨cc, nL, rt, hc, hnl, fun post' hp l D cs A hok => ?_⟩
  refine Met.ofW (cc := cc) (maxL := nL) (ret := rt) hy rfl ?_
  intro p e s m args below meth c s₁ B hml hv
  obtain ⟨rfl, hP, hK⟩ := hv
  have hts := atoms_spec (ws := Cond.code y cc nL rt :: tv_ws) B.pre
  have hown : s.vm.findClass y.cls = some m.cls := findClass_of_methodNamed B.named
  have hr := B.returns
  have hlocks := B.notSynchronized
  have hS : va_S A s.heap s.heap [] := va_S.rf
  have hl := lv_entry a (n := nL) hsl
  rw [lg_entry_eq]
  generalize (lg_sl a ++ List.replicate (nL - (lg_sl a).length) Slot.unset).toArray = ls at hl ⊢
  refine (k.mono hp) p l e _ s m _ below meth c 0 0 _ D cs A ⟨B.exec, B.bytes, hml, hown, fun w hw => hts w (List.mem_cons_of_mem _ hw), hK, hok, ⟨Nat.le_refl _, Nat.le_refl _, Nat.le_refl _, Nat.le_refl _⟩, ?_⟩ s.heap [] ls hP hS hl
  intro h' H locs pc ls' hP' hS'
  refine ⟨fun v hd hn hq => ?_, fun v hd hn hq => ?_, fun hd hn hq => ?_⟩
  · obtain ⟨ty, e1, e2⟩ := hn
    exact W.zret B.exec B.bytes (hr.trans e1) e2 (fun t ht hW => ⟨⟨_, h', rfl, hq, by rw [ht]; exact hP'⟩, hS'.F ht⟩) hS'.2.2 hd
  · exact W.lret B.exec B.bytes (hr.trans hn) (fun t ht hW => ⟨⟨_, h', rfl, hq, by rw [ht]; exact hP'⟩, hS'.F ht⟩) hS'.2.2 hd
  · exact W.vret B.exec B.bytes (hr.trans hn) (fun t ht hW => ⟨⟨_, h', rfl, hq, by rw [ht]; exact hP'⟩, hS'.F ht⟩) hS'.2.2 hd
