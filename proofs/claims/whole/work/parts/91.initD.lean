/-! THE COMPONENT'S CONSTRUCTOR, whole -/
section CWL
variable {p : Program} {l : Launch} {e : Env} {R : Room} {s : State} {m : MethodId} {args : Array Value} {below : List Frame} {meth : Method} {c : Code} {Q : State → Prop} {D : va_G} {cs : Nat → ClassId} {A : Nat → Prop} {h0 qv : Nat} {aP : Nat → Nat}
set_option maxHeartbeats 4000000 in
set_option maxRecDepth 100000 in
theorem cw_loop (hx : p.tables.exec = Jvm.exec) (hb : c.code = cX2_init) (hml : c.maxLocals = 2) (hown : s.vm.findClass RX2 = some m.cls) (hts : ∀ w ∈ tv_ws, w.before args s = true) (hK : va_K D tv_cl (tv_tys cs) s) (hN1 : va_Nw (.methodLinkNest RX2 41 yX1_init "TrieVersions") s) (hA : ∀ q, s.heap.size ≤ q → A q) (hR : 2 ≤ R.frames ∧ 32 ≤ R.locals) (hR2 : 291 ≤ R.cells ∧ 19544 ≤ R.slots) (fin : ∀ (aT : Nat → Nat → Nat) (H : Heap) (locs : List Loc) (ls : Array Slot), va_P D tv_cl (tvB cs h0 qv aP aT 20 ++ tvT cs aT (20 :: 21 :: List.range 20)) H → va_D A (tvB cs h0 qv aP aT 20 ++ tvT cs aT (20 :: 21 :: List.range 20)) → va_S A s.heap H locs → W p l e R s m args below meth c H locs (31 + 13 * 20) (1964 + 879 * 20) Q (F0 m 119 ls [])) : ∀ t v (aT : Nat → Nat → Nat) (H : Heap) (locs : List Loc) (ls : Array Slot), v + t = 20 → va_P D tv_cl (tvB cs h0 qv aP aT v ++ tvT cs aT (20 :: 21 :: List.range v)) H → va_D A (tvB cs h0 qv aP aT v ++ tvT cs aT (20 :: 21 :: List.range v)) → va_S A s.heap H locs → lv_has ls 2 [(1, .int (nI v)), (0, .ref h0)] → W p l e R s m args below meth c H locs (31 + 13 * v) (1964 + 879 * v) Q (F0 m 94 ls []) := by
  intro t
  induction t with
  | zero =>
    intro v aT H locs ls hv hP hD hS hl
    have hv20 : v = 20 := by omega
    subst hv20
    refine lv_iload_n hx hb dX2_init_94 rfl (lv_at hl 0 rfl) ?_
    refine lv_bipush (v := 20) hx hb dX2_init_95 (by decide) ?_
    refine lv_icmp_ge (tgt := 119) hx hb dX2_init_97 (by decide) (fun z => ?_) (fun z => absurd (by decide) z)
    exact fin aT H locs ls hP hD hS
  | succ t ih =>
    intro v aT H locs ls hv hP hD hS hl
    have hv20 : v < 20 := by omega
    refine lv_iload_n hx hb dX2_init_94 rfl (lv_at hl 0 rfl) ?_
    refine lv_bipush (v := 20) hx hb dX2_init_95 (by decide) ?_
    refine lv_icmp_ge (tgt := 119) hx hb dX2_init_97 (by decide) (fun z => ?_) (fun z => ?_)
    · exfalso
      have := (nI_leI (a := 20) (by omega) (by omega)).mp z
      omega
    · refine lv_aload_n hx hb dX2_init_100 rfl (lv_at hl 1 rfl) ?_
      refine va_get (D := D) (ci := 2) (v := .ref qv) (C := RX2) (T := TX2) (N := 13) hx hb hts tv_in2 hown hK hP 0 rfl rfl 0 (by decide) (hts _ fl_X2_11.1) (fun _ h9 => h9) rfl dX2_init_101 ?_
      refine lv_iload_n hx hb dX2_init_104 rfl (lv_at hl 0 rfl) ?_
      refine cw_tree hx hb hml hown hts hK hN1 hP hD hS hA hl.1 hR (by omega) (by omega) (Nat.le_of_ble_eq_true rfl) dX2_init_105 dX2_init_108 dX2_init_109 (fun a H locs hP hD hS => ?_)
      have pm : ((tvB cs h0 qv aP aT v ++ tvT cs aT (20 :: 21 :: List.range v)) ++ tr_w cs a).Perm (tvB cs h0 qv aP aT v ++ (tr_w cs a ++ tvT cs aT (20 :: 21 :: List.range v))) := by
        rw [List.append_assoc]
        exact List.Perm.append_left _ List.perm_append_comm
      have hP := cw_P_perm pm hP
      have hD := cw_D_perm pm hD
      refine va_astq (r := (RX1, TX1, 15)) hx hb hK hP hD hS 1 3 6 1 rfl rfl rfl rfl (pk_in v 20 hv20) dX2_init_112 (fun H locs hP hD hS => ?_)
      rw [tv_nc v] at hP hD
      have ef : va_up (fun i => if i < v then some (aT i 0) else none) v (some (a 0)) = fun i => if i < v + 1 then some ((fun t => if t = v then a else aT t) i 0) else none := by
        funext i
        simp only [va_up]
        by_cases c1 : i = v
        · rw [if_pos c1, if_pos (by omega), if_pos c1]
        · rw [if_neg c1]
          by_cases c2 : i < v
          · rw [if_pos c2, if_pos (by omega), if_neg c1]
          · rw [if_neg c2, if_neg (by omega)]
      have eB : (tvB cs h0 qv aP aT v ++ (tr_w cs a ++ tvT cs aT (20 :: 21 :: List.range v))).set 1 (qv, .inl (cs 3, 20, .inr (.inr (.inr (.inr (va_up (fun i => if i < v then some (aT i 0) else none) v (some (a 0)))))))) = tvB cs h0 qv aP (fun t => if t = v then a else aT t) (v + 1) ++ (tr_w cs a ++ tvT cs aT (20 :: 21 :: List.range v)) := by
        rw [ef]
        show _ = ([(h0, .inr (2, [.ref qv, .int 1, .ref (aP 2), .int 1, .int 30, .int 0, .int 0, .int 0, .ref ((fun t => if t = v then a else aT t) 20 0), .int 0, .int 0, .int 0, .ref ((fun t => if t = v then a else aT t) 21 0)])), (qv, .inl (cs 3, 20, .inr (.inr (.inr (.inr (fun i => if i < v + 1 then some ((fun t => if t = v then a else aT t) i 0) else none))))))] ++ pg_w cs aP) ++ (tr_w cs a ++ tvT cs aT (20 :: 21 :: List.range v))
        simp only [if_neg (show ¬ 20 = v by omega), if_neg (show ¬ 21 = v by omega)]
        rfl
      have hP : va_P D tv_cl ((tvB cs h0 qv aP aT v ++ (tr_w cs a ++ tvT cs aT (20 :: 21 :: List.range v))).set 1 (qv, .inl (cs 3, 20, .inr (.inr (.inr (.inr (va_up (fun i => if i < v then some (aT i 0) else none) v (some (a 0))))))))) H := hP
      have hD : va_D A ((tvB cs h0 qv aP aT v ++ (tr_w cs a ++ tvT cs aT (20 :: 21 :: List.range v))).set 1 (qv, .inl (cs 3, 20, .inr (.inr (.inr (.inr (va_up (fun i => if i < v then some (aT i 0) else none) v (some (a 0))))))))) := hD
      rw [eB] at hP hD
      have pm2 : (tvB cs h0 qv aP (fun t => if t = v then a else aT t) (v + 1) ++ (tr_w cs a ++ tvT cs aT (20 :: 21 :: List.range v))).Perm (tvB cs h0 qv aP (fun t => if t = v then a else aT t) (v + 1) ++ tvT cs (fun t => if t = v then a else aT t) (20 :: 21 :: List.range (v + 1))) := by
        rw [tvT_up hv20]
        exact List.Perm.append_left _ List.perm_append_comm
      refine lv_iinc (v := nI (v + 1)) (lv' := [(1, .int (nI (v + 1))), (0, .ref h0)]) hx hb dX2_init_113 hl (k := 0) rfl (by rw [show Int32.ofInt 1 = nI 1 from rfl, nI_add]) (by decide) rfl (fun ls hl => ?_)
      refine lv_goto (tgt := 94) hx hb dX2_init_116 (by decide) ?_
      refine W.widen (k := 31 + 13 * (v + 1)) (n := 1964 + 879 * (v + 1)) (by omega) (by omega) ?_
      exact ih (v + 1) (fun t => if t = v then a else aT t) H locs ls (by omega) (cw_P_perm pm2 hP) (cw_D_perm pm2 hD) hS hl
end CWL
set_option maxHeartbeats 4000000 in
set_option maxRecDepth 100000 in
theorem ci_X2 (l : Launch) (D : va_G) (cs : Nat → ClassId) (h0 sz : Nat) : Met l yX2_init (Cond.code yX2_init cX2_init 2 none :: tv_ws) ({ frames := 2, cells := 291, slots := 19544, locals := 32 }) (va_Pc [.ref h0] (fun U => U.heap.size = sz ∧ va_P D tv_cl [(h0, .inr (2, tv_dX2))] U.heap ∧ va_K D tv_cl (tv_tys cs) U ∧ va_D (fun _ => True) [(h0, .inr (2, tv_dX2))] ∧ va_Nw (.methodLinkNest RX2 21 yX0_init "TrieVersions") U ∧ va_Nw (.methodLinkNest RX2 41 yX1_init "TrieVersions") U ∧ va_AO RX1 U)) (va_Qv (fun _ : Nat × (Nat → Nat) × (Nat → Nat → Nat) => True) (fun u t => va_P D tv_cl (tvW cs h0 u) t.heap ∧ va_D (va_A [(h0, .inr (2, tv_dX2))] sz) (tvW cs h0 u)) (va_A [(h0, .inr (2, tv_dX2))] sz)) 291 19544 (va_A [(h0, .inr (2, tv_dX2))] sz) := by
  refine Met.ofW (cc := cX2_init) (maxL := 2) (ret := none) (by decide) rfl ?_
  intro p e s m args below meth c s₁ B hml hv
  obtain ⟨rfl, hsz, hP, hK, hD0, hN0, hN1, hAO⟩ := hv
  have hx := B.exec
  have hb := B.bytes
  have hr := B.returns
  have hts0 := atoms_spec (ws := Cond.code yX2_init cX2_init 2 none :: tv_ws) B.pre
  have hts : ∀ w ∈ tv_ws, w.before ([.ref h0] : List Value).toArray s = true := fun w hw => hts0 w (List.mem_cons_of_mem _ hw)
  have hown : s.vm.findClass RX2 = some m.cls := findClass_of_methodNamed B.named
  have hlocks := B.notSynchronized
  have hin : meth.name = "<init>" := (name_of_methodNamed B.named B.method).1
  subst hsz
  have hD := hD0.self (sz := s.heap.size)
  generalize hAe : va_A [(h0, .inr (2, tv_dX2))] s.heap.size = A at hD ⊢
  have hA : ∀ q : Nat, s.heap.size ≤ q → A q := fun q h => by rw [← hAe]; exact Or.inr h
  have hS : va_S A s.heap s.heap [] := va_S.rf
  have hP : va_P D tv_cl [(h0, .inr (2, [.null, .int 0, .null, .int 0, .int 0, .int 0, .int 0, .int 0, .null, .int 0, .int 0, .int 0, .null]))] s.heap := hP
  have hD : va_D A [(h0, .inr (2, [.null, .int 0, .null, .int 0, .int 0, .int 0, .int 0, .int 0, .null, .int 0, .int 0, .int 0, .null]))] := hD
  have hl := lv_entry ([.ref h0]) (n := 2) (Nat.le_of_ble_eq_true rfl)
  rw [lg_entry_eq]
  generalize (lg_sl ([.ref h0]) ++ List.replicate (2 - (lg_sl ([.ref h0])).length) Slot.unset).toArray = ls at hl ⊢
  have hl : lv_has ls 2 [(0, .ref h0)] := hl
  refine lv_aload_n hx hb dX2_init_0 rfl (lv_at hl 0 rfl) ?_
  refine W.objInit hx hb hown (hts _ cw_olX2) (hts _ cw_oi) (hts _ cw_oc) rfl (by rw [hml]; exact hl.1) rfl dX2_init_1 (Nat.le_of_ble_eq_true rfl) (Nat.le_of_ble_eq_true rfl) ?_
  refine W.eq (g2 := F0 m 4 ls []) rfl ?_
  refine lv_aload_n hx hb dX2_init_4 rfl (lv_at hl 0 rfl) ?_
  refine lv_bipush (v := 20) hx hb dX2_init_5 (by decide) ?_
  refine va_newq (C := RX1) (N' := 20) hx hb hown (hts _ cw_k1) hAO hK hP hD hS hA (by decide) (by decide) (Nat.le_of_ble_eq_true rfl) (Nat.le_of_ble_eq_true rfl) (Nat.le_of_ble_eq_true rfl) dX2_init_7 (fun qv cA H hK1 hP hD hS => ?_)
  have hcA : cA = cs 3 := by
    obtain ⟨k1, c1, -, -, -, h1⟩ := (hK1.2 4 (cA, .object RX1) rfl).2
    obtain ⟨k2, c2, -, -, -, h2⟩ := (hK.2 3 (cs 3, .object RX1) rfl).2
    rw [h1] at h2
    exact Option.some.inj h2
  subst hcA
  clear hK1
  have hP : va_P D tv_cl [(h0, .inr (2, [.null, .int 0, .null, .int 0, .int 0, .int 0, .int 0, .int 0, .null, .int 0, .int 0, .int 0, .null])), (qv, .inl (cs 3, 20, .inr (.inr (.inr (.inr (fun _ => none))))))] H := hP
  have hD : va_D A [(h0, .inr (2, [.null, .int 0, .null, .int 0, .int 0, .int 0, .int 0, .int 0, .null, .int 0, .int 0, .int 0, .null])), (qv, .inl (cs 3, 20, .inr (.inr (.inr (.inr (fun _ => none))))))] := hD
  refine cw_putF (q0 := 0) (v := .ref qv) (ty := .array (.object "TrieVersions$Tree")) hx hb hts hown hK hP hD hS fl_X2_11 (by decide) rfl rfl rfl hin rfl rfl rfl (Nat.le_of_ble_eq_true rfl) dX2_init_10 (fun H locs hP hD hS => ?_)
  have hP : va_P D tv_cl [(h0, .inr (2, [.ref qv, .int 0, .null, .int 0, .int 0, .int 0, .int 0, .int 0, .null, .int 0, .int 0, .int 0, .null])), (qv, .inl (cs 3, 20, .inr (.inr (.inr (.inr (fun _ => none))))))] H := hP
  have hD : va_D A [(h0, .inr (2, [.ref qv, .int 0, .null, .int 0, .int 0, .int 0, .int 0, .int 0, .null, .int 0, .int 0, .int 0, .null])), (qv, .inl (cs 3, 20, .inr (.inr (.inr (.inr (fun _ => none))))))] := hD
  refine lv_aload_n hx hb dX2_init_13 rfl (lv_at hl 0 rfl) ?_
  refine lv_iconst (v := 1) hx hb dX2_init_14 (by decide) ?_
  refine cw_put (q0 := 0) (v := .int 1) (ty := .int) hx hb hts hown hK hP hD hS fl_X2_15 (by decide) rfl rfl rfl rfl rfl (Nat.le_of_ble_eq_true rfl) dX2_init_15 (fun H locs hP hD hS => ?_)
  have hP : va_P D tv_cl [(h0, .inr (2, [.ref qv, .int 1, .null, .int 0, .int 0, .int 0, .int 0, .int 0, .null, .int 0, .int 0, .int 0, .null])), (qv, .inl (cs 3, 20, .inr (.inr (.inr (.inr (fun _ => none))))))] H := hP
  have hD : va_D A [(h0, .inr (2, [.ref qv, .int 1, .null, .int 0, .int 0, .int 0, .int 0, .int 0, .null, .int 0, .int 0, .int 0, .null])), (qv, .inl (cs 3, 20, .inr (.inr (.inr (.inr (fun _ => none))))))] := hD
  refine lv_aload_n hx hb dX2_init_18 rfl (lv_at hl 0 rfl) ?_
  refine cw_page hx hb hml hown hts hK hN0 hP hD hS hA hl.1 ⟨Nat.le_of_ble_eq_true rfl, Nat.le_of_ble_eq_true rfl⟩ (Nat.le_of_ble_eq_true rfl) (Nat.le_of_ble_eq_true rfl) (Nat.le_of_ble_eq_true rfl) dX2_init_19 dX2_init_22 dX2_init_23 (fun aP H locs hP hD hS => ?_)
  have hP : va_P D tv_cl ([(h0, .inr (2, [.ref qv, .int 1, .null, .int 0, .int 0, .int 0, .int 0, .int 0, .null, .int 0, .int 0, .int 0, .null])), (qv, .inl (cs 3, 20, .inr (.inr (.inr (.inr (fun _ => none))))))] ++ pg_w cs aP) H := hP
  refine cw_putF (q0 := 0) (v := .ref (aP 2)) (ty := .object "TrieVersions$Page") hx hb hts hown hK hP hD hS fl_X2_22 (by decide) rfl rfl rfl hin rfl rfl rfl (Nat.le_of_ble_eq_true rfl) dX2_init_26 (fun H locs hP hD hS => ?_)
  have hP : va_P D tv_cl ([(h0, .inr (2, [.ref qv, .int 1, .ref (aP 2), .int 0, .int 0, .int 0, .int 0, .int 0, .null, .int 0, .int 0, .int 0, .null])), (qv, .inl (cs 3, 20, .inr (.inr (.inr (.inr (fun _ => none))))))] ++ pg_w cs aP) H := hP
  have hD : va_D A ([(h0, .inr (2, [.ref qv, .int 1, .ref (aP 2), .int 0, .int 0, .int 0, .int 0, .int 0, .null, .int 0, .int 0, .int 0, .null])), (qv, .inl (cs 3, 20, .inr (.inr (.inr (.inr (fun _ => none))))))] ++ pg_w cs aP) := hD
  refine lv_aload_n hx hb dX2_init_29 rfl (lv_at hl 0 rfl) ?_
  refine lv_iconst (v := 1) hx hb dX2_init_30 (by decide) ?_
  refine cw_put (q0 := 0) (v := .int 1) (ty := .int) hx hb hts hown hK hP hD hS fl_X2_26 (by decide) rfl rfl rfl rfl rfl (Nat.le_of_ble_eq_true rfl) dX2_init_31 (fun H locs hP hD hS => ?_)
  refine lv_aload_n hx hb dX2_init_34 rfl (lv_at hl 0 rfl) ?_
  refine lv_bipush (v := 30) hx hb dX2_init_35 (by decide) ?_
  refine cw_put (q0 := 0) (v := .int 30) (ty := .int) hx hb hts hown hK hP hD hS fl_X2_29 (by decide) rfl rfl rfl rfl rfl (Nat.le_of_ble_eq_true rfl) dX2_init_37 (fun H locs hP hD hS => ?_)
  refine lv_aload_n hx hb dX2_init_40 rfl (lv_at hl 0 rfl) ?_
  refine lv_iconst (v := 0) hx hb dX2_init_41 (by decide) ?_
  refine cw_put (q0 := 0) (v := .int 0) (ty := .int) hx hb hts hown hK hP hD hS fl_X2_32 (by decide) rfl rfl rfl rfl rfl (Nat.le_of_ble_eq_true rfl) dX2_init_42 (fun H locs hP hD hS => ?_)
  refine lv_aload_n hx hb dX2_init_45 rfl (lv_at hl 0 rfl) ?_
  refine lv_iconst (v := 0) hx hb dX2_init_46 (by decide) ?_
  refine cw_put (q0 := 0) (v := .int 0) (ty := .int) hx hb hts hown hK hP hD hS fl_X2_35 (by decide) rfl rfl rfl rfl rfl (Nat.le_of_ble_eq_true rfl) dX2_init_47 (fun H locs hP hD hS => ?_)
  refine lv_aload_n hx hb dX2_init_50 rfl (lv_at hl 0 rfl) ?_
  refine lv_iconst (v := 0) hx hb dX2_init_51 (by decide) ?_
  refine cw_put (q0 := 0) (v := .int 0) (ty := .int) hx hb hts hown hK hP hD hS fl_X2_38 (by decide) rfl rfl rfl rfl rfl (Nat.le_of_ble_eq_true rfl) dX2_init_52 (fun H locs hP hD hS => ?_)
  have hP : va_P D tv_cl ([(h0, .inr (2, [.ref qv, .int 1, .ref (aP 2), .int 1, .int 30, .int 0, .int 0, .int 0, .null, .int 0, .int 0, .int 0, .null])), (qv, .inl (cs 3, 20, .inr (.inr (.inr (.inr (fun _ => none))))))] ++ pg_w cs aP) H := hP
  have hD : va_D A ([(h0, .inr (2, [.ref qv, .int 1, .ref (aP 2), .int 1, .int 30, .int 0, .int 0, .int 0, .null, .int 0, .int 0, .int 0, .null])), (qv, .inl (cs 3, 20, .inr (.inr (.inr (.inr (fun _ => none))))))] ++ pg_w cs aP) := hD
  refine lv_aload_n hx hb dX2_init_55 rfl (lv_at hl 0 rfl) ?_
  refine cw_tree hx hb hml hown hts hK hN1 hP hD hS hA hl.1 ⟨Nat.le_of_ble_eq_true rfl, Nat.le_of_ble_eq_true rfl⟩ (Nat.le_of_ble_eq_true rfl) (Nat.le_of_ble_eq_true rfl) (Nat.le_of_ble_eq_true rfl) dX2_init_56 dX2_init_59 dX2_init_60 (fun a20 H locs hP hD hS => ?_)
  refine cw_put (q0 := 0) (v := .ref (a20 0)) (ty := .object "TrieVersions$Tree") hx hb hts hown hK hP hD hS fl_X2_42 (by decide) rfl rfl rfl rfl rfl (Nat.le_of_ble_eq_true rfl) dX2_init_63 (fun H locs hP hD hS => ?_)
  have hP : va_P D tv_cl (([(h0, .inr (2, [.ref qv, .int 1, .ref (aP 2), .int 1, .int 30, .int 0, .int 0, .int 0, .ref (a20 0), .int 0, .int 0, .int 0, .null])), (qv, .inl (cs 3, 20, .inr (.inr (.inr (.inr (fun _ => none))))))] ++ pg_w cs aP) ++ tr_w cs a20) H := hP
  have hD : va_D A (([(h0, .inr (2, [.ref qv, .int 1, .ref (aP 2), .int 1, .int 30, .int 0, .int 0, .int 0, .ref (a20 0), .int 0, .int 0, .int 0, .null])), (qv, .inl (cs 3, 20, .inr (.inr (.inr (.inr (fun _ => none))))))] ++ pg_w cs aP) ++ tr_w cs a20) := hD
  refine lv_aload_n hx hb dX2_init_66 rfl (lv_at hl 0 rfl) ?_
  refine lv_iconst (v := 0) hx hb dX2_init_67 (by decide) ?_
  refine cw_put (q0 := 0) (v := .int 0) (ty := .boolean) hx hb hts hown hK hP hD hS fl_X2_46 (by decide) rfl rfl rfl rfl rfl (Nat.le_of_ble_eq_true rfl) dX2_init_68 (fun H locs hP hD hS => ?_)
  refine lv_aload_n hx hb dX2_init_71 rfl (lv_at hl 0 rfl) ?_
  refine lv_iconst (v := 0) hx hb dX2_init_72 (by decide) ?_
  refine cw_put (q0 := 0) (v := .int 0) (ty := .int) hx hb hts hown hK hP hD hS fl_X2_50 (by decide) rfl rfl rfl rfl rfl (Nat.le_of_ble_eq_true rfl) dX2_init_73 (fun H locs hP hD hS => ?_)
  refine lv_aload_n hx hb dX2_init_76 rfl (lv_at hl 0 rfl) ?_
  refine lv_iconst (v := 0) hx hb dX2_init_77 (by decide) ?_
  refine cw_put (q0 := 0) (v := .int 0) (ty := .int) hx hb hts hown hK hP hD hS fl_X2_53 (by decide) rfl rfl rfl rfl rfl (Nat.le_of_ble_eq_true rfl) dX2_init_78 (fun H locs hP hD hS => ?_)
  have hP : va_P D tv_cl (([(h0, .inr (2, [.ref qv, .int 1, .ref (aP 2), .int 1, .int 30, .int 0, .int 0, .int 0, .ref (a20 0), .int 0, .int 0, .int 0, .null])), (qv, .inl (cs 3, 20, .inr (.inr (.inr (.inr (fun _ => none))))))] ++ pg_w cs aP) ++ tr_w cs a20) H := hP
  have hD : va_D A (([(h0, .inr (2, [.ref qv, .int 1, .ref (aP 2), .int 1, .int 30, .int 0, .int 0, .int 0, .ref (a20 0), .int 0, .int 0, .int 0, .null])), (qv, .inl (cs 3, 20, .inr (.inr (.inr (.inr (fun _ => none))))))] ++ pg_w cs aP) ++ tr_w cs a20) := hD
  refine lv_aload_n hx hb dX2_init_81 rfl (lv_at hl 0 rfl) ?_
  refine cw_tree hx hb hml hown hts hK hN1 hP hD hS hA hl.1 ⟨Nat.le_of_ble_eq_true rfl, Nat.le_of_ble_eq_true rfl⟩ (Nat.le_of_ble_eq_true rfl) (Nat.le_of_ble_eq_true rfl) (Nat.le_of_ble_eq_true rfl) dX2_init_82 dX2_init_85 dX2_init_86 (fun a21 H locs hP hD hS => ?_)
  refine cw_put (q0 := 0) (v := .ref (a21 0)) (ty := .object "TrieVersions$Tree") hx hb hts hown hK hP hD hS fl_X2_56 (by decide) rfl rfl rfl rfl rfl (Nat.le_of_ble_eq_true rfl) dX2_init_89 (fun H locs hP hD hS => ?_)
  have hP : va_P D tv_cl (tvB cs h0 qv aP (fun t => if t = 20 then a20 else a21) 0 ++ tvT cs (fun t => if t = 20 then a20 else a21) (20 :: 21 :: List.range 0)) H := hP
  have hD : va_D A (tvB cs h0 qv aP (fun t => if t = 20 then a20 else a21) 0 ++ tvT cs (fun t => if t = 20 then a20 else a21) (20 :: 21 :: List.range 0)) := hD
  refine lv_iconst (v := 0) hx hb dX2_init_92 (by decide) ?_
  refine lv_istore_n (lv' := [(1, .int 0), (0, .ref h0)]) hx hb dX2_init_93 rfl hl (by decide) rfl (fun ls hl => ?_)
  refine W.widen (k := 31 + 13 * 0) (n := 1964 + 879 * 0) (Nat.le_of_ble_eq_true rfl) (Nat.le_of_ble_eq_true rfl) ?_
  refine cw_loop hx hb hml hown hts hK hN1 hA ⟨Nat.le_of_ble_eq_true rfl, Nat.le_of_ble_eq_true rfl⟩ ⟨Nat.le_of_ble_eq_true rfl, Nat.le_of_ble_eq_true rfl⟩ (fun aT H locs ls hP hD hS => ?_) 20 0 (fun t => if t = 20 then a20 else a21) _ _ ls (by omega) hP hD hS hl
  refine W.widen (k := 291) (n := 19544) (Nat.le_of_ble_eq_true rfl) (Nat.le_of_ble_eq_true rfl) ?_
  exact W.vret hx hb hr (fun t ht hW => ⟨⟨(qv, aP, aT), rfl, trivial, by rw [ht]; exact hP, hD⟩, hS.F ht⟩) hS.2.2 dX2_init_119
