/-! WORLDS AS SETS OF CELLS; rules for constructors -/
theorem cw_P_mem {D : va_G} {cl : List vw_C} {ws : va_W} {H : Heap} : va_P D cl ws H ↔ ∀ c ∈ ws, va_at D cl c H := by
  constructor
  · intro h c hc
    obtain ⟨i, hi, e⟩ := List.mem_iff_getElem.mp hc
    exact h i c (by rw [List.getElem?_eq_getElem hi, e])
  · intro h k q hk
    exact h q (List.mem_of_getElem? hk)
theorem cw_D_mem {A : Nat → Prop} {ws : va_W} : va_D A ws ↔ (ws.map (fun c => c.1)).Nodup ∧ ∀ c ∈ ws, A c.1 := by
  constructor
  · intro ⟨h1, h2⟩
    refine ⟨?_, fun c hc => ?_⟩
    · unfold List.Nodup
      rw [List.pairwise_iff_getElem]
      intro i j hi hj hij z
      rw [List.length_map] at hi hj
      rw [List.getElem_map, List.getElem_map] at z
      have := h1 i j ws[i] ws[j] (List.getElem?_eq_getElem hi) (List.getElem?_eq_getElem hj) z
      omega
    · obtain ⟨i, hi, e⟩ := List.mem_iff_getElem.mp hc
      exact h2 i c (by rw [List.getElem?_eq_getElem hi, e])
  · intro ⟨h1, h2⟩
    refine ⟨fun i j p q hi hj e => ?_, fun k q hk => h2 q (List.mem_of_getElem? hk)⟩
    have a : (ws.map (fun c => c.1))[i]? = some p.1 := by rw [List.getElem?_map, hi]; rfl
    have b : (ws.map (fun c => c.1))[j]? = some q.1 := by rw [List.getElem?_map, hj]; rfl
    have hlt : i < (ws.map (fun c => c.1)).length := (List.getElem?_eq_some_iff.mp a).1
    exact (List.getElem?_inj hlt h1).mp (by rw [a, b, e])
theorem cw_P_perm {D : va_G} {cl : List vw_C} {ws ws' : va_W} {H : Heap} (p : ws.Perm ws') (h : va_P D cl ws H) : va_P D cl ws' H := cw_P_mem.mpr (fun c hc => cw_P_mem.mp h c (p.mem_iff.mpr hc))
theorem cw_D_perm {A : Nat → Prop} {ws ws' : va_W} (p : ws.Perm ws') (h : va_D A ws) : va_D A ws' := by
  obtain ⟨h1, h2⟩ := cw_D_mem.mp h
  exact cw_D_mem.mpr ⟨(p.map _).nodup h1, fun c hc => h2 c (p.mem_iff.mpr hc)⟩
/-- behind the making of an object: what it was is gone, what came of it is there -/
theorem cw_join {A0 : Nat → Prop} {D : va_G} {cl : List vw_C} {ws w1 : va_W} {q : Nat} {x : va_E} {H H1 : Heap} (hP : va_P D cl (ws ++ [(q, x)]) H) (hD : va_D A0 (ws ++ [(q, x)])) (hk : ∀ z : Nat, z < H.size → ¬ va_A [(q, x)] H.size z → H1[z]? = H[z]?) (hF : ∀ z, va_A [(q, x)] H.size z → A0 z) (hP1 : va_P D cl w1 H1) (hD1 : va_D (va_A [(q, x)] H.size) w1) : va_P D cl (ws ++ w1) H1 ∧ va_D A0 (ws ++ w1) := by
  have pm : (ws ++ [(q, x)]).Perm ([(q, x)] ++ ws) := List.perm_append_comm
  obtain ⟨a, b⟩ := va_joinQ (X := [(q, x)]) (cx := [(q, x)]) (wr := []) (pl := ws) (cw_P_perm pm hP) (cw_D_perm pm hD) [0] [] rfl rfl rfl (fun i hi => absurd hi List.not_mem_nil) hk hF hP1 hD1
  have pm2 : (([] ++ w1) ++ ws).Perm (ws ++ w1) := by
    rw [List.nil_append]
    exact List.perm_append_comm
  exact ⟨cw_P_perm pm2 a, cw_D_perm pm2 b⟩
theorem cw_free {A0 : Nat → Prop} {ws : va_W} {q : Nat} {x : va_E} {H0 H : Heap} {locs : List Loc} (hD : va_D A0 (ws ++ [(q, x)])) (hS : va_S A0 H0 H locs) (hA : ∀ q, H0.size ≤ q → A0 q) : ∀ z, va_A [(q, x)] H.size z → A0 z := by
  have pm : (ws ++ [(q, x)]).Perm ([(q, x)] ++ ws) := List.perm_append_comm
  exact va_free (ws := [(q, x)] ++ ws) (wc := [(q, x)]) (cw_D_perm pm hD) hS hA [0] rfl
theorem cw_arrV {cA : ClassId} {n : Nat} {f g : Nat → Value} (h : ∀ i, i < n → f i = g i) : arrV cA n f = arrV cA n g := by
  unfold arrV
  congr 2
  funext j
  exact h j.val j.isLt
section CWR
variable {p : Program} {l : Launch} {e : Env} {R : Room} {s : State} {m : MethodId} {args : Array Value} {below : List Frame} {meth : Method} {c : Code} {H H0 : Heap} {locs : List Loc} {cells slots : Nat} {Q : State → Prop} {D : va_G} {cs : Nat → ClassId} {A : Nat → Prop} {ws : va_W} {cc : ByteArray} {pc N : Nat} {ls : Array Slot} {rest : List Value}
theorem cw_tI : Cond.arrayClass .int ∈ tv_ws := by decide +kernel
theorem cw_tJ : Cond.arrayClass .long ∈ tv_ws := by decide +kernel
theorem cw_tZ : Cond.arrayClass .boolean ∈ tv_ws := by decide +kernel
theorem cw_newI (hx : p.tables.exec = Jvm.exec) (hb : c.code = cc) (hts : ∀ w ∈ tv_ws, w.before args s = true) (hK : va_K D tv_cl (tv_tys cs) s) (hP : va_P D tv_cl ws H) (hD : va_D A ws) (hS : va_S A H0 H locs) (hA : ∀ q, H0.size ≤ q → A q) (N : Nat) (hN : N ≤ 4096) {n : Int32} (hn : n = nI N) (hcells : cells + 1 ≤ R.cells) (hslots : slots + N ≤ R.slots) (hdg : decode cc pc = .ok (.newarray .int, 2)) (kk : ∀ (q : Nat) (H1 : Heap), va_P D tv_cl (ws ++ [(q, .inl (cs 0, N, .inl (fun _ => 0)))]) H1 → va_D A (ws ++ [(q, .inl (cs 0, N, .inl (fun _ => 0)))]) → va_S A H0 H1 locs → W p l e R s m args below meth c H1 locs (cells + 1) (slots + N) Q (F0 m (pc + 2) ls (.ref q :: rest))) : W p l e R s m args below meth c H locs cells slots Q (F0 m pc ls (.int n :: rest)) := by
  subst hn
  refine va_newa (atype := .int) (ty := .int) (N' := N) (a0 := (N, .inl (fun _ => 0))) hx hb (hts _ cw_tI) rfl hK hP hD hS hA (fun _ => rfl) (nI_pos (by omega)) (tv_nc N) (by show N * 4 ≤ _; omega) hcells hslots hdg (fun q cA H1 hK1 hP1 hD1 hS1 => ?_)
  have h1 : s.vm.findClass ("[" ++ FieldType.int.toString) = some cA := (hK1.2 4 (cA, .int) rfl).2
  have h2 : s.vm.findClass ("[" ++ FieldType.int.toString) = some (cs 0) := (hK.2 0 (cs 0, .int) rfl).2
  have : cA = cs 0 := by rw [h1] at h2; exact Option.some.inj h2
  subst this
  exact kk q H1 hP1 hD1 hS1
theorem cw_newJ (hx : p.tables.exec = Jvm.exec) (hb : c.code = cc) (hts : ∀ w ∈ tv_ws, w.before args s = true) (hK : va_K D tv_cl (tv_tys cs) s) (hP : va_P D tv_cl ws H) (hD : va_D A ws) (hS : va_S A H0 H locs) (hA : ∀ q, H0.size ≤ q → A q) (N : Nat) (hN : N ≤ 4096) {n : Int32} (hn : n = nI N) (hcells : cells + 1 ≤ R.cells) (hslots : slots + N ≤ R.slots) (hdg : decode cc pc = .ok (.newarray .long, 2)) (kk : ∀ (q : Nat) (H1 : Heap), va_P D tv_cl (ws ++ [(q, .inl (cs 1, N, .inr (.inl (fun _ => 0))))]) H1 → va_D A (ws ++ [(q, .inl (cs 1, N, .inr (.inl (fun _ => 0))))]) → va_S A H0 H1 locs → W p l e R s m args below meth c H1 locs (cells + 1) (slots + N) Q (F0 m (pc + 2) ls (.ref q :: rest))) : W p l e R s m args below meth c H locs cells slots Q (F0 m pc ls (.int n :: rest)) := by
  subst hn
  refine va_newa (atype := .long) (ty := .long) (N' := N) (a0 := (N, .inr (.inl (fun _ => 0)))) hx hb (hts _ cw_tJ) rfl hK hP hD hS hA (fun _ => rfl) (nI_pos (by omega)) (tv_nc N) (by show N * 8 ≤ _; omega) hcells hslots hdg (fun q cA H1 hK1 hP1 hD1 hS1 => ?_)
  have h1 : s.vm.findClass ("[" ++ FieldType.long.toString) = some cA := (hK1.2 4 (cA, .long) rfl).2
  have h2 : s.vm.findClass ("[" ++ FieldType.long.toString) = some (cs 1) := (hK.2 1 (cs 1, .long) rfl).2
  have : cA = cs 1 := by rw [h1] at h2; exact Option.some.inj h2
  subst this
  exact kk q H1 hP1 hD1 hS1
theorem cw_newZ (hx : p.tables.exec = Jvm.exec) (hb : c.code = cc) (hts : ∀ w ∈ tv_ws, w.before args s = true) (hK : va_K D tv_cl (tv_tys cs) s) (hP : va_P D tv_cl ws H) (hD : va_D A ws) (hS : va_S A H0 H locs) (hA : ∀ q, H0.size ≤ q → A q) (N : Nat) (hN : N ≤ 4096) {n : Int32} (hn : n = nI N) (hcells : cells + 1 ≤ R.cells) (hslots : slots + N ≤ R.slots) (hdg : decode cc pc = .ok (.newarray .boolean, 2)) (kk : ∀ (q : Nat) (H1 : Heap), va_P D tv_cl (ws ++ [(q, .inl (cs 2, N, .inl (fun _ => 0)))]) H1 → va_D A (ws ++ [(q, .inl (cs 2, N, .inl (fun _ => 0)))]) → va_S A H0 H1 locs → W p l e R s m args below meth c H1 locs (cells + 1) (slots + N) Q (F0 m (pc + 2) ls (.ref q :: rest))) : W p l e R s m args below meth c H locs cells slots Q (F0 m pc ls (.int n :: rest)) := by
  subst hn
  refine va_newa (atype := .boolean) (ty := .boolean) (N' := N) (a0 := (N, .inl (fun _ => 0))) hx hb (hts _ cw_tZ) rfl hK hP hD hS hA (fun _ => rfl) (nI_pos (by omega)) (tv_nc N) (by show N * 1 ≤ _; omega) hcells hslots hdg (fun q cA H1 hK1 hP1 hD1 hS1 => ?_)
  have h1 : s.vm.findClass ("[" ++ FieldType.boolean.toString) = some cA := (hK1.2 4 (cA, .boolean) rfl).2
  have h2 : s.vm.findClass ("[" ++ FieldType.boolean.toString) = some (cs 2) := (hK.2 2 (cs 2, .boolean) rfl).2
  have : cA = cs 2 := by rw [h1] at h2; exact Option.some.inj h2
  subst this
  exact kk q H1 hP1 hD1 hS1
theorem cw_put {own : String} {idx ci k t a q0 : Nat} {fs : List Value} {ty : FieldType} {v : Value} (hx : p.tables.exec = Jvm.exec) (hb : c.code = cc) (hts : ∀ w ∈ tv_ws, w.before args s = true) (hown : s.vm.findClass own = some m.cls) (hK : va_K D tv_cl (tv_tys cs) s) (hP : va_P D tv_cl ws H) (hD : va_D A ws) (hS : va_S A H0 H locs) (hf : tv_F own idx ci k t) (hci : ci < 4) (he : ws[q0]? = some (a, .inr (ci, fs))) (hty : tv_ty ci k = ty) (hfin : (tv_T ci k).2.2.2 = false) (hn : narrow ty v = v) (hfit : fits ty v = true) (hl : k < fs.length) (hdg : decode cc pc = .ok (.putfield idx, 3)) (kk : ∀ (H1 : Heap) (locs1 : List Loc), va_P D tv_cl (ws.set q0 (a, .inr (ci, fs.set k v))) H1 → va_D A (ws.set q0 (a, .inr (ci, fs.set k v))) → va_S A H0 H1 locs1 → W p l e R s m args below meth c H1 locs1 cells slots Q (F0 m (pc + 3) ls rest)) : W p l e R s m args below meth c H locs cells slots Q (F0 m pc ls (v :: .ref a :: rest)) := by
  obtain ⟨i1, i2, i3, i4⟩ := tv_inN ci hci
  exact va_put (D := D) (ci := ci) (v := v) (ty := ty) (C := tv_R ci) (T := tv_T ci) (N := tv_nf ci) hx hb hts i1 (tv_ty ci) i3 i4 hown hK hP hD hS q0 he i2 k hf.2.1 (hts _ hf.1) (fun _ h9 => h9) hfin (by rw [i3 k hf.2.1, hty]) hn hfit hl hdg kk
theorem cw_putF {own : String} {idx ci k t a q0 : Nat} {fs : List Value} {ty : FieldType} {v : Value} (hx : p.tables.exec = Jvm.exec) (hb : c.code = cc) (hts : ∀ w ∈ tv_ws, w.before args s = true) (hown : s.vm.findClass own = some m.cls) (hK : va_K D tv_cl (tv_tys cs) s) (hP : va_P D tv_cl ws H) (hD : va_D A ws) (hS : va_S A H0 H locs) (hf : tv_F own idx ci k t) (hci : ci < 4) (he : ws[q0]? = some (a, .inr (ci, fs))) (hty : tv_ty ci k = ty) (hfin : (tv_T ci k).2.2.2 = true) (hin2 : meth.name = "<init>") (hdecl : (tv_T ci k).1 = own) (hn : narrow ty v = v) (hfit : fits ty v = true) (hl : k < fs.length) (hdg : decode cc pc = .ok (.putfield idx, 3)) (kk : ∀ (H1 : Heap) (locs1 : List Loc), va_P D tv_cl (ws.set q0 (a, .inr (ci, fs.set k v))) H1 → va_D A (ws.set q0 (a, .inr (ci, fs.set k v))) → va_S A H0 H1 locs1 → W p l e R s m args below meth c H1 locs1 cells slots Q (F0 m (pc + 3) ls rest)) : W p l e R s m args below meth c H locs cells slots Q (F0 m pc ls (v :: .ref a :: rest)) := by
  obtain ⟨i1, i2, i3, i4⟩ := tv_inN ci hci
  exact va_putF (D := D) (ci := ci) (v := v) (ty := ty) (C := tv_R ci) (T := tv_T ci) (N := tv_nf ci) hx hb hts i1 (tv_ty ci) i3 i4 hown hK hP hD hS q0 he i2 k hf.2.1 (hts _ hf.1) (fun _ h9 => h9) hfin hin2 hdecl (by rw [i3 k hf.2.1, hty]) hn hfit hl hdg kk
end CWR
