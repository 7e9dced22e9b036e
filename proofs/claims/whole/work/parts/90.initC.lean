/-! THE COMPONENT'S CONSTRUCTOR -/
abbrev tv_dX2 : List Value := [.null, .int 0, .null, .int 0, .int 0, .int 0, .int 0, .int 0, .null, .int 0, .int 0, .int 0, .null]
abbrev tvB (cs : Nat → ClassId) (h0 qv : Nat) (aP : Nat → Nat) (aT : Nat → Nat → Nat) (v : Nat) : va_W := [(h0, .inr (2, [.ref qv, .int 1, .ref (aP 2), .int 1, .int 30, .int 0, .int 0, .int 0, .ref (aT 20 0), .int 0, .int 0, .int 0, .ref (aT 21 0)])), (qv, .inl (cs 3, 20, .inr (.inr (.inr (.inr (fun i => if i < v then some (aT i 0) else none))))))] ++ pg_w cs aP
def tvT (cs : Nat → ClassId) (aT : Nat → Nat → Nat) (ts : List Nat) : va_W := ts.flatMap (fun t => tr_w cs (aT t))
def tvW (cs : Nat → ClassId) (h0 : Nat) (u : Nat × (Nat → Nat) × (Nat → Nat → Nat)) : va_W := tvB cs h0 u.1 u.2.1 u.2.2 20 ++ tvT cs u.2.2 (20 :: 21 :: List.range 20)
theorem cw_olX2 : Cond.methodLink RX2 3 Lib.objectInit ∈ tv_ws := by decide +kernel
theorem cw_k1 : Cond.classLink RX2 9 RX1 ∈ tv_ws := by decide +kernel
theorem cw_k0 : Cond.classLink RX2 19 RX0 ∈ tv_ws := by decide +kernel
theorem cw_n1 : Cond.instantiable RX1 15 ∈ tv_ws := by decide +kernel
theorem cw_n0 : Cond.instantiable RX0 6 ∈ tv_ws := by decide +kernel
theorem cw_j1 : Cond.initialized RX1 ∈ tv_ws := by decide +kernel
theorem cw_j0 : Cond.initialized RX0 ∈ tv_ws := by decide +kernel
theorem cw_m1 : Cond.instanceMethod yX1_init ∈ tv_ws := by decide +kernel
theorem cw_m0 : Cond.instanceMethod yX0_init ∈ tv_ws := by decide +kernel
theorem cw_c1 : Cond.code yX1_init cX1_init 1 none ∈ tv_ws := by decide +kernel
theorem cw_c0 : Cond.code yX0_init cX0_init 1 none ∈ tv_ws := by decide +kernel
theorem cw_good {w : Cond} (h : w ∈ tv_ws) : GoodIn tv_ws (w :: tv_ws) := by
  intro x hx
  have hin : x ∈ tv_ws := by
    rcases List.mem_cons.mp hx with rfl | z
    · exact h
    · exact z
  exact ⟨hin, tv_ws_good hin⟩
section CWT
variable {p : Program} {l : Launch} {e : Env} {R : Room} {s : State} {m : MethodId} {args : Array Value} {below : List Frame} {meth : Method} {c : Code} {H H0 : Heap} {locs : List Loc} {cells slots : Nat} {Q : State → Prop} {D : va_G} {cs : Nat → ClassId} {A : Nat → Prop} {ws : va_W} {pc : Nat} {ls : Array Slot} {rest : List Value}
theorem cw_last {q : Nat} {x : va_E} (hP : va_P D tv_cl (ws ++ [(q, x)]) H) : va_P D tv_cl [(q, x)] H := cw_P_mem.mpr (fun c hc => cw_P_mem.mp hP c (List.mem_append_right _ hc))
theorem cw_one {q : Nat} {x : va_E} : va_D (fun _ => True) [(q, x)] := cw_D_mem.mpr ⟨by simp, fun _ _ => trivial⟩
set_option maxHeartbeats 4000000 in
set_option maxRecDepth 100000 in
/-- a new tree -/
theorem cw_tree (hx : p.tables.exec = Jvm.exec) (hb : c.code = cX2_init) (hml : c.maxLocals = 2) (hown : s.vm.findClass RX2 = some m.cls) (hts : ∀ w ∈ tv_ws, w.before args s = true) (hK : va_K D tv_cl (tv_tys cs) s) (hNw : va_Nw (.methodLinkNest RX2 41 yX1_init "TrieVersions") s) (hP : va_P D tv_cl ws H) (hD : va_D A ws) (hS : va_S A H0 H locs) (hA : ∀ q, H0.size ≤ q → A q) (hls : ls.size = 2) (hR : 2 ≤ R.frames ∧ 32 ≤ R.locals) (hcells : cells + 13 ≤ R.cells) (hslots : slots + 879 ≤ R.slots) (hrest : (rest.map fun v => v.category).sum ≤ 7) (d1 : decode cX2_init pc = .ok (.new 9, 3)) (d2 : decode cX2_init (pc + 3) = .ok (.dup, 1)) (d3 : decode cX2_init (pc + 3 + 1) = .ok (.invokespecial 41, 3)) (kk : ∀ (a : Nat → Nat) (H1 : Heap) (locs1 : List Loc), va_P D tv_cl (ws ++ tr_w cs a) H1 → va_D A (ws ++ tr_w cs a) → va_S A H0 H1 locs1 → W p l e R s m args below meth c H1 locs1 (cells + 13) (slots + 879) Q (F0 m (pc + 3 + 1 + 3) ls (.ref (a 0) :: rest))) : W p l e R s m args below meth c H locs cells slots Q (F0 m pc ls rest) := by
  refine va_new (ci := 1) (fs := tv_dX1) (C := RX1) (T := TX1) (N := 15) hx hb hts tv_in1 tyX1 tyX1_ok hown (hts _ cw_k1) (hts _ cw_n1) (hts _ cw_j1) hK hP hD hS hA rfl (fun j hj => ?_) (by omega) (by omega) d1 (fun q5 H hP hD hS => ?_)
  · match j, hj with
    | 0, _ => rfl
    | 1, _ => rfl
    | 2, _ => rfl
    | 3, _ => rfl
    | 4, _ => rfl
    | 5, _ => rfl
    | 6, _ => rfl
    | 7, _ => rfl
    | 8, _ => rfl
    | 9, _ => rfl
    | 10, _ => rfl
    | 11, _ => rfl
    | 12, _ => rfl
    | 13, _ => rfl
    | 14, _ => rfl
    | j + 15, h => exact absurd h (by omega)
  · refine lv_dup hx hb d2 rfl ?_
    have hFc := cw_free hD hS hA
    refine va_callv (va_runIN (As := []) (rest := .ref q5 :: rest) ⟨hx, hb, hml, hown, hts⟩ (ci_X1 l D cs q5 H.size) ⟨va_cnB 0 hts (cw_good cw_c1) rfl rfl rfl hNw (hts _ cw_j1) (by decide +kernel) ⟨hR.1, hR.2⟩, rfl, hts _ cw_m1⟩ ⟨fun a U g mk q => by obtain ⟨q0, q1, qP, qK, qD⟩ := q; exact ⟨q0, q1, qP, va_K.moved (u := U) (U := U.calling g mk a) (Vm.Alike.refl U.vm) qK, qD⟩, fun U hU hW => ⟨rfl, by rw [hU], by rw [hU]; exact cw_last hP, va_K.moved hW.alike hK, cw_one⟩⟩ rfl rfl hls rfl (lv_room (by simp only [List.map_cons, List.sum_cons]; show 1 + _ ≤ 8; omega)) d3 ⟨by omega, by omega⟩) hS (fun q _ h => hFc q h) hFc (fun a t H1 locs ht hvm hw hB hz1 hk1 hS => ?_)
    obtain ⟨hP1, hD1⟩ := hB
    rw [ht] at hP1
    obtain ⟨hP, hD⟩ := cw_join hP hD hk1 hFc hP1 hD1
    refine W.widen (k := cells + 13) (n := slots + 879) (by omega) (by omega) ?_
    rw [← hw]
    exact kk a H1 locs hP hD hS
set_option maxHeartbeats 4000000 in
set_option maxRecDepth 100000 in
/-- a new page -/
theorem cw_page (hx : p.tables.exec = Jvm.exec) (hb : c.code = cX2_init) (hml : c.maxLocals = 2) (hown : s.vm.findClass RX2 = some m.cls) (hts : ∀ w ∈ tv_ws, w.before args s = true) (hK : va_K D tv_cl (tv_tys cs) s) (hNw : va_Nw (.methodLinkNest RX2 21 yX0_init "TrieVersions") s) (hP : va_P D tv_cl ws H) (hD : va_D A ws) (hS : va_S A H0 H locs) (hA : ∀ q, H0.size ≤ q → A q) (hls : ls.size = 2) (hR : 2 ≤ R.frames ∧ 32 ≤ R.locals) (hcells : cells + 4 ≤ R.cells) (hslots : slots + 186 ≤ R.slots) (hrest : (rest.map fun v => v.category).sum ≤ 7) (d1 : decode cX2_init pc = .ok (.new 19, 3)) (d2 : decode cX2_init (pc + 3) = .ok (.dup, 1)) (d3 : decode cX2_init (pc + 3 + 1) = .ok (.invokespecial 21, 3)) (kk : ∀ (a : Nat → Nat) (H1 : Heap) (locs1 : List Loc), va_P D tv_cl (ws ++ pg_w cs a) H1 → va_D A (ws ++ pg_w cs a) → va_S A H0 H1 locs1 → W p l e R s m args below meth c H1 locs1 (cells + 4) (slots + 186) Q (F0 m (pc + 3 + 1 + 3) ls (.ref (a 2) :: rest))) : W p l e R s m args below meth c H locs cells slots Q (F0 m pc ls rest) := by
  refine va_new (ci := 0) (fs := tv_dX0) (C := RX0) (T := TX0) (N := 6) hx hb hts tv_in0 tyX0 tyX0_ok hown (hts _ cw_k0) (hts _ cw_n0) (hts _ cw_j0) hK hP hD hS hA rfl (fun j hj => ?_) (by omega) (by omega) d1 (fun q5 H hP hD hS => ?_)
  · match j, hj with
    | 0, _ => rfl
    | 1, _ => rfl
    | 2, _ => rfl
    | 3, _ => rfl
    | 4, _ => rfl
    | 5, _ => rfl
    | j + 6, h => exact absurd h (by omega)
  · refine lv_dup hx hb d2 rfl ?_
    have hFc := cw_free hD hS hA
    refine va_callv (va_runIN (As := []) (rest := .ref q5 :: rest) ⟨hx, hb, hml, hown, hts⟩ (ci_X0 l D cs q5 H.size) ⟨va_cnB 0 hts (cw_good cw_c0) rfl rfl rfl hNw (hts _ cw_j0) (by decide +kernel) ⟨hR.1, hR.2⟩, rfl, hts _ cw_m0⟩ ⟨fun a U g mk q => by obtain ⟨q0, q1, qP, qK, qD⟩ := q; exact ⟨q0, q1, qP, va_K.moved (u := U) (U := U.calling g mk a) (Vm.Alike.refl U.vm) qK, qD⟩, fun U hU hW => ⟨rfl, by rw [hU], by rw [hU]; exact cw_last hP, va_K.moved hW.alike hK, cw_one⟩⟩ rfl rfl hls rfl (lv_room (by simp only [List.map_cons, List.sum_cons]; show 1 + _ ≤ 8; omega)) d3 ⟨by omega, by omega⟩) hS (fun q _ h => hFc q h) hFc (fun a t H1 locs ht hvm hw hB hz1 hk1 hS => ?_)
    obtain ⟨hP1, hD1⟩ := hB
    rw [ht] at hP1
    obtain ⟨hP, hD⟩ := cw_join hP hD hk1 hFc hP1 hD1
    refine W.widen (k := cells + 4) (n := slots + 186) (by omega) (by omega) ?_
    rw [← hw]
    exact kk a H1 locs hP hD hS
theorem tvT_up {aT : Nat → Nat → Nat} {a : Nat → Nat} {v : Nat} (hv : v < 20) : tvT cs (fun t => if t = v then a else aT t) (20 :: 21 :: List.range (v + 1)) = tvT cs aT (20 :: 21 :: List.range v) ++ tr_w cs a := by
  unfold tvT
  have e : ∀ ts : List Nat, (∀ t ∈ ts, t ≠ v) → ts.flatMap (fun t => tr_w cs ((fun t => if t = v then a else aT t) t)) = ts.flatMap (fun t => tr_w cs (aT t)) := by
    intro ts
    induction ts with
    | nil => intro _; rfl
    | cons t ts ih =>
      intro h
      rw [List.flatMap_cons, List.flatMap_cons, ih (fun x hx => h x (List.mem_cons_of_mem _ hx))]
      simp only
      rw [if_neg (h t List.mem_cons_self)]
  have r : (20 :: 21 :: List.range (v + 1)) = (20 :: 21 :: List.range v) ++ [v] := by rw [List.range_succ]; rfl
  have e2 : List.flatMap (fun t => tr_w cs ((fun t => if t = v then a else aT t) t)) [v] = tr_w cs a := by
    rw [List.flatMap_cons, List.flatMap_nil, List.append_nil]
    show tr_w cs (if v = v then a else aT v) = tr_w cs a
    rw [if_pos rfl]
  rw [r, List.flatMap_append, e (20 :: 21 :: List.range v) (fun t ht => ?_), e2]
  simp only [List.mem_cons, List.mem_range] at ht
  omega
end CWT
