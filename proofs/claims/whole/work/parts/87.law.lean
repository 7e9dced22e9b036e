/-! THE LAW'S LOOP -/
def R_law : String := "TrieVersionsLaw"
def lw_Q (_ : Array Value) (s : State) (o : Outcome) (t : State) : Prop := o = .returned (some (.int 1)) ∧ Framed s o t [] 600000 7302250
def lw_Z (below : List Frame) (a : Array Value) (s : State) : State → Prop := fun t => ∃ o, t.status = .running ∧ Ended t below o ∧ lw_Q a s o t
/-- the law's own end, with 1 on the stack, nothing written that was there before, its room as the claim has it -/
theorem lw_ret {p : Program} {l : Launch} {e : Env} {s : State} {m : MethodId} {below : List Frame} {meth : Method} {c : Code} {b : Nat} (hx : p.tables.exec = Jvm.exec) (hb : c.code = code) (hr : meth.sig.returnType = ret) (hlocks : meth.locks = false) {pc : Nat} {H : Heap} {ls : Array Slot} (hdg : decode code pc = .ok (.ireturn, 1)) : W p l e room_1 s m #[Value.ref b] below meth c H [] 600000 7302250 (lw_Z below #[Value.ref b] s) (F0 m pc ls [.int 1]) := by
  intro T hT X
  obtain ⟨fs, hret, hrun, hended, hW, hframe⟩ := X.leave (v := some (.int 1)) (hlocks := hlocks) (fun h => by rw [hr] at h; cases h)
  have hmeth' : T.vm.method? m = some meth := X.method'
  refine ⟨T.setFrames fs, ?_, .returned (some (.int 1)), hrun, hended, rfl, ⟨_, rfl⟩, hW, hframe⟩
  jvm_step X.here [X.here.top, hx, hb, hdg, hmeth', hr, ret, narrow_b1]
  (try refine ⟨rfl, ?_⟩); (try refine ⟨rfl, ?_⟩)
  first | (intro acts; rw [hret _ acts rfl rfl rfl]) | rw [hret _ _ rfl rfl rfl]
  exact Steps.refl _
/-- a call, where the context is fixed -/
theorem tv_callW {p : Program} {l : Launch} {e : Env} {R : Room} {s : State} {m : MethodId} {args : Array Value} {below : List Frame} {meth : Method} {c : Code} {cells slots : Nat} {Q : State → Prop} {D : va_G} {cs : Nat → ClassId} {A : Nat → Prop} {ad : Nat → Nat} {own : String} {cc : ByteArray} {nL d pc : Nat} {ls : Array Slot} {idx ci n q : Nat} {y : MethodName} {As st stk : List Value} {h : tv_AH} {post : Option Value → tv_AH → Prop} {H : Heap} {locs : List Loc} (hx : p.tables.exec = Jvm.exec) (hb : c.code = cc) (hml : c.maxLocals = nL) (hown : s.vm.findClass own = some m.cls) (hts : ∀ w ∈ tv_ws, w.before args s = true) (hK : va_K D tv_cl (tv_tys cs) s) (hok : tv_ok ad A) (hR : d + 1 ≤ R.frames ∧ 64 * (d + 1) ≤ R.locals ∧ cells ≤ R.cells ∧ slots ≤ R.slots) (hP : va_P D tv_cl (tv_enc ad cs h) H) (hS : va_S A s.heap H locs) (hls : ls.size = nL) (hd : decode cc pc = .ok (.invokevirtual idx, 3)) (hv : tv_V own idx y ci n) (hq : tv_ko q = some ci) (hstk : stk = As.reverse ++ .ref (ad q) :: st) (hn : As.length = n) (hst : (st.map fun v => v.category).sum ≤ 8) (kk : tv_Call ad d y (.ref (ad q) :: As) h post) (kn : ∀ r h' H1 locs1, post r h' → va_P D tv_cl (tv_enc ad cs h') H1 → va_S A s.heap H1 locs1 → W p l e R s m args below meth c H1 locs1 cells slots Q (F0 m (pc + 3) ls (r.toList ++ st))) : W p l e R s m args below meth c H locs cells slots Q (F0 m pc ls stk) := by
  obtain ⟨cc', nL', rt', hcode, hnl, hM⟩ := kk
  have hM := hM _ (fun _ _ z => z) l D cs A hok
  obtain ⟨⟨w1, w2, w3, w4⟩, hyc, hy1, hy2, hyn⟩ := hv
  obtain ⟨nn, hnn, he⟩ := tv_at (ad := ad) (cs := cs) (h := h) (tv_koL hq)
  rw [tv_ce_o hq] at he
  obtain ⟨i1, i2, i3, i4⟩ := tv_inN ci (tv_ko4 hq).1
  have hG : GoodIn tv_ws (wsV own idx (tv_R ci) y (.code y cc' nL' rt' :: tv_ws)) := by
    intro w hw
    have hin : w ∈ tv_ws := by
      unfold wsV at hw
      rcases List.mem_append.mp hw with z | z
      · simp only [List.mem_cons, List.not_mem_nil, or_false] at z
        rcases z with rfl | rfl | rfl | rfl <;> assumption
      · rcases List.mem_cons.mp z with rfl | z
        · exact hcode
        · exact z
    exact ⟨hin, tv_ws_good hin⟩
  refine tv_back (va_runV (As := As) (rest := st) (C := tv_R ci) (Ts := tv_ws) ⟨hx, hb, hml, hown, hts⟩ hM (cwV n hts hG rfl rfl rfl ⟨hyc, hy1, hy2, hyn⟩ ⟨hR.1, ?_⟩) ⟨fun a U g mk z => ?_, va_recv hK hP i2 he, fun U hU hW => ?_⟩ rfl hn hls hstk (lv_room hst) hd ⟨hR.2.2.1, hR.2.2.2⟩) hS (fun r h' H1 locs1 hp hP1 hS1 => kn r h' H1 locs1 hp hP1 hS1)
  · exact Nat.le_trans (show 8 + (nL' + 11) + 64 * d ≤ 64 * (d + 1) by omega) hR.2.1
  · obtain ⟨q0, qP, qK⟩ := z
    exact ⟨q0, qP, va_K.moved (u := U) (U := U.calling g mk a) (Vm.Alike.refl U.vm) qK⟩
  · exact ⟨rfl, by rw [hU]; exact hP, va_K.moved hW.alike hK⟩
/-- what is fixed along the law -/
def lw_F (p : Program) (s : State) (m : MethodId) (meth : Method) (c : Code) (cells slots b L : Nat) (xs : Nat → Int32) (D : va_G) (cs : Nat → ClassId) (A : Nat → Prop) (ad : Nat → Nat) : Prop :=
  p.tables.exec = Jvm.exec ∧ c.code = code ∧ c.maxLocals = 4 ∧ s.vm.findClass RL = some m.cls ∧ (∀ w ∈ tv_ws, w.before #[Value.ref b] s = true) ∧ va_K D tv_cl (tv_tys cs) s ∧ tv_ok ad A ∧ (cells ≤ 600000 ∧ slots ≤ 7302250) ∧ va_X b L xs s s.heap ∧ b < s.heap.size ∧ ¬ A b ∧ L ≤ 2048 ∧ meth.sig.returnType = ret ∧ meth.locks = false ∧ ∀ q, A q → s.heap.size ≤ q
/-- at this pc, with i ints read, from every heap that I speaks of, the law comes to its end -/
def lw_at (p : Program) (l : Launch) (e : Env) (s : State) (m : MethodId) (below : List Frame) (meth : Method) (c : Code) (cells slots b : Nat) (D : va_G) (cs : Nat → ClassId) (A : Nat → Prop) (ad : Nat → Nat) (pc i : Nat) (I : tv_AH → Prop) : Prop :=
  ∀ (h : tv_AH) (H : Heap) (locs : List Loc) (ls : Array Slot), I h → va_P D tv_cl (tv_enc ad cs h) H → va_S A s.heap H locs → lv_has ls 4 [(0, .ref b), (1, .ref (ad 0)), (2, .ref (ad 400)), (3, .int (nI i))] → W p l e room_1 s m #[Value.ref b] below meth c H locs cells slots (lw_Z below #[Value.ref b] s) (F0 m pc ls [])
section LWL
variable {p : Program} {l : Launch} {e : Env} {s : State} {m : MethodId} {below : List Frame} {meth : Method} {c : Code} {cells slots b L : Nat} {xs : Nat → Int32} {D : va_G} {cs : Nat → ClassId} {A : Nat → Prop} {ad : Nat → Nat} {i pc : Nat}
theorem lw_arg {k : Nat} {k' : Int} {H : Heap} {locs : List Loc} {ls : Array Slot} {st : List Value} {Q : State → Prop} (F : lw_F p s m meth c cells slots b L xs D cs A ad) (hS : va_S A s.heap H locs) (hl : lv_has ls 4 [(0, .ref b), (1, .ref (ad 0)), (2, .ref (ad 400)), (3, .int (nI i))]) (hk : Int32.ofInt k' = nI k) (hik : i + k < L) (d1 : decode code pc = .ok (.aload_n 0, 1)) (d2 : decode code (pc + 1) = .ok (.iload_n 3, 1)) (d3 : decode code (pc + 1 + 1) = .ok (.iconst k', 1)) (d4 : decode code (pc + 1 + 1 + 1) = .ok (.iadd, 1)) (d5 : decode code (pc + 1 + 1 + 1 + 1) = .ok (.iaload, 1)) (kk : W p l e room_1 s m #[Value.ref b] below meth c H locs cells slots Q (F0 m (pc + 5) ls (.int (xs (i + k)) :: st))) : W p l e room_1 s m #[Value.ref b] below meth c H locs cells slots Q (F0 m pc ls st) := by
  obtain ⟨hx, hb, hml, hown, hts, hK, hok, hR, hX, hbl, hbA, hL, hr, hlk, hA⟩ := F
  refine lv_aload_n hx hb d1 rfl (lv_at hl 0 rfl) ?_
  refine lv_iload_n hx hb d2 rfl (lv_at hl 3 rfl) ?_
  refine lv_iconst (v := nI k) hx hb d3 hk ?_
  refine lv_iadd hx hb d4 ?_
  rw [nI_add]
  refine va_sld hx hb hX hbl hbA hS (pk_in (i + k) L hik) d5 ?_
  rw [tv_nc (i + k)]
  exact kk
theorem lw_case0 {I I' : tv_AH → Prop} {y2 y3 : MethodName} {i1 i2 : Nat} {off : Int} (F : lw_F p s m meth c cells slots b L xs D cs A ad) (hi : i + 4 ≤ L) (v1 : tv_V RL i1 y2 2 0) (v2 : tv_V RL i2 y3 3 0) (d0 : decode code pc = .ok (.aload_n 1, 1)) (d1 : decode code (pc + 1) = .ok (.invokevirtual i1, 3)) (d4 : decode code (pc + 4) = .ok (.aload_n 2, 1)) (d5 : decode code (pc + 5) = .ok (.invokevirtual i2, 3)) (d8 : decode code (pc + 8) = .ok (.if_icmp .eq off, 3)) (ht : ((pc + 8 : Nat) : Int) + off = ((834 : Nat) : Int)) (pr : ∀ h, I h → tv_CI ad 30 y2 [.ref (ad 0)] h (fun r h1 => tv_CI ad 30 y3 [.ref (ad 400)] h1 (fun r' h2 => r = r' ∧ I' h2))) (nx : lw_at p l e s m below meth c cells slots b D cs A ad 834 i I') : lw_at p l e s m below meth c cells slots b D cs A ad pc i I := by
  intro h H locs ls hI hP hS hl
  obtain ⟨hx, hb, hml, hown, hts, hK, hok, hR, hX, hbl, hbA, hL, hr, hlk, hA⟩ := id F
  have hR' : 30 + 1 ≤ room_1.frames ∧ 64 * (30 + 1) ≤ room_1.locals ∧ cells ≤ room_1.cells ∧ slots ≤ room_1.slots := ⟨Nat.le_of_ble_eq_true rfl, Nat.le_of_ble_eq_true rfl, hR.1, hR.2⟩
  refine lv_aload_n hx hb d0 rfl (lv_at hl 1 rfl) ?_
  refine tv_callW (q := 0) (As := []) (st := []) hx hb hml hown hts hK hok hR' hP hS hl.1 d1 v1 rfl rfl rfl (Nat.zero_le _) (pr h hI) (fun r h1 H1 locs1 hp hP1 hS1 => ?_)
  obtain ⟨x, rfl, hp⟩ := hp
  refine lv_aload_n hx hb d4 rfl (lv_at hl 2 rfl) ?_
  refine tv_callW (q := 400) (As := []) (st := [.int x]) hx hb hml hown hts hK hok hR' hP1 hS1 hl.1 d5 v2 rfl rfl rfl (Nat.le_of_ble_eq_true rfl) hp (fun r h2 H2 locs2 hp2 hP2 hS2 => ?_)
  obtain ⟨x', rfl, hp2⟩ := hp2
  refine lv_icmp_eq (tgt := 834) hx hb d8 ht (fun z => ?_) (fun z => absurd hp2.1 z)
  exact nx h2 H2 locs2 ls hp2.2 hP2 hS2 hl
theorem lw_case1 {I I' : tv_AH → Prop} {y2 y3 : MethodName} {i1 i2 : Nat} {off : Int} (F : lw_F p s m meth c cells slots b L xs D cs A ad) (hi : i + 4 ≤ L) (v1 : tv_V RL i1 y2 2 1) (v2 : tv_V RL i2 y3 3 1) (d0 : decode code pc = .ok (.aload_n 1, 1)) (d1 : decode code (pc + 1) = .ok (.aload_n 0, 1)) (d2 : decode code (pc + 2) = .ok (.iload_n 3, 1)) (d3 : decode code (pc + 3) = .ok (.iconst 1, 1)) (d4 : decode code (pc + 4) = .ok (.iadd, 1)) (d5 : decode code (pc + 5) = .ok (.iaload, 1)) (d6 : decode code (pc + 6) = .ok (.invokevirtual i1, 3)) (d9 : decode code (pc + 9) = .ok (.aload_n 2, 1)) (d10 : decode code (pc + 10) = .ok (.aload_n 0, 1)) (d11 : decode code (pc + 11) = .ok (.iload_n 3, 1)) (d12 : decode code (pc + 12) = .ok (.iconst 1, 1)) (d13 : decode code (pc + 13) = .ok (.iadd, 1)) (d14 : decode code (pc + 14) = .ok (.iaload, 1)) (d15 : decode code (pc + 15) = .ok (.invokevirtual i2, 3)) (d18 : decode code (pc + 18) = .ok (.if_icmp .eq off, 3)) (ht : ((pc + 18 : Nat) : Int) + off = ((834 : Nat) : Int)) (pr : ∀ h, I h → tv_CI ad 30 y2 [.ref (ad 0), .int (xs (i + 1))] h (fun r h1 => tv_CI ad 30 y3 [.ref (ad 400), .int (xs (i + 1))] h1 (fun r' h2 => r = r' ∧ I' h2))) (nx : lw_at p l e s m below meth c cells slots b D cs A ad 834 i I') : lw_at p l e s m below meth c cells slots b D cs A ad pc i I := by
  intro h H locs ls hI hP hS hl
  obtain ⟨hx, hb, hml, hown, hts, hK, hok, hR, hX, hbl, hbA, hL, hr, hlk, hA⟩ := id F
  have hR' : 30 + 1 ≤ room_1.frames ∧ 64 * (30 + 1) ≤ room_1.locals ∧ cells ≤ room_1.cells ∧ slots ≤ room_1.slots := ⟨Nat.le_of_ble_eq_true rfl, Nat.le_of_ble_eq_true rfl, hR.1, hR.2⟩
  refine lv_aload_n hx hb d0 rfl (lv_at hl 1 rfl) ?_
  refine lw_arg (k := 1) F hS hl rfl (by omega) d1 d2 d3 d4 d5 ?_
  refine tv_callW (q := 0) (As := [.int (xs (i + 1))]) (st := []) hx hb hml hown hts hK hok hR' hP hS hl.1 d6 v1 rfl rfl rfl (Nat.zero_le _) (pr h hI) (fun r h1 H1 locs1 hp hP1 hS1 => ?_)
  obtain ⟨x, rfl, hp⟩ := hp
  refine lv_aload_n hx hb d9 rfl (lv_at hl 2 rfl) ?_
  refine lw_arg (k := 1) F hS1 hl rfl (by omega) d10 d11 d12 d13 d14 ?_
  refine tv_callW (q := 400) (As := [.int (xs (i + 1))]) (st := [.int x]) hx hb hml hown hts hK hok hR' hP1 hS1 hl.1 d15 v2 rfl rfl rfl (Nat.le_of_ble_eq_true rfl) hp (fun r h2 H2 locs2 hp2 hP2 hS2 => ?_)
  obtain ⟨x', rfl, hp2⟩ := hp2
  refine lv_icmp_eq (tgt := 834) hx hb d18 ht (fun z => ?_) (fun z => absurd hp2.1 z)
  exact nx h2 H2 locs2 ls hp2.2 hP2 hS2 hl
theorem lw_case2 {I I' : tv_AH → Prop} {y2 y3 : MethodName} {i1 i2 : Nat} {off : Int} (F : lw_F p s m meth c cells slots b L xs D cs A ad) (hi : i + 4 ≤ L) (v1 : tv_V RL i1 y2 2 2) (v2 : tv_V RL i2 y3 3 2) (d0 : decode code pc = .ok (.aload_n 1, 1)) (d1 : decode code (pc + 1) = .ok (.aload_n 0, 1)) (d2 : decode code (pc + 2) = .ok (.iload_n 3, 1)) (d3 : decode code (pc + 3) = .ok (.iconst 1, 1)) (d4 : decode code (pc + 4) = .ok (.iadd, 1)) (d5 : decode code (pc + 5) = .ok (.iaload, 1)) (d6 : decode code (pc + 6) = .ok (.aload_n 0, 1)) (d7 : decode code (pc + 7) = .ok (.iload_n 3, 1)) (d8 : decode code (pc + 8) = .ok (.iconst 2, 1)) (d9 : decode code (pc + 9) = .ok (.iadd, 1)) (d10 : decode code (pc + 10) = .ok (.iaload, 1)) (d11 : decode code (pc + 11) = .ok (.invokevirtual i1, 3)) (d14 : decode code (pc + 14) = .ok (.aload_n 2, 1)) (d15 : decode code (pc + 15) = .ok (.aload_n 0, 1)) (d16 : decode code (pc + 16) = .ok (.iload_n 3, 1)) (d17 : decode code (pc + 17) = .ok (.iconst 1, 1)) (d18 : decode code (pc + 18) = .ok (.iadd, 1)) (d19 : decode code (pc + 19) = .ok (.iaload, 1)) (d20 : decode code (pc + 20) = .ok (.aload_n 0, 1)) (d21 : decode code (pc + 21) = .ok (.iload_n 3, 1)) (d22 : decode code (pc + 22) = .ok (.iconst 2, 1)) (d23 : decode code (pc + 23) = .ok (.iadd, 1)) (d24 : decode code (pc + 24) = .ok (.iaload, 1)) (d25 : decode code (pc + 25) = .ok (.invokevirtual i2, 3)) (d28 : decode code (pc + 28) = .ok (.if_icmp .eq off, 3)) (ht : ((pc + 28 : Nat) : Int) + off = ((834 : Nat) : Int)) (pr : ∀ h, I h → tv_CI ad 30 y2 [.ref (ad 0), .int (xs (i + 1)), .int (xs (i + 2))] h (fun r h1 => tv_CI ad 30 y3 [.ref (ad 400), .int (xs (i + 1)), .int (xs (i + 2))] h1 (fun r' h2 => r = r' ∧ I' h2))) (nx : lw_at p l e s m below meth c cells slots b D cs A ad 834 i I') : lw_at p l e s m below meth c cells slots b D cs A ad pc i I := by
  intro h H locs ls hI hP hS hl
  obtain ⟨hx, hb, hml, hown, hts, hK, hok, hR, hX, hbl, hbA, hL, hr, hlk, hA⟩ := id F
  have hR' : 30 + 1 ≤ room_1.frames ∧ 64 * (30 + 1) ≤ room_1.locals ∧ cells ≤ room_1.cells ∧ slots ≤ room_1.slots := ⟨Nat.le_of_ble_eq_true rfl, Nat.le_of_ble_eq_true rfl, hR.1, hR.2⟩
  refine lv_aload_n hx hb d0 rfl (lv_at hl 1 rfl) ?_
  refine lw_arg (k := 1) F hS hl rfl (by omega) d1 d2 d3 d4 d5 ?_
  refine lw_arg (k := 2) F hS hl rfl (by omega) d6 d7 d8 d9 d10 ?_
  refine tv_callW (q := 0) (As := [.int (xs (i + 1)), .int (xs (i + 2))]) (st := []) hx hb hml hown hts hK hok hR' hP hS hl.1 d11 v1 rfl rfl rfl (Nat.zero_le _) (pr h hI) (fun r h1 H1 locs1 hp hP1 hS1 => ?_)
  obtain ⟨x, rfl, hp⟩ := hp
  refine lv_aload_n hx hb d14 rfl (lv_at hl 2 rfl) ?_
  refine lw_arg (k := 1) F hS1 hl rfl (by omega) d15 d16 d17 d18 d19 ?_
  refine lw_arg (k := 2) F hS1 hl rfl (by omega) d20 d21 d22 d23 d24 ?_
  refine tv_callW (q := 400) (As := [.int (xs (i + 1)), .int (xs (i + 2))]) (st := [.int x]) hx hb hml hown hts hK hok hR' hP1 hS1 hl.1 d25 v2 rfl rfl rfl (Nat.le_of_ble_eq_true rfl) hp (fun r h2 H2 locs2 hp2 hP2 hS2 => ?_)
  obtain ⟨x', rfl, hp2⟩ := hp2
  refine lv_icmp_eq (tgt := 834) hx hb d28 ht (fun z => ?_) (fun z => absurd hp2.1 z)
  exact nx h2 H2 locs2 ls hp2.2 hP2 hS2 hl
theorem lw_case3 {I I' : tv_AH → Prop} {y2 y3 : MethodName} {i1 i2 : Nat} {off : Int} (F : lw_F p s m meth c cells slots b L xs D cs A ad) (hi : i + 4 ≤ L) (v1 : tv_V RL i1 y2 2 3) (v2 : tv_V RL i2 y3 3 3) (d0 : decode code pc = .ok (.aload_n 1, 1)) (d1 : decode code (pc + 1) = .ok (.aload_n 0, 1)) (d2 : decode code (pc + 2) = .ok (.iload_n 3, 1)) (d3 : decode code (pc + 3) = .ok (.iconst 1, 1)) (d4 : decode code (pc + 4) = .ok (.iadd, 1)) (d5 : decode code (pc + 5) = .ok (.iaload, 1)) (d6 : decode code (pc + 6) = .ok (.aload_n 0, 1)) (d7 : decode code (pc + 7) = .ok (.iload_n 3, 1)) (d8 : decode code (pc + 8) = .ok (.iconst 2, 1)) (d9 : decode code (pc + 9) = .ok (.iadd, 1)) (d10 : decode code (pc + 10) = .ok (.iaload, 1)) (d11 : decode code (pc + 11) = .ok (.aload_n 0, 1)) (d12 : decode code (pc + 12) = .ok (.iload_n 3, 1)) (d13 : decode code (pc + 13) = .ok (.iconst 3, 1)) (d14 : decode code (pc + 14) = .ok (.iadd, 1)) (d15 : decode code (pc + 15) = .ok (.iaload, 1)) (d16 : decode code (pc + 16) = .ok (.invokevirtual i1, 3)) (d19 : decode code (pc + 19) = .ok (.aload_n 2, 1)) (d20 : decode code (pc + 20) = .ok (.aload_n 0, 1)) (d21 : decode code (pc + 21) = .ok (.iload_n 3, 1)) (d22 : decode code (pc + 22) = .ok (.iconst 1, 1)) (d23 : decode code (pc + 23) = .ok (.iadd, 1)) (d24 : decode code (pc + 24) = .ok (.iaload, 1)) (d25 : decode code (pc + 25) = .ok (.aload_n 0, 1)) (d26 : decode code (pc + 26) = .ok (.iload_n 3, 1)) (d27 : decode code (pc + 27) = .ok (.iconst 2, 1)) (d28 : decode code (pc + 28) = .ok (.iadd, 1)) (d29 : decode code (pc + 29) = .ok (.iaload, 1)) (d30 : decode code (pc + 30) = .ok (.aload_n 0, 1)) (d31 : decode code (pc + 31) = .ok (.iload_n 3, 1)) (d32 : decode code (pc + 32) = .ok (.iconst 3, 1)) (d33 : decode code (pc + 33) = .ok (.iadd, 1)) (d34 : decode code (pc + 34) = .ok (.iaload, 1)) (d35 : decode code (pc + 35) = .ok (.invokevirtual i2, 3)) (d38 : decode code (pc + 38) = .ok (.if_icmp .eq off, 3)) (ht : ((pc + 38 : Nat) : Int) + off = ((834 : Nat) : Int)) (pr : ∀ h, I h → tv_CI ad 30 y2 [.ref (ad 0), .int (xs (i + 1)), .int (xs (i + 2)), .int (xs (i + 3))] h (fun r h1 => tv_CI ad 30 y3 [.ref (ad 400), .int (xs (i + 1)), .int (xs (i + 2)), .int (xs (i + 3))] h1 (fun r' h2 => r = r' ∧ I' h2))) (nx : lw_at p l e s m below meth c cells slots b D cs A ad 834 i I') : lw_at p l e s m below meth c cells slots b D cs A ad pc i I := by
  intro h H locs ls hI hP hS hl
  obtain ⟨hx, hb, hml, hown, hts, hK, hok, hR, hX, hbl, hbA, hL, hr, hlk, hA⟩ := id F
  have hR' : 30 + 1 ≤ room_1.frames ∧ 64 * (30 + 1) ≤ room_1.locals ∧ cells ≤ room_1.cells ∧ slots ≤ room_1.slots := ⟨Nat.le_of_ble_eq_true rfl, Nat.le_of_ble_eq_true rfl, hR.1, hR.2⟩
  refine lv_aload_n hx hb d0 rfl (lv_at hl 1 rfl) ?_
  refine lw_arg (k := 1) F hS hl rfl (by omega) d1 d2 d3 d4 d5 ?_
  refine lw_arg (k := 2) F hS hl rfl (by omega) d6 d7 d8 d9 d10 ?_
  refine lw_arg (k := 3) F hS hl rfl (by omega) d11 d12 d13 d14 d15 ?_
  refine tv_callW (q := 0) (As := [.int (xs (i + 1)), .int (xs (i + 2)), .int (xs (i + 3))]) (st := []) hx hb hml hown hts hK hok hR' hP hS hl.1 d16 v1 rfl rfl rfl (Nat.zero_le _) (pr h hI) (fun r h1 H1 locs1 hp hP1 hS1 => ?_)
  obtain ⟨x, rfl, hp⟩ := hp
  refine lv_aload_n hx hb d19 rfl (lv_at hl 2 rfl) ?_
  refine lw_arg (k := 1) F hS1 hl rfl (by omega) d20 d21 d22 d23 d24 ?_
  refine lw_arg (k := 2) F hS1 hl rfl (by omega) d25 d26 d27 d28 d29 ?_
  refine lw_arg (k := 3) F hS1 hl rfl (by omega) d30 d31 d32 d33 d34 ?_
  refine tv_callW (q := 400) (As := [.int (xs (i + 1)), .int (xs (i + 2)), .int (xs (i + 3))]) (st := [.int x]) hx hb hml hown hts hK hok hR' hP1 hS1 hl.1 d35 v2 rfl rfl rfl (Nat.le_of_ble_eq_true rfl) hp (fun r h2 H2 locs2 hp2 hP2 hS2 => ?_)
  obtain ⟨x', rfl, hp2⟩ := hp2
  refine lv_icmp_eq (tgt := 834) hx hb d38 ht (fun z => ?_) (fun z => absurd hp2.1 z)
  exact nx h2 H2 locs2 ls hp2.2 hP2 hS2 hl
theorem lw_caseJ {I I' : tv_AH → Prop} {y2 y3 : MethodName} {i1 i2 : Nat} {off : Int} (F : lw_F p s m meth c cells slots b L xs D cs A ad) (v1 : tv_V RL i1 y2 2 0) (v2 : tv_V RL i2 y3 3 0) (d0 : decode code pc = .ok (.aload_n 1, 1)) (d1 : decode code (pc + 1) = .ok (.invokevirtual i1, 3)) (d4 : decode code (pc + 4) = .ok (.aload_n 2, 1)) (d5 : decode code (pc + 5) = .ok (.invokevirtual i2, 3)) (d8 : decode code (pc + 8) = .ok (.lcmp, 1)) (d9 : decode code (pc + 9) = .ok (.ifCond .eq off, 3)) (ht : ((pc + 9 : Nat) : Int) + off = ((834 : Nat) : Int)) (pr : ∀ h, I h → tv_CJ ad 30 y2 [.ref (ad 0)] h (fun r h1 => tv_CJ ad 30 y3 [.ref (ad 400)] h1 (fun r' h2 => r = r' ∧ I' h2))) (nx : lw_at p l e s m below meth c cells slots b D cs A ad 834 i I') : lw_at p l e s m below meth c cells slots b D cs A ad pc i I := by
  intro h H locs ls hI hP hS hl
  obtain ⟨hx, hb, hml, hown, hts, hK, hok, hR, hX, hbl, hbA, hL, hr, hlk, hA⟩ := id F
  have hR' : 30 + 1 ≤ room_1.frames ∧ 64 * (30 + 1) ≤ room_1.locals ∧ cells ≤ room_1.cells ∧ slots ≤ room_1.slots := ⟨Nat.le_of_ble_eq_true rfl, Nat.le_of_ble_eq_true rfl, hR.1, hR.2⟩
  refine lv_aload_n hx hb d0 rfl (lv_at hl 1 rfl) ?_
  refine tv_callW (q := 0) (As := []) (st := []) hx hb hml hown hts hK hok hR' hP hS hl.1 d1 v1 rfl rfl rfl (Nat.zero_le _) (pr h hI) (fun r h1 H1 locs1 hp hP1 hS1 => ?_)
  obtain ⟨x, rfl, hp⟩ := hp
  refine lv_aload_n hx hb d4 rfl (lv_at hl 2 rfl) ?_
  refine tv_callW (q := 400) (As := []) (st := [.long x]) hx hb hml hown hts hK hok hR' hP1 hS1 hl.1 d5 v2 rfl rfl rfl (Nat.le_of_ble_eq_true rfl) hp (fun r h2 H2 locs2 hp2 hP2 hS2 => ?_)
  obtain ⟨x', rfl, hp2⟩ := hp2
  refine W.lcmp hx hb d8 ?_
  refine lv_if_eq (tgt := 834) hx hb d9 ht (fun z => ?_) (fun z => ?_)
  · exact nx h2 H2 locs2 ls hp2.2 hP2 hS2 hl
  · exfalso
    rw [hp2.1] at z
    exact z (by simp [lg_cmp])
theorem tv_tswW {cc : ByteArray} {H : Heap} {locs : List Loc} {ls : Array Slot} {st : List Value} {Q : State → Prop} {R : Room} {args : Array Value} {x : Int32} {dflt lo hi : Int} {offs : Array Int} {len : Nat} {ts : List Nat} {td : Nat} (hx : p.tables.exec = Jvm.exec) (hb : c.code = cc) (hd : decode cc pc = .ok (.tableswitch dflt lo hi offs, len)) (h1 : offs.toList.map (fun o => (pc : Int) + o) = ts.map (fun t : Nat => (t : Int))) (h2 : hi = lo + (ts.length : Int) - 1) (h3 : (pc : Int) + dflt = (td : Int)) (kk : tv_sw x lo lo (fun tg => W p l e R s m args below meth c H locs cells slots Q (F0 m tg ls st)) ts td) : W p l e R s m args below meth c H locs cells slots Q (F0 m pc ls (.int x :: st)) := by
  by_cases hr : x.toInt < lo ∨ hi < x.toInt
  · exact lv_tableOut hx hb hd hr h3 (tv_sw_out ts lo kk (by rcases hr with q | q; exact Or.inl q; exact Or.inr (by omega)))
  · obtain ⟨j, hj⟩ : ∃ j : Nat, x.toInt = lo + j := ⟨(x.toInt - lo).toNat, by omega⟩
    have hlt : j < ts.length := by omega
    have hts : ts[j]? = some ts[j] := List.getElem?_eq_getElem hlt
    have ho : (offs.toList.map (fun o => (pc : Int) + o))[j]? = some ((ts[j] : Nat) : Int) := by rw [h1]; simp [hts]
    rw [List.getElem?_map] at ho
    cases hoj : offs.toList[j]? with
    | none => rw [hoj] at ho; cases ho
    | some o =>
      rw [hoj] at ho
      simp only [Option.map_some, Option.some.injEq] at ho
      refine lv_tableIn (off := o) hx hb hd (by omega) (by omega) ?_ ho (tv_sw_in ts lo kk j _ hts hj)
      rw [show (x.toInt - lo).toNat = j by omega, ← Array.getElem?_toList]
      exact hoj
theorem lw_next {I : tv_AH → Prop} (F : lw_F p s m meth c cells slots b L xs D cs A ad) (nx : lw_at p l e s m below meth c cells slots b D cs A ad 18 (i + 4) I) : lw_at p l e s m below meth c cells slots b D cs A ad 834 i I := by
  intro h H locs ls hI hP hS hl
  obtain ⟨hx, hb, -⟩ := id F
  refine lv_iinc (v := nI (i + 4)) (lv' := [(3, .int (nI (i + 4))), (0, .ref b), (1, .ref (ad 0)), (2, .ref (ad 400))]) hx hb dL_law_834 hl (k := 3) rfl (by rw [show Int32.ofInt 4 = nI 4 from rfl, nI_add]) (by decide) rfl (fun ls hl => ?_)
  refine lv_goto (tgt := 18) hx hb dL_law_837 (by decide) ?_
  exact nx h H locs ls hI hP hS (lv_sub hl [1, 2, 3, 0] rfl)
theorem lw_body {S : sp_S} {n : Nat} (F : lw_F p s m meth c cells slots b L xs D cs A ad) (hi : i + 4 ≤ L) (hc : n < 512) (nx : lw_at p l e s m below meth c cells slots b D cs A ad 18 (i + 4) (fun h => ∃ S', lw_Inv S' (n + 1) h)) (nz : lw_at p l e s m below meth c cells slots b D cs A ad 18 (i + 4) (fun h => lw_Inv S n h)) : lw_at p l e s m below meth c cells slots b D cs A ad 26 i (fun h => lw_Inv S n h) := by
  have g := lw_next F nx
  have gz := lw_next F nz
  have c148 : lw_at p l e s m below meth c cells slots b D cs A ad 148 i (fun h => lw_Inv S n h) := lw_case1 (I' := fun h => ∃ S', lw_Inv S' (n + 1) h) F hi ml_L_13 ml_L_17 dL_law_148 dL_law_149 dL_law_150 dL_law_151 dL_law_152 dL_law_153 dL_law_154 dL_law_157 dL_law_158 dL_law_159 dL_law_160 dL_law_161 dL_law_162 dL_law_163 dL_law_166 (by decide) (fun h I => lp_letter I hc) g
  have c171 : lw_at p l e s m below meth c cells slots b D cs A ad 171 i (fun h => lw_Inv S n h) := lw_case0 (I' := fun h => ∃ S', lw_Inv S' (n + 1) h) F hi ml_L_18 ml_L_22 dL_law_171 dL_law_172 dL_law_175 dL_law_176 dL_law_179 (by decide) (fun h I => lp_blank I hc) g
  have c184 : lw_at p l e s m below meth c cells slots b D cs A ad 184 i (fun h => lw_Inv S n h) := lw_case0 (I' := fun h => ∃ S', lw_Inv S' (n + 1) h) F hi ml_L_23 ml_L_26 dL_law_184 dL_law_185 dL_law_188 dL_law_189 dL_law_192 (by decide) (fun h I => lp_fault I hc) g
  have c197 : lw_at p l e s m below meth c cells slots b D cs A ad 197 i (fun h => lw_Inv S n h) := lw_case0 (I' := fun h => ∃ S', lw_Inv S' (n + 1) h) F hi ml_L_27 ml_L_30 dL_law_197 dL_law_198 dL_law_201 dL_law_202 dL_law_205 (by decide) (fun h I => lp_read I hc) g
  have c210 : lw_at p l e s m below meth c cells slots b D cs A ad 210 i (fun h => lw_Inv S n h) := lw_case2 (I' := fun h => ∃ S', lw_Inv S' (n + 1) h) F hi ml_L_31 ml_L_35 dL_law_210 dL_law_211 dL_law_212 dL_law_213 dL_law_214 dL_law_215 dL_law_216 dL_law_217 dL_law_218 dL_law_219 dL_law_220 dL_law_221 dL_law_224 dL_law_225 dL_law_226 dL_law_227 dL_law_228 dL_law_229 dL_law_230 dL_law_231 dL_law_232 dL_law_233 dL_law_234 dL_law_235 dL_law_238 (by decide) (fun h I => lp_scheme I hc) g
  have c243 : lw_at p l e s m below meth c cells slots b D cs A ad 243 i (fun h => lw_Inv S n h) := lw_case1 (I' := fun h => ∃ S', lw_Inv S' (n + 1) h) F hi ml_L_36 ml_L_39 dL_law_243 dL_law_244 dL_law_245 dL_law_246 dL_law_247 dL_law_248 dL_law_249 dL_law_252 dL_law_253 dL_law_254 dL_law_255 dL_law_256 dL_law_257 dL_law_258 dL_law_261 (by decide) (fun h I => lp_hash I hc) g
  have c266 : lw_at p l e s m below meth c cells slots b D cs A ad 266 i (fun h => lw_Inv S n h) := lw_case3 (I' := fun h => ∃ S', lw_Inv S' (n + 1) h) F hi ml_L_40 ml_L_44 dL_law_266 dL_law_267 dL_law_268 dL_law_269 dL_law_270 dL_law_271 dL_law_272 dL_law_273 dL_law_274 dL_law_275 dL_law_276 dL_law_277 dL_law_278 dL_law_279 dL_law_280 dL_law_281 dL_law_282 dL_law_285 dL_law_286 dL_law_287 dL_law_288 dL_law_289 dL_law_290 dL_law_291 dL_law_292 dL_law_293 dL_law_294 dL_law_295 dL_law_296 dL_law_297 dL_law_298 dL_law_299 dL_law_300 dL_law_301 dL_law_304 (by decide) (fun h I => lp_put I hc) g
  have c309 : lw_at p l e s m below meth c cells slots b D cs A ad 309 i (fun h => lw_Inv S n h) := lw_case2 (I' := fun h => ∃ S', lw_Inv S' (n + 1) h) F hi ml_L_45 ml_L_48 dL_law_309 dL_law_310 dL_law_311 dL_law_312 dL_law_313 dL_law_314 dL_law_315 dL_law_316 dL_law_317 dL_law_318 dL_law_319 dL_law_320 dL_law_323 dL_law_324 dL_law_325 dL_law_326 dL_law_327 dL_law_328 dL_law_329 dL_law_330 dL_law_331 dL_law_332 dL_law_333 dL_law_334 dL_law_337 (by decide) (fun h I => lp_remove I hc) g
  have c342 : lw_at p l e s m below meth c cells slots b D cs A ad 342 i (fun h => lw_Inv S n h) := lw_case3 (I' := fun h => ∃ S', lw_Inv S' (n + 1) h) F hi ml_L_49 ml_L_52 dL_law_342 dL_law_343 dL_law_344 dL_law_345 dL_law_346 dL_law_347 dL_law_348 dL_law_349 dL_law_350 dL_law_351 dL_law_352 dL_law_353 dL_law_354 dL_law_355 dL_law_356 dL_law_357 dL_law_358 dL_law_361 dL_law_362 dL_law_363 dL_law_364 dL_law_365 dL_law_366 dL_law_367 dL_law_368 dL_law_369 dL_law_370 dL_law_371 dL_law_372 dL_law_373 dL_law_374 dL_law_375 dL_law_376 dL_law_377 dL_law_380 (by decide) (fun h I => lp_both I hc) g
  have c385 : lw_at p l e s m below meth c cells slots b D cs A ad 385 i (fun h => lw_Inv S n h) := lw_case3 (I' := fun h => ∃ S', lw_Inv S' (n + 1) h) F hi ml_L_53 ml_L_56 dL_law_385 dL_law_386 dL_law_387 dL_law_388 dL_law_389 dL_law_390 dL_law_391 dL_law_392 dL_law_393 dL_law_394 dL_law_395 dL_law_396 dL_law_397 dL_law_398 dL_law_399 dL_law_400 dL_law_401 dL_law_404 dL_law_405 dL_law_406 dL_law_407 dL_law_408 dL_law_409 dL_law_410 dL_law_411 dL_law_412 dL_law_413 dL_law_414 dL_law_415 dL_law_416 dL_law_417 dL_law_418 dL_law_419 dL_law_420 dL_law_423 (by decide) (fun h I => lp_chosen I hc) g
  have c428 : lw_at p l e s m below meth c cells slots b D cs A ad 428 i (fun h => lw_Inv S n h) := lw_case0 (I' := fun h => ∃ S', lw_Inv S' (n + 1) h) F hi ml_L_57 ml_L_60 dL_law_428 dL_law_429 dL_law_432 dL_law_433 dL_law_436 (by decide) (fun h I => lp_forget I hc) g
  have c441 : lw_at p l e s m below meth c cells slots b D cs A ad 441 i (fun h => lw_Inv S n h) := lw_case1 (I' := fun h => ∃ S', lw_Inv S' (n + 1) h) F hi ml_L_61 ml_L_64 dL_law_441 dL_law_442 dL_law_443 dL_law_444 dL_law_445 dL_law_446 dL_law_447 dL_law_450 dL_law_451 dL_law_452 dL_law_453 dL_law_454 dL_law_455 dL_law_456 dL_law_459 (by decide) (fun h I => lp_begin I hc) g
  have c464 : lw_at p l e s m below meth c cells slots b D cs A ad 464 i (fun h => lw_Inv S n h) := lw_case2 (I' := fun h => ∃ S', lw_Inv S' (n + 1) h) F hi ml_L_65 ml_L_68 dL_law_464 dL_law_465 dL_law_466 dL_law_467 dL_law_468 dL_law_469 dL_law_470 dL_law_471 dL_law_472 dL_law_473 dL_law_474 dL_law_475 dL_law_478 dL_law_479 dL_law_480 dL_law_481 dL_law_482 dL_law_483 dL_law_484 dL_law_485 dL_law_486 dL_law_487 dL_law_488 dL_law_489 dL_law_492 (by decide) (fun h I => lp_set I hc) g
  have c497 : lw_at p l e s m below meth c cells slots b D cs A ad 497 i (fun h => lw_Inv S n h) := lw_case1 (I' := fun h => ∃ S', lw_Inv S' (n + 1) h) F hi ml_L_69 ml_L_72 dL_law_497 dL_law_498 dL_law_499 dL_law_500 dL_law_501 dL_law_502 dL_law_503 dL_law_506 dL_law_507 dL_law_508 dL_law_509 dL_law_510 dL_law_511 dL_law_512 dL_law_515 (by decide) (fun h I => lp_unset I hc) g
  have c520 : lw_at p l e s m below meth c cells slots b D cs A ad 520 i (fun h => lw_Inv S n h) := lw_case0 (I' := fun h => ∃ S', lw_Inv S' (n + 1) h) F hi ml_L_73 ml_L_76 dL_law_520 dL_law_521 dL_law_524 dL_law_525 dL_law_528 (by decide) (fun h I => lp_seal I hc) g
  have c533 : lw_at p l e s m below meth c cells slots b D cs A ad 533 i (fun h => lw_Inv S n h) := lw_case0 (I' := fun h => ∃ S', lw_Inv S' (n + 1) h) F hi ml_L_77 ml_L_80 dL_law_533 dL_law_534 dL_law_537 dL_law_538 dL_law_541 (by decide) (fun h I => lp_leave I hc) g
  have c546 : lw_at p l e s m below meth c cells slots b D cs A ad 546 i (fun h => lw_Inv S n h) := lw_case1 (I' := fun h => ∃ S', lw_Inv S' (n + 1) h) F hi ml_L_81 ml_L_84 dL_law_546 dL_law_547 dL_law_548 dL_law_549 dL_law_550 dL_law_551 dL_law_552 dL_law_555 dL_law_556 dL_law_557 dL_law_558 dL_law_559 dL_law_560 dL_law_561 dL_law_564 (by decide) (fun h I => lp_edit I hc) g
  have c569 : lw_at p l e s m below meth c cells slots b D cs A ad 569 i (fun h => lw_Inv S n h) := lw_case2 (I' := fun h => ∃ S', lw_Inv S' (n + 1) h) F hi ml_L_85 ml_L_88 dL_law_569 dL_law_570 dL_law_571 dL_law_572 dL_law_573 dL_law_574 dL_law_575 dL_law_576 dL_law_577 dL_law_578 dL_law_579 dL_law_580 dL_law_583 dL_law_584 dL_law_585 dL_law_586 dL_law_587 dL_law_588 dL_law_589 dL_law_590 dL_law_591 dL_law_592 dL_law_593 dL_law_594 dL_law_597 (by decide) (fun h I => lp_get I hc) g
  have c602 : lw_at p l e s m below meth c cells slots b D cs A ad 602 i (fun h => lw_Inv S n h) := lw_case2 (I' := fun h => ∃ S', lw_Inv S' (n + 1) h) F hi ml_L_89 ml_L_92 dL_law_602 dL_law_603 dL_law_604 dL_law_605 dL_law_606 dL_law_607 dL_law_608 dL_law_609 dL_law_610 dL_law_611 dL_law_612 dL_law_613 dL_law_616 dL_law_617 dL_law_618 dL_law_619 dL_law_620 dL_law_621 dL_law_622 dL_law_623 dL_law_624 dL_law_625 dL_law_626 dL_law_627 dL_law_630 (by decide) (fun h I => lp_about I hc) g
  have c635 : lw_at p l e s m below meth c cells slots b D cs A ad 635 i (fun h => lw_Inv S n h) := lw_case3 (I' := fun h => ∃ S', lw_Inv S' (n + 1) h) F hi ml_L_93 ml_L_96 dL_law_635 dL_law_636 dL_law_637 dL_law_638 dL_law_639 dL_law_640 dL_law_641 dL_law_642 dL_law_643 dL_law_644 dL_law_645 dL_law_646 dL_law_647 dL_law_648 dL_law_649 dL_law_650 dL_law_651 dL_law_654 dL_law_655 dL_law_656 dL_law_657 dL_law_658 dL_law_659 dL_law_660 dL_law_661 dL_law_662 dL_law_663 dL_law_664 dL_law_665 dL_law_666 dL_law_667 dL_law_668 dL_law_669 dL_law_670 dL_law_673 (by decide) (fun h I => lp_node I hc) g
  have c678 : lw_at p l e s m below meth c cells slots b D cs A ad 678 i (fun h => lw_Inv S n h) := lw_case3 (I' := fun h => ∃ S', lw_Inv S' (n + 1) h) F hi ml_L_97 ml_L_100 dL_law_678 dL_law_679 dL_law_680 dL_law_681 dL_law_682 dL_law_683 dL_law_684 dL_law_685 dL_law_686 dL_law_687 dL_law_688 dL_law_689 dL_law_690 dL_law_691 dL_law_692 dL_law_693 dL_law_694 dL_law_697 dL_law_698 dL_law_699 dL_law_700 dL_law_701 dL_law_702 dL_law_703 dL_law_704 dL_law_705 dL_law_706 dL_law_707 dL_law_708 dL_law_709 dL_law_710 dL_law_711 dL_law_712 dL_law_713 dL_law_716 (by decide) (fun h I => lp_entry I hc) g
  have c721 : lw_at p l e s m below meth c cells slots b D cs A ad 721 i (fun h => lw_Inv S n h) := lw_case2 (I' := fun h => ∃ S', lw_Inv S' (n + 1) h) F hi ml_L_101 ml_L_104 dL_law_721 dL_law_722 dL_law_723 dL_law_724 dL_law_725 dL_law_726 dL_law_727 dL_law_728 dL_law_729 dL_law_730 dL_law_731 dL_law_732 dL_law_735 dL_law_736 dL_law_737 dL_law_738 dL_law_739 dL_law_740 dL_law_741 dL_law_742 dL_law_743 dL_law_744 dL_law_745 dL_law_746 dL_law_749 (by decide) (fun h I => lp_shared I hc) g
  have c754 : lw_at p l e s m below meth c cells slots b D cs A ad 754 i (fun h => lw_Inv S n h) := lw_case3 (I' := fun h => ∃ S', lw_Inv S' (n + 1) h) F hi ml_L_105 ml_L_108 dL_law_754 dL_law_755 dL_law_756 dL_law_757 dL_law_758 dL_law_759 dL_law_760 dL_law_761 dL_law_762 dL_law_763 dL_law_764 dL_law_765 dL_law_766 dL_law_767 dL_law_768 dL_law_769 dL_law_770 dL_law_773 dL_law_774 dL_law_775 dL_law_776 dL_law_777 dL_law_778 dL_law_779 dL_law_780 dL_law_781 dL_law_782 dL_law_783 dL_law_784 dL_law_785 dL_law_786 dL_law_787 dL_law_788 dL_law_789 dL_law_792 (by decide) (fun h I => lp_two I hc) g
  have c797 : lw_at p l e s m below meth c cells slots b D cs A ad 797 i (fun h => lw_Inv S n h) := lw_case1 (I' := fun h => ∃ S', lw_Inv S' (n + 1) h) F hi ml_L_109 ml_L_112 dL_law_797 dL_law_798 dL_law_799 dL_law_800 dL_law_801 dL_law_802 dL_law_803 dL_law_806 dL_law_807 dL_law_808 dL_law_809 dL_law_810 dL_law_811 dL_law_812 dL_law_815 (by decide) (fun h I => lp_count I hc) g
  have c820 : lw_at p l e s m below meth c cells slots b D cs A ad 820 i (fun h => lw_Inv S n h) := lw_caseJ (I' := fun h => ∃ S', lw_Inv S' (n + 1) h) F ml_L_113 ml_L_117 dL_law_820 dL_law_821 dL_law_824 dL_law_825 dL_law_828 dL_law_829 (by decide) (fun h I => lp_digest I hc) g
  intro h H locs ls hI hP hS hl
  obtain ⟨hx, hb, hml, hown, hts, hK, hok, hR, hX, hbl, hbA, hL, hr, hlk, hA⟩ := id F
  refine lv_aload_n hx hb dL_law_26 rfl (lv_at hl 0 rfl) ?_
  refine lv_iload_n hx hb dL_law_27 rfl (lv_at hl 3 rfl) ?_
  refine va_sld hx hb hX hbl hbA hS (pk_in i L (by omega)) dL_law_28 ?_
  refine lv_bipush (v := 31) hx hb dL_law_29 (by decide) ?_
  refine lv_iand hx hb dL_law_31 ?_
  refine lv_topi (fun y _ => ?_)
  refine tv_tswW (ts := [148, 171, 184, 197, 210, 243, 266, 309, 342, 385, 428, 441, 464, 497, 520, 533, 546, 569, 602, 635, 678, 721, 754, 797, 820]) (td := 834) hx hb dL_law_32 (by decide) (by decide) (by decide) ?_
  exact ⟨fun _ => c148 h H locs ls hI hP hS hl, fun _ => c171 h H locs ls hI hP hS hl, fun _ => c184 h H locs ls hI hP hS hl, fun _ => c197 h H locs ls hI hP hS hl, fun _ => c210 h H locs ls hI hP hS hl, fun _ => c243 h H locs ls hI hP hS hl, fun _ => c266 h H locs ls hI hP hS hl, fun _ => c309 h H locs ls hI hP hS hl, fun _ => c342 h H locs ls hI hP hS hl, fun _ => c385 h H locs ls hI hP hS hl, fun _ => c428 h H locs ls hI hP hS hl, fun _ => c441 h H locs ls hI hP hS hl, fun _ => c464 h H locs ls hI hP hS hl, fun _ => c497 h H locs ls hI hP hS hl, fun _ => c520 h H locs ls hI hP hS hl, fun _ => c533 h H locs ls hI hP hS hl, fun _ => c546 h H locs ls hI hP hS hl, fun _ => c569 h H locs ls hI hP hS hl, fun _ => c602 h H locs ls hI hP hS hl, fun _ => c635 h H locs ls hI hP hS hl, fun _ => c678 h H locs ls hI hP hS hl, fun _ => c721 h H locs ls hI hP hS hl, fun _ => c754 h H locs ls hI hP hS hl, fun _ => c797 h H locs ls hI hP hS hl, fun _ => c820 h H locs ls hI hP hS hl, fun _ => gz h H locs ls hI hP hS hl⟩
theorem lw_loop (F : lw_F p s m meth c cells slots b L xs D cs A ad) : ∀ t i n (S : sp_S), L + 4 ≤ i + 4 * t → 4 * n ≤ i → n ≤ 512 → lw_at p l e s m below meth c cells slots b D cs A ad 18 i (fun h => i ≤ L + 4 ∧ lw_Inv S n h) := by
  intro t
  induction t with
  | zero =>
    intro i n S ht hn hn2 h H locs ls hI hP hS hl
    obtain ⟨hi, hI⟩ := hI
    obtain ⟨hx, hb, hml, hown, hts, hK, hok, hR, hX, hbl, hbA, hL, hr, hlk, hA⟩ := id F
    refine lv_iload_n hx hb dL_law_18 rfl (lv_at hl 3 rfl) ?_
    refine lv_aload_n hx hb dL_law_19 rfl (lv_at hl 0 rfl) ?_
    refine va_slen hx hb hX hbl hbA hS dL_law_20 ?_
    refine lv_iconst (v := nI 4) hx hb dL_law_21 (by decide) ?_
    refine lv_isub hx hb dL_law_22 ?_
    refine lv_icmp_gt (tgt := 840) hx hb dL_law_23 (by decide) (fun z => ?_) (fun z => absurd ?_ z)
    · refine lv_iconst (v := 1) hx hb dL_law_840 (by decide) ?_
      refine va_forget (fun q hq => hA _ (hS.2.2 q hq)) ?_
      refine W.widen (k := 600000) (n := 7302250) hR.1 hR.2 ?_
      exact lw_ret hx hb hr hlk dL_law_841
    · show nI L - nI 4 < nI i
      rw [Int32.lt_iff_toInt_lt, pk_sub_toInt (by omega) (by omega), nI_toInt (by omega)]
      omega
  | succ t ih =>
    intro i n S ht hn hn2 h H locs ls hI hP hS hl
    obtain ⟨hi, hI⟩ := hI
    obtain ⟨hx, hb, hml, hown, hts, hK, hok, hR, hX, hbl, hbA, hL, hr, hlk, hA⟩ := id F
    refine lv_iload_n hx hb dL_law_18 rfl (lv_at hl 3 rfl) ?_
    refine lv_aload_n hx hb dL_law_19 rfl (lv_at hl 0 rfl) ?_
    refine va_slen hx hb hX hbl hbA hS dL_law_20 ?_
    refine lv_iconst (v := nI 4) hx hb dL_law_21 (by decide) ?_
    refine lv_isub hx hb dL_law_22 ?_
    refine lv_icmp_gt (tgt := 840) hx hb dL_law_23 (by decide) (fun z => ?_) (fun z => ?_)
    · refine lv_iconst (v := 1) hx hb dL_law_840 (by decide) ?_
      refine va_forget (fun q hq => hA _ (hS.2.2 q hq)) ?_
      refine W.widen (k := 600000) (n := 7302250) hR.1 hR.2 ?_
      exact lw_ret hx hb hr hlk dL_law_841
    · have hiL : i + 4 ≤ L := by
        have z2 : ¬ nI L - nI 4 < nI i := z
        rw [Int32.lt_iff_toInt_lt, pk_sub_toInt (by omega) (by omega), nI_toInt (by omega)] at z2
        omega
      refine lw_body F hiL (by omega) (fun h H locs ls hI hP hS hl => ?_) (fun h H locs ls hI hP hS hl => ?_) h H locs ls hI hP hS hl
      · obtain ⟨S', hI⟩ := hI
        exact ih (i + 4) (n + 1) S' (by omega) (by omega) (by omega) h H locs ls ⟨by omega, hI⟩ hP hS hl
      · exact ih (i + 4) n S (by omega) (by omega) (by omega) h H locs ls ⟨by omega, hI⟩ hP hS hl
end LWL
