/-! ===== the calculus V: entries, returns, calls ===== -/
theorem preC_calling {κ : KK} {sz : Nat} {ws : MW} {U : State} {g : JFrame} {mk : MethodId} {a : Array Value} (q : PreC κ sz ws U) : PreC κ sz ws (U.calling g mk a) := by
  obtain ⟨q0, qP, qK, qD, ⟨tt, qZ, qT⟩, qN⟩ := q
  exact ⟨q0, qP, va_K.moved (u := U) (U := U.calling g mk a) (Vm.Alike.refl U.vm) qK, qD, ⟨tt, va_Z.moved (u := U) (U := U.calling g mk a) (Vm.Alike.refl U.vm) qZ, va_T.moved (u := U) (U := U.calling g mk a) (Vm.Alike.refl U.vm) qT⟩, NWok.same (u := U) (U := U.calling g mk a) rfl qN⟩
theorem preC_blind {κ : KK} {sz : Nat} {ws : MW} {As : List Value} : FrameBlind (va_Pc As (PreC κ sz ws)) := fun _ _ _ _ q => ⟨q.1, preC_calling q.2⟩
section VC
variable {Γ : KT} {cc : ByteArray} {nL k n pc : Nat} {Ts : List Cond} {own : String} {R : Room} {lv : List (Nat × Value)} {st : List Value} {ws : MW}
theorem preC_of (C : CX Γ cc nL Ts own R) {H : Heap} {locs : List Loc} {wc : MW} (hP : va_P (kK Γ).1 vwCl (rW (kK Γ) ws) H) (hD : va_D (kA Γ) (rW (kK Γ) ws)) (hS : va_S (kA Γ) (kS Γ).heap H locs) (isC : List Nat) (hC : isC.map (fun i => ws[i]?) = wc.map some) (hnC : va_nd isC = true) : ∀ U : State, U.heap = H → (kS Γ).WarmedH U.vm → PreC (kK Γ) H.size wc U := by
  intro U hU hW
  obtain ⟨hx, hb, hml, hown, hts, hK, hA, ⟨⟨tt, hZ, hT⟩, hN⟩, hlk, hR0⟩ := C
  have hF := va_free (wc := rW (kK Γ) wc) hD hS hA isC (rW_cut hC)
  refine ⟨by rw [hU], by rw [hU]; exact hP.sub isC (fm_of_map (rW_cut hC)), va_K.moved hW.alike hK, (hD.sub isC hnC (rW_cut hC)).weaken (fun _ _ _ _ => trivial), ⟨tt, ?_, ?_⟩, NWok.warm hW hN⟩
  · rw [hU]
    exact ((va_Z.moved hW.alike hZ).kept hS.2.1).narrow hF
  · rw [hU]
    exact ((va_T.moved hW.alike hT).kept hS.2.1).narrow hF

theorem CtI_of {l : Launch} {y : MethodName} {wsY ws' : List Cond} {rm : Room} {As : List Value} {ws w1 : MW} {r : Int32} {cc : ByteArray} {maxL : Nat} {ty : FieldType} {own : String} (ho : y.cls = own) (hy : plainName y.cls = true) (hw : wsY = Cond.code y cc maxL (some ty) :: ws') {lv0 : List (Nat × Value)} (hlv : lv_args 0 As = lv0) (hlen : (lg_sl As).length ≤ maxL)
    (K : ∀ Γ : KT, kL Γ = l → CX Γ cc maxL wsY own rm → (∀ (pc : Nat) (lv : List (Nat × Value)), narrow ty (.int r) = .int r → decode cc pc = .ok (.ireturn, 1) → V Γ maxL 0 0 pc lv [.int r] w1) → V Γ maxL 0 0 0 lv0 [] ws) : CtI l y wsY rm As ws r w1 := by
  intro κ sz
  refine Met.ofW (cc := cc) (maxL := maxL) (ret := some ty) hy hw ?_
  intro p e s m args below meth c s₁ B hml hv
  obtain ⟨rfl, hsz, hP, hK, hD0, hE⟩ := hv
  subst hsz
  have hx := B.exec
  have hb := B.bytes
  have hr := B.returns
  have hts := atoms_spec (ws := wsY) B.pre
  have hown : s.vm.findClass y.cls = some m.cls := findClass_of_methodNamed B.named
  have hlocks := B.notSynchronized
  rw [ho] at hown
  have hD := hD0.self (sz := s.heap.size)
  have hl := lv_entry As (n := maxL) hlen
  rw [lg_entry_eq]
  rw [hlv] at hl
  have CC : CX ((p, l, e, rm), (s, m, As.toArray, below), (meth, c, MQ below (va_Qi (fun (r' : Int32) (_ : Unit) => r' = r) (fun _ t => PostC κ s.heap.size ws w1 t) (va_A (rW κ ws) s.heap.size)) As.toArray s 0 0 (va_A (rW κ ws) s.heap.size)), κ, va_A (rW κ ws) s.heap.size) cc maxL wsY own rm := ⟨hx, hb, hml, hown, hts, hK, fun q h => Or.inr h, hE, hlocks, rfl⟩
  refine K _ rfl CC ?_ s.heap [] _ hP hD va_S.rf hl
  intro pc lv hn d H locs ls hP hD hS hl
  exact W.zret hx hb hr hn (fun t ht hW => ⟨⟨r, (), rfl, rfl, by rw [ht]; exact hP, va_K.moved hW.alike hK, hD⟩, hS.F ht⟩) hS.2.2 d hlocks
theorem CtL_of {l : Launch} {y : MethodName} {wsY ws' : List Cond} {rm : Room} {As : List Value} {ws w1 : MW} {r : Int64} {cc : ByteArray} {maxL : Nat} {own : String} (ho : y.cls = own) (hy : plainName y.cls = true) (hw : wsY = Cond.code y cc maxL (some .long) :: ws') {lv0 : List (Nat × Value)} (hlv : lv_args 0 As = lv0) (hlen : (lg_sl As).length ≤ maxL)
    (K : ∀ Γ : KT, kL Γ = l → CX Γ cc maxL wsY own rm → (∀ (pc : Nat) (lv : List (Nat × Value)), decode cc pc = .ok (.lreturn, 1) → V Γ maxL 0 0 pc lv [.long r] w1) → V Γ maxL 0 0 0 lv0 [] ws) : CtL l y wsY rm As ws r w1 := by
  intro κ sz
  refine Met.ofW (cc := cc) (maxL := maxL) (ret := some .long) hy hw ?_
  intro p e s m args below meth c s₁ B hml hv
  obtain ⟨rfl, hsz, hP, hK, hD0, hE⟩ := hv
  subst hsz
  have hx := B.exec
  have hb := B.bytes
  have hr := B.returns
  have hts := atoms_spec (ws := wsY) B.pre
  have hown : s.vm.findClass y.cls = some m.cls := findClass_of_methodNamed B.named
  have hlocks := B.notSynchronized
  rw [ho] at hown
  have hD := hD0.self (sz := s.heap.size)
  have hl := lv_entry As (n := maxL) hlen
  rw [lg_entry_eq]
  rw [hlv] at hl
  have CC : CX ((p, l, e, rm), (s, m, As.toArray, below), (meth, c, MQ below (va_Ql (fun (r' : Int64) (_ : Unit) => r' = r) (fun _ t => PostC κ s.heap.size ws w1 t) (va_A (rW κ ws) s.heap.size)) As.toArray s 0 0 (va_A (rW κ ws) s.heap.size)), κ, va_A (rW κ ws) s.heap.size) cc maxL wsY own rm := ⟨hx, hb, hml, hown, hts, hK, fun q h => Or.inr h, hE, hlocks, rfl⟩
  refine K _ rfl CC ?_ s.heap [] _ hP hD va_S.rf hl
  intro pc lv d H locs ls hP hD hS hl
  exact W.lret hx hb hr (fun t ht hW => ⟨⟨r, (), rfl, rfl, by rw [ht]; exact hP, va_K.moved hW.alike hK, hD⟩, hS.F ht⟩) hS.2.2 d hlocks
theorem CtV_of {l : Launch} {y : MethodName} {wsY ws' : List Cond} {rm : Room} {As : List Value} {ws w1 : MW} {cc : ByteArray} {maxL : Nat} {own : String} (ho : y.cls = own) (hy : plainName y.cls = true) (hw : wsY = Cond.code y cc maxL none :: ws') {lv0 : List (Nat × Value)} (hlv : lv_args 0 As = lv0) (hlen : (lg_sl As).length ≤ maxL)
    (K : ∀ Γ : KT, kL Γ = l → CX Γ cc maxL wsY own rm → (∀ (pc : Nat) (lv : List (Nat × Value)), decode cc pc = .ok (.return_, 1) → V Γ maxL 0 0 pc lv [] w1) → V Γ maxL 0 0 0 lv0 [] ws) : CtV l y wsY rm As ws w1 := by
  intro κ sz
  refine Met.ofW (cc := cc) (maxL := maxL) (ret := none) hy hw ?_
  intro p e s m args below meth c s₁ B hml hv
  obtain ⟨rfl, hsz, hP, hK, hD0, hE⟩ := hv
  subst hsz
  have hx := B.exec
  have hb := B.bytes
  have hr := B.returns
  have hts := atoms_spec (ws := wsY) B.pre
  have hown : s.vm.findClass y.cls = some m.cls := findClass_of_methodNamed B.named
  have hlocks := B.notSynchronized
  rw [ho] at hown
  have hD := hD0.self (sz := s.heap.size)
  have hl := lv_entry As (n := maxL) hlen
  rw [lg_entry_eq]
  rw [hlv] at hl
  have CC : CX ((p, l, e, rm), (s, m, As.toArray, below), (meth, c, MQ below (va_Qv (fun (_ : Unit) => True) (fun _ t => PostC κ s.heap.size ws w1 t) (va_A (rW κ ws) s.heap.size)) As.toArray s 0 0 (va_A (rW κ ws) s.heap.size)), κ, va_A (rW κ ws) s.heap.size) cc maxL wsY own rm := ⟨hx, hb, hml, hown, hts, hK, fun q h => Or.inr h, hE, hlocks, rfl⟩
  refine K _ rfl CC ?_ s.heap [] _ hP hD va_S.rf hl
  intro pc lv d H locs ls hP hD hS hl
  exact W.vret hx hb hr (fun t ht hW => ⟨⟨(), rfl, trivial, by rw [ht]; exact hP, va_K.moved hW.alike hK, hD⟩, hS.F ht⟩) hS.2.2 d hlocks
theorem V_callVI (C : CX Γ cc nL Ts own R) {y : MethodName} {wsY ws' : List Cond} {rm : Room} {As st0 : List Value} {wc wr w1 ws2 : MW} {r : Int32} {ty : FieldType} {b ci T9 : Nat} {fs : List Value} {TT : u_T} {CN : String} {bytes : ByteArray} {maxL index : Nat} (hM : CtI (kL Γ) y wsY rm (.ref b :: As) wc r w1) (hG : GoodIn Ts (wsV own index CN y wsY)) (hw : wsY = Cond.code y bytes maxL (some ty) :: ws') (hcs : rm.cells = 0 ∧ rm.slots = 0) (hd : y.cls = CN ∧ y.cls ≠ "java/lang/invoke/MethodHandle" ∧ y.cls ≠ "java/lang/invoke/VarHandle" ∧ (parseMethodDescriptor y.desc).map (fun d => d.parameters.length) = some As.length) (hRm : rm.frames + 1 ≤ R.frames ∧ 8 + (maxL + 11) + rm.locals ≤ R.locals) (hkn : k ≤ R.cells ∧ n ≤ R.slots) (q0 : Nat) (he : wc[q0]? = some (b, eO ci fs)) (hc : vwCl[ci]? = some (CN, TT, T9)) (isC isR perm : List Nat) (hC : isC.map (fun i => ws[i]?) = wc.map some) (hR : isR.map (fun i => ws[i]?) = wr.map some) (hnn : va_nd isC = true ∧ va_nd isR = true ∧ va_nd perm = true) (hdis : ∀ i ∈ isR, i ∉ isC) (hp : perm.map (fun i => (wr ++ w1)[i]?) = ws2.map some) (hst : st0 = As.reverse ++ .ref b :: st) (hcat : (st.map fun v => v.category).sum ≤ 8) (d : decode cc pc = .ok (.invokevirtual index, 3)) (h : V Γ nL k n (pc + 3) lv (.int r :: st) ws2) : V Γ nL k n pc lv st0 ws := by
  intro H locs ls hP hD hS hl
  subst hst
  have pre := preC_of C hP hD hS isC hC hnn.1
  obtain ⟨hx, hb, hml, hown, hts, hK, hA, hE, hlk, hR0⟩ := C
  subst hR0
  have hFc := va_free (wc := rW (kK Γ) wc) hD hS hA isC (rW_cut hC)
  refine va_calli (va_runV (As := As) (rest := st) ⟨hx, hb, hml, hown, hts⟩ (hM (kK Γ) H.size) (cwV As.length hts hG hw hcs.1 hcs.2 hd hRm) ⟨preC_blind, va_recv hK (hP.sub isC (fm_of_map (rW_cut hC))) hc (rW_at he), fun U hU hW => ⟨rfl, pre U hU hW⟩⟩ rfl rfl hl.1 rfl (lv_room hcat) d hkn) hS (fun q _ h => hFc q h) hFc (fun r1 u t H1 locs1 ht hvm hq hB hz1 hk1 hS1 => ?_)
  have hq : r1 = r := hq
  subst hq
  obtain ⟨hP1, hK1, hD1⟩ := hB
  rw [ht] at hP1
  obtain ⟨hP2, hD2⟩ := va_join (wr := rW (kK Γ) wr) (w1 := rW (kK Γ) w1) hP hD isC isR (rW_cut hC) (rW_cut hR) hnn.2.1 hdis hk1 hFc hP1 hD1
  rw [rW_app] at hP2 hD2
  exact h H1 locs1 ls (hP2.sub perm (fm_of_map (rW_cut hp))) (hD2.sub perm hnn.2.2 (rW_cut hp)) hS1 hl
theorem V_callSI (C : CX Γ cc nL Ts own R) {y : MethodName} {wsY ws' : List Cond} {rm : Room} {As st0 : List Value} {wc wr w1 ws2 : MW} {r : Int32} {ty : FieldType} {bytes : ByteArray} {maxL index : Nat} (hM : CtI (kL Γ) y wsY rm As wc r w1) (hG : GoodIn Ts (va_wsS own index y wsY)) (hw : wsY = Cond.code y bytes maxL (some ty) :: ws') (hcs : rm.cells = 0 ∧ rm.slots = 0) (hd : y.cls ≠ "java/lang/invoke/MethodHandle" ∧ y.cls ≠ "java/lang/invoke/VarHandle" ∧ (parseMethodDescriptor y.desc).map (fun d => d.parameters.length) = some As.length) (hRm : rm.frames + 1 ≤ R.frames ∧ 8 + (maxL + 11) + rm.locals ≤ R.locals) (hkn : k ≤ R.cells ∧ n ≤ R.slots) (isC isR perm : List Nat) (hC : isC.map (fun i => ws[i]?) = wc.map some) (hR : isR.map (fun i => ws[i]?) = wr.map some) (hnn : va_nd isC = true ∧ va_nd isR = true ∧ va_nd perm = true) (hdis : ∀ i ∈ isR, i ∉ isC) (hp : perm.map (fun i => (wr ++ w1)[i]?) = ws2.map some) (hst : st0 = As.reverse ++ st) (hcat : (st.map fun v => v.category).sum ≤ 8) (d : decode cc pc = .ok (.invokestatic index, 3)) (h : V Γ nL k n (pc + 3) lv (.int r :: st) ws2) : V Γ nL k n pc lv st0 ws := by
  intro H locs ls hP hD hS hl
  subst hst
  have pre := preC_of C hP hD hS isC hC hnn.1
  obtain ⟨hx, hb, hml, hown, hts, hK, hA, hE, hlk, hR0⟩ := C
  subst hR0
  have hFc := va_free (wc := rW (kK Γ) wc) hD hS hA isC (rW_cut hC)
  refine va_calli (va_runS (As := As) (rest := st) ⟨hx, hb, hml, hown, hts⟩ (hM (kK Γ) H.size) (va_cwS As.length hts hG hw hcs.1 hcs.2 hd hRm) ⟨preC_blind, fun U hU hW => ⟨rfl, pre U hU hW⟩⟩ rfl rfl hl.1 rfl (lv_room hcat) d hkn) hS (fun q _ h => hFc q h) hFc (fun r1 u t H1 locs1 ht hvm hq hB hz1 hk1 hS1 => ?_)
  have hq : r1 = r := hq
  subst hq
  obtain ⟨hP1, hK1, hD1⟩ := hB
  rw [ht] at hP1
  obtain ⟨hP2, hD2⟩ := va_join (wr := rW (kK Γ) wr) (w1 := rW (kK Γ) w1) hP hD isC isR (rW_cut hC) (rW_cut hR) hnn.2.1 hdis hk1 hFc hP1 hD1
  rw [rW_app] at hP2 hD2
  exact h H1 locs1 ls (hP2.sub perm (fm_of_map (rW_cut hp))) (hD2.sub perm hnn.2.2 (rW_cut hp)) hS1 hl
theorem V_callSNI (C : CX Γ cc nL Ts own R) {y : MethodName} {wsY ws' : List Cond} {rm : Room} {As st0 : List Value} {wc wr w1 ws2 : MW} {r : Int32} {ty : FieldType} {bytes : ByteArray} {maxL index : Nat} (hM : CtI (kL Γ) y wsY rm As wc r w1) (hG : GoodIn Ts wsY) (hNW : Cond.methodLinkNest own index y RX8 ∈ NWS) (hini : Cond.initialized y.cls ∈ Ts) (hsta : Cond.static y ∈ Ts) (hw : wsY = Cond.code y bytes maxL (some ty) :: ws') (hcs : rm.cells = 0 ∧ rm.slots = 0) (hd : y.cls ≠ "java/lang/invoke/MethodHandle" ∧ y.cls ≠ "java/lang/invoke/VarHandle" ∧ (parseMethodDescriptor y.desc).map (fun d => d.parameters.length) = some As.length) (hRm : rm.frames + 1 ≤ R.frames ∧ 8 + (maxL + 11) + rm.locals ≤ R.locals) (hkn : k ≤ R.cells ∧ n ≤ R.slots) (isC isR perm : List Nat) (hC : isC.map (fun i => ws[i]?) = wc.map some) (hR : isR.map (fun i => ws[i]?) = wr.map some) (hnn : va_nd isC = true ∧ va_nd isR = true ∧ va_nd perm = true) (hdis : ∀ i ∈ isR, i ∉ isC) (hp : perm.map (fun i => (wr ++ w1)[i]?) = ws2.map some) (hst : st0 = As.reverse ++ st) (hcat : (st.map fun v => v.category).sum ≤ 8) (d : decode cc pc = .ok (.invokestatic index, 3)) (h : V Γ nL k n (pc + 3) lv (.int r :: st) ws2) : V Γ nL k n pc lv st0 ws := by
  intro H locs ls hP hD hS hl
  subst hst
  have pre := preC_of C hP hD hS isC hC hnn.1
  obtain ⟨hx, hb, hml, hown, hts, hK, hA, hE, hlk, hR0⟩ := C
  subst hR0
  have hFc := va_free (wc := rW (kK Γ) wc) hD hS hA isC (rW_cut hC)
  refine va_calli (va_runSN (As := As) (rest := st) ⟨hx, hb, hml, hown, hts⟩ (hM (kK Γ) H.size) ⟨va_cnB As.length hts hG hw hcs.1 hcs.2 (hE.2 _ hNW) (hts _ hini) hd hRm, hts _ hsta, trivial⟩ ⟨preC_blind, fun U hU hW => ⟨rfl, pre U hU hW⟩⟩ rfl rfl hl.1 rfl (lv_room hcat) d hkn) hS (fun q _ h => hFc q h) hFc (fun r1 u t H1 locs1 ht hvm hq hB hz1 hk1 hS1 => ?_)
  have hq : r1 = r := hq
  subst hq
  obtain ⟨hP1, hK1, hD1⟩ := hB
  rw [ht] at hP1
  obtain ⟨hP2, hD2⟩ := va_join (wr := rW (kK Γ) wr) (w1 := rW (kK Γ) w1) hP hD isC isR (rW_cut hC) (rW_cut hR) hnn.2.1 hdis hk1 hFc hP1 hD1
  rw [rW_app] at hP2 hD2
  exact h H1 locs1 ls (hP2.sub perm (fm_of_map (rW_cut hp))) (hD2.sub perm hnn.2.2 (rW_cut hp)) hS1 hl
theorem V_callVL (C : CX Γ cc nL Ts own R) {y : MethodName} {wsY ws' : List Cond} {rm : Room} {As st0 : List Value} {wc wr w1 ws2 : MW} {r : Int64} {b ci T9 : Nat} {fs : List Value} {TT : u_T} {CN : String} {bytes : ByteArray} {maxL index : Nat} (hM : CtL (kL Γ) y wsY rm (.ref b :: As) wc r w1) (hG : GoodIn Ts (wsV own index CN y wsY)) (hw : wsY = Cond.code y bytes maxL (some .long) :: ws') (hcs : rm.cells = 0 ∧ rm.slots = 0) (hd : y.cls = CN ∧ y.cls ≠ "java/lang/invoke/MethodHandle" ∧ y.cls ≠ "java/lang/invoke/VarHandle" ∧ (parseMethodDescriptor y.desc).map (fun d => d.parameters.length) = some As.length) (hRm : rm.frames + 1 ≤ R.frames ∧ 8 + (maxL + 11) + rm.locals ≤ R.locals) (hkn : k ≤ R.cells ∧ n ≤ R.slots) (q0 : Nat) (he : wc[q0]? = some (b, eO ci fs)) (hc : vwCl[ci]? = some (CN, TT, T9)) (isC isR perm : List Nat) (hC : isC.map (fun i => ws[i]?) = wc.map some) (hR : isR.map (fun i => ws[i]?) = wr.map some) (hnn : va_nd isC = true ∧ va_nd isR = true ∧ va_nd perm = true) (hdis : ∀ i ∈ isR, i ∉ isC) (hp : perm.map (fun i => (wr ++ w1)[i]?) = ws2.map some) (hst : st0 = As.reverse ++ .ref b :: st) (hcat : (st.map fun v => v.category).sum ≤ 8) (d : decode cc pc = .ok (.invokevirtual index, 3)) (h : V Γ nL k n (pc + 3) lv (.long r :: st) ws2) : V Γ nL k n pc lv st0 ws := by
  intro H locs ls hP hD hS hl
  subst hst
  have pre := preC_of C hP hD hS isC hC hnn.1
  obtain ⟨hx, hb, hml, hown, hts, hK, hA, hE, hlk, hR0⟩ := C
  subst hR0
  have hFc := va_free (wc := rW (kK Γ) wc) hD hS hA isC (rW_cut hC)
  refine va_calll (va_runV (As := As) (rest := st) ⟨hx, hb, hml, hown, hts⟩ (hM (kK Γ) H.size) (cwV As.length hts hG hw hcs.1 hcs.2 hd hRm) ⟨preC_blind, va_recv hK (hP.sub isC (fm_of_map (rW_cut hC))) hc (rW_at he), fun U hU hW => ⟨rfl, pre U hU hW⟩⟩ rfl rfl hl.1 rfl (lv_room hcat) d hkn) hS (fun q _ h => hFc q h) hFc (fun r1 u t H1 locs1 ht hvm hq hB hz1 hk1 hS1 => ?_)
  have hq : r1 = r := hq
  subst hq
  obtain ⟨hP1, hK1, hD1⟩ := hB
  rw [ht] at hP1
  obtain ⟨hP2, hD2⟩ := va_join (wr := rW (kK Γ) wr) (w1 := rW (kK Γ) w1) hP hD isC isR (rW_cut hC) (rW_cut hR) hnn.2.1 hdis hk1 hFc hP1 hD1
  rw [rW_app] at hP2 hD2
  exact h H1 locs1 ls (hP2.sub perm (fm_of_map (rW_cut hp))) (hD2.sub perm hnn.2.2 (rW_cut hp)) hS1 hl
theorem V_callSL (C : CX Γ cc nL Ts own R) {y : MethodName} {wsY ws' : List Cond} {rm : Room} {As st0 : List Value} {wc wr w1 ws2 : MW} {r : Int64} {bytes : ByteArray} {maxL index : Nat} (hM : CtL (kL Γ) y wsY rm As wc r w1) (hG : GoodIn Ts (va_wsS own index y wsY)) (hw : wsY = Cond.code y bytes maxL (some .long) :: ws') (hcs : rm.cells = 0 ∧ rm.slots = 0) (hd : y.cls ≠ "java/lang/invoke/MethodHandle" ∧ y.cls ≠ "java/lang/invoke/VarHandle" ∧ (parseMethodDescriptor y.desc).map (fun d => d.parameters.length) = some As.length) (hRm : rm.frames + 1 ≤ R.frames ∧ 8 + (maxL + 11) + rm.locals ≤ R.locals) (hkn : k ≤ R.cells ∧ n ≤ R.slots) (isC isR perm : List Nat) (hC : isC.map (fun i => ws[i]?) = wc.map some) (hR : isR.map (fun i => ws[i]?) = wr.map some) (hnn : va_nd isC = true ∧ va_nd isR = true ∧ va_nd perm = true) (hdis : ∀ i ∈ isR, i ∉ isC) (hp : perm.map (fun i => (wr ++ w1)[i]?) = ws2.map some) (hst : st0 = As.reverse ++ st) (hcat : (st.map fun v => v.category).sum ≤ 8) (d : decode cc pc = .ok (.invokestatic index, 3)) (h : V Γ nL k n (pc + 3) lv (.long r :: st) ws2) : V Γ nL k n pc lv st0 ws := by
  intro H locs ls hP hD hS hl
  subst hst
  have pre := preC_of C hP hD hS isC hC hnn.1
  obtain ⟨hx, hb, hml, hown, hts, hK, hA, hE, hlk, hR0⟩ := C
  subst hR0
  have hFc := va_free (wc := rW (kK Γ) wc) hD hS hA isC (rW_cut hC)
  refine va_calll (va_runS (As := As) (rest := st) ⟨hx, hb, hml, hown, hts⟩ (hM (kK Γ) H.size) (va_cwS As.length hts hG hw hcs.1 hcs.2 hd hRm) ⟨preC_blind, fun U hU hW => ⟨rfl, pre U hU hW⟩⟩ rfl rfl hl.1 rfl (lv_room hcat) d hkn) hS (fun q _ h => hFc q h) hFc (fun r1 u t H1 locs1 ht hvm hq hB hz1 hk1 hS1 => ?_)
  have hq : r1 = r := hq
  subst hq
  obtain ⟨hP1, hK1, hD1⟩ := hB
  rw [ht] at hP1
  obtain ⟨hP2, hD2⟩ := va_join (wr := rW (kK Γ) wr) (w1 := rW (kK Γ) w1) hP hD isC isR (rW_cut hC) (rW_cut hR) hnn.2.1 hdis hk1 hFc hP1 hD1
  rw [rW_app] at hP2 hD2
  exact h H1 locs1 ls (hP2.sub perm (fm_of_map (rW_cut hp))) (hD2.sub perm hnn.2.2 (rW_cut hp)) hS1 hl
theorem V_callSNL (C : CX Γ cc nL Ts own R) {y : MethodName} {wsY ws' : List Cond} {rm : Room} {As st0 : List Value} {wc wr w1 ws2 : MW} {r : Int64} {bytes : ByteArray} {maxL index : Nat} (hM : CtL (kL Γ) y wsY rm As wc r w1) (hG : GoodIn Ts wsY) (hNW : Cond.methodLinkNest own index y RX8 ∈ NWS) (hini : Cond.initialized y.cls ∈ Ts) (hsta : Cond.static y ∈ Ts) (hw : wsY = Cond.code y bytes maxL (some .long) :: ws') (hcs : rm.cells = 0 ∧ rm.slots = 0) (hd : y.cls ≠ "java/lang/invoke/MethodHandle" ∧ y.cls ≠ "java/lang/invoke/VarHandle" ∧ (parseMethodDescriptor y.desc).map (fun d => d.parameters.length) = some As.length) (hRm : rm.frames + 1 ≤ R.frames ∧ 8 + (maxL + 11) + rm.locals ≤ R.locals) (hkn : k ≤ R.cells ∧ n ≤ R.slots) (isC isR perm : List Nat) (hC : isC.map (fun i => ws[i]?) = wc.map some) (hR : isR.map (fun i => ws[i]?) = wr.map some) (hnn : va_nd isC = true ∧ va_nd isR = true ∧ va_nd perm = true) (hdis : ∀ i ∈ isR, i ∉ isC) (hp : perm.map (fun i => (wr ++ w1)[i]?) = ws2.map some) (hst : st0 = As.reverse ++ st) (hcat : (st.map fun v => v.category).sum ≤ 8) (d : decode cc pc = .ok (.invokestatic index, 3)) (h : V Γ nL k n (pc + 3) lv (.long r :: st) ws2) : V Γ nL k n pc lv st0 ws := by
  intro H locs ls hP hD hS hl
  subst hst
  have pre := preC_of C hP hD hS isC hC hnn.1
  obtain ⟨hx, hb, hml, hown, hts, hK, hA, hE, hlk, hR0⟩ := C
  subst hR0
  have hFc := va_free (wc := rW (kK Γ) wc) hD hS hA isC (rW_cut hC)
  refine va_calll (va_runSN (As := As) (rest := st) ⟨hx, hb, hml, hown, hts⟩ (hM (kK Γ) H.size) ⟨va_cnB As.length hts hG hw hcs.1 hcs.2 (hE.2 _ hNW) (hts _ hini) hd hRm, hts _ hsta, trivial⟩ ⟨preC_blind, fun U hU hW => ⟨rfl, pre U hU hW⟩⟩ rfl rfl hl.1 rfl (lv_room hcat) d hkn) hS (fun q _ h => hFc q h) hFc (fun r1 u t H1 locs1 ht hvm hq hB hz1 hk1 hS1 => ?_)
  have hq : r1 = r := hq
  subst hq
  obtain ⟨hP1, hK1, hD1⟩ := hB
  rw [ht] at hP1
  obtain ⟨hP2, hD2⟩ := va_join (wr := rW (kK Γ) wr) (w1 := rW (kK Γ) w1) hP hD isC isR (rW_cut hC) (rW_cut hR) hnn.2.1 hdis hk1 hFc hP1 hD1
  rw [rW_app] at hP2 hD2
  exact h H1 locs1 ls (hP2.sub perm (fm_of_map (rW_cut hp))) (hD2.sub perm hnn.2.2 (rW_cut hp)) hS1 hl
theorem V_callVV (C : CX Γ cc nL Ts own R) {y : MethodName} {wsY ws' : List Cond} {rm : Room} {As st0 : List Value} {wc wr w1 ws2 : MW} {b ci T9 : Nat} {fs : List Value} {TT : u_T} {CN : String} {bytes : ByteArray} {maxL index : Nat} (hM : CtV (kL Γ) y wsY rm (.ref b :: As) wc w1) (hG : GoodIn Ts (wsV own index CN y wsY)) (hw : wsY = Cond.code y bytes maxL (none) :: ws') (hcs : rm.cells = 0 ∧ rm.slots = 0) (hd : y.cls = CN ∧ y.cls ≠ "java/lang/invoke/MethodHandle" ∧ y.cls ≠ "java/lang/invoke/VarHandle" ∧ (parseMethodDescriptor y.desc).map (fun d => d.parameters.length) = some As.length) (hRm : rm.frames + 1 ≤ R.frames ∧ 8 + (maxL + 11) + rm.locals ≤ R.locals) (hkn : k ≤ R.cells ∧ n ≤ R.slots) (q0 : Nat) (he : wc[q0]? = some (b, eO ci fs)) (hc : vwCl[ci]? = some (CN, TT, T9)) (isC isR perm : List Nat) (hC : isC.map (fun i => ws[i]?) = wc.map some) (hR : isR.map (fun i => ws[i]?) = wr.map some) (hnn : va_nd isC = true ∧ va_nd isR = true ∧ va_nd perm = true) (hdis : ∀ i ∈ isR, i ∉ isC) (hp : perm.map (fun i => (wr ++ w1)[i]?) = ws2.map some) (hst : st0 = As.reverse ++ .ref b :: st) (hcat : (st.map fun v => v.category).sum ≤ 8) (d : decode cc pc = .ok (.invokevirtual index, 3)) (h : V Γ nL k n (pc + 3) lv (st) ws2) : V Γ nL k n pc lv st0 ws := by
  intro H locs ls hP hD hS hl
  subst hst
  have pre := preC_of C hP hD hS isC hC hnn.1
  obtain ⟨hx, hb, hml, hown, hts, hK, hA, hE, hlk, hR0⟩ := C
  subst hR0
  have hFc := va_free (wc := rW (kK Γ) wc) hD hS hA isC (rW_cut hC)
  refine va_callv (va_runV (As := As) (rest := st) ⟨hx, hb, hml, hown, hts⟩ (hM (kK Γ) H.size) (cwV As.length hts hG hw hcs.1 hcs.2 hd hRm) ⟨preC_blind, va_recv hK (hP.sub isC (fm_of_map (rW_cut hC))) hc (rW_at he), fun U hU hW => ⟨rfl, pre U hU hW⟩⟩ rfl rfl hl.1 rfl (lv_room hcat) d hkn) hS (fun q _ h => hFc q h) hFc (fun u t H1 locs1 ht hvm hq hB hz1 hk1 hS1 => ?_)
  obtain ⟨hP1, hK1, hD1⟩ := hB
  rw [ht] at hP1
  obtain ⟨hP2, hD2⟩ := va_join (wr := rW (kK Γ) wr) (w1 := rW (kK Γ) w1) hP hD isC isR (rW_cut hC) (rW_cut hR) hnn.2.1 hdis hk1 hFc hP1 hD1
  rw [rW_app] at hP2 hD2
  exact h H1 locs1 ls (hP2.sub perm (fm_of_map (rW_cut hp))) (hD2.sub perm hnn.2.2 (rW_cut hp)) hS1 hl
theorem V_callSV (C : CX Γ cc nL Ts own R) {y : MethodName} {wsY ws' : List Cond} {rm : Room} {As st0 : List Value} {wc wr w1 ws2 : MW} {bytes : ByteArray} {maxL index : Nat} (hM : CtV (kL Γ) y wsY rm As wc w1) (hG : GoodIn Ts (va_wsS own index y wsY)) (hw : wsY = Cond.code y bytes maxL (none) :: ws') (hcs : rm.cells = 0 ∧ rm.slots = 0) (hd : y.cls ≠ "java/lang/invoke/MethodHandle" ∧ y.cls ≠ "java/lang/invoke/VarHandle" ∧ (parseMethodDescriptor y.desc).map (fun d => d.parameters.length) = some As.length) (hRm : rm.frames + 1 ≤ R.frames ∧ 8 + (maxL + 11) + rm.locals ≤ R.locals) (hkn : k ≤ R.cells ∧ n ≤ R.slots) (isC isR perm : List Nat) (hC : isC.map (fun i => ws[i]?) = wc.map some) (hR : isR.map (fun i => ws[i]?) = wr.map some) (hnn : va_nd isC = true ∧ va_nd isR = true ∧ va_nd perm = true) (hdis : ∀ i ∈ isR, i ∉ isC) (hp : perm.map (fun i => (wr ++ w1)[i]?) = ws2.map some) (hst : st0 = As.reverse ++ st) (hcat : (st.map fun v => v.category).sum ≤ 8) (d : decode cc pc = .ok (.invokestatic index, 3)) (h : V Γ nL k n (pc + 3) lv (st) ws2) : V Γ nL k n pc lv st0 ws := by
  intro H locs ls hP hD hS hl
  subst hst
  have pre := preC_of C hP hD hS isC hC hnn.1
  obtain ⟨hx, hb, hml, hown, hts, hK, hA, hE, hlk, hR0⟩ := C
  subst hR0
  have hFc := va_free (wc := rW (kK Γ) wc) hD hS hA isC (rW_cut hC)
  refine va_callv (va_runS (As := As) (rest := st) ⟨hx, hb, hml, hown, hts⟩ (hM (kK Γ) H.size) (va_cwS As.length hts hG hw hcs.1 hcs.2 hd hRm) ⟨preC_blind, fun U hU hW => ⟨rfl, pre U hU hW⟩⟩ rfl rfl hl.1 rfl (lv_room hcat) d hkn) hS (fun q _ h => hFc q h) hFc (fun u t H1 locs1 ht hvm hq hB hz1 hk1 hS1 => ?_)
  obtain ⟨hP1, hK1, hD1⟩ := hB
  rw [ht] at hP1
  obtain ⟨hP2, hD2⟩ := va_join (wr := rW (kK Γ) wr) (w1 := rW (kK Γ) w1) hP hD isC isR (rW_cut hC) (rW_cut hR) hnn.2.1 hdis hk1 hFc hP1 hD1
  rw [rW_app] at hP2 hD2
  exact h H1 locs1 ls (hP2.sub perm (fm_of_map (rW_cut hp))) (hD2.sub perm hnn.2.2 (rW_cut hp)) hS1 hl
theorem V_callSNV (C : CX Γ cc nL Ts own R) {y : MethodName} {wsY ws' : List Cond} {rm : Room} {As st0 : List Value} {wc wr w1 ws2 : MW} {bytes : ByteArray} {maxL index : Nat} (hM : CtV (kL Γ) y wsY rm As wc w1) (hG : GoodIn Ts wsY) (hNW : Cond.methodLinkNest own index y RX8 ∈ NWS) (hini : Cond.initialized y.cls ∈ Ts) (hsta : Cond.static y ∈ Ts) (hw : wsY = Cond.code y bytes maxL (none) :: ws') (hcs : rm.cells = 0 ∧ rm.slots = 0) (hd : y.cls ≠ "java/lang/invoke/MethodHandle" ∧ y.cls ≠ "java/lang/invoke/VarHandle" ∧ (parseMethodDescriptor y.desc).map (fun d => d.parameters.length) = some As.length) (hRm : rm.frames + 1 ≤ R.frames ∧ 8 + (maxL + 11) + rm.locals ≤ R.locals) (hkn : k ≤ R.cells ∧ n ≤ R.slots) (isC isR perm : List Nat) (hC : isC.map (fun i => ws[i]?) = wc.map some) (hR : isR.map (fun i => ws[i]?) = wr.map some) (hnn : va_nd isC = true ∧ va_nd isR = true ∧ va_nd perm = true) (hdis : ∀ i ∈ isR, i ∉ isC) (hp : perm.map (fun i => (wr ++ w1)[i]?) = ws2.map some) (hst : st0 = As.reverse ++ st) (hcat : (st.map fun v => v.category).sum ≤ 8) (d : decode cc pc = .ok (.invokestatic index, 3)) (h : V Γ nL k n (pc + 3) lv (st) ws2) : V Γ nL k n pc lv st0 ws := by
  intro H locs ls hP hD hS hl
  subst hst
  have pre := preC_of C hP hD hS isC hC hnn.1
  obtain ⟨hx, hb, hml, hown, hts, hK, hA, hE, hlk, hR0⟩ := C
  subst hR0
  have hFc := va_free (wc := rW (kK Γ) wc) hD hS hA isC (rW_cut hC)
  refine va_callv (va_runSN (As := As) (rest := st) ⟨hx, hb, hml, hown, hts⟩ (hM (kK Γ) H.size) ⟨va_cnB As.length hts hG hw hcs.1 hcs.2 (hE.2 _ hNW) (hts _ hini) hd hRm, hts _ hsta, trivial⟩ ⟨preC_blind, fun U hU hW => ⟨rfl, pre U hU hW⟩⟩ rfl rfl hl.1 rfl (lv_room hcat) d hkn) hS (fun q _ h => hFc q h) hFc (fun u t H1 locs1 ht hvm hq hB hz1 hk1 hS1 => ?_)
  obtain ⟨hP1, hK1, hD1⟩ := hB
  rw [ht] at hP1
  obtain ⟨hP2, hD2⟩ := va_join (wr := rW (kK Γ) wr) (w1 := rW (kK Γ) w1) hP hD isC isR (rW_cut hC) (rW_cut hR) hnn.2.1 hdis hk1 hFc hP1 hD1
  rw [rW_app] at hP2 hD2
  exact h H1 locs1 ls (hP2.sub perm (fm_of_map (rW_cut hp))) (hD2.sub perm hnn.2.2 (rW_cut hp)) hS1 hl
def jabs (x : Int64) : Int64 := if 0 < x then x else -x
theorem V_abs (C : CX Γ cc nL Ts own R) {index : Nat} {x : Int64} (w1 : Cond.methodLink own index Lib.MathLoose.abs_long.x ∈ Ts) (w2 : Cond.static Lib.MathLoose.abs_long.x ∈ Ts) (w3 : Cond.initialized "java/lang/Math" ∈ Ts) (w4 : Cond.code Lib.MathLoose.abs_long.x Lib.MathLoose.abs_long.code 2 (some .long) ∈ Ts) (hRm : 1 ≤ R.frames ∧ (st.map fun v => v.category).sum + 13 ≤ R.locals) (hkn : k ≤ R.cells ∧ n ≤ R.slots) (d : decode cc pc = .ok (.invokestatic index, 3)) (h : V Γ nL k n (pc + 3) lv (.long (jabs x) :: st) ws) : V Γ nL k n pc lv (.long x :: st) ws := by
  intro H locs ls hP hD hS hl
  obtain ⟨hx, hb, hml, hown, hts, hK, hA, hE, hlk, hR0⟩ := C
  subst hR0
  exact va_mabs_long hx hb (hml.trans hl.1.symm) hown (hts _ w1) (hts _ w2) (hts _ w3) (hts _ w4) hRm.1 hRm.2 hkn.1 hkn.2 d (h H locs ls hP hD hS hl)
end VC
