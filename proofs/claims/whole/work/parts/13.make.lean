/-! ===== the calculus V: constructors ===== -/
theorem arrK_of {args : Array Value} {s : State} {ty : FieldType} (hty : ∀ C, ty ≠ .object C) (h : (Cond.arrayClass ty).before args s = true) : ∃ cA : ClassId, ArrOfT s cA ty ∧ va_RA s cA ty := by
  obtain ⟨cA, kA, comp, h1, h2, h3⟩ := Cond.arrayClass_spec h
  refine ⟨cA, fun n z => ⟨fun k h => (by cases h), kA, h2, comp, h3⟩, ?_⟩
  cases ty <;> first | exact h1 | exact absurd rfl (hty _)
def CtC (l : Launch) (y : MethodName) (wsY : List Cond) (rm : Room) (As : List Value) (ws : MW) (mc ms : Nat) (P : MW → Prop) : Prop := ∀ (κ : KK) (sz : Nat), Met l y wsY rm (va_Pc As (PreC κ sz ws)) (va_Qv (fun u : MW => P u) (fun u t => PostC κ sz ws u t) (va_A (rW κ ws) sz)) mc ms (va_A (rW κ ws) sz)
theorem CtC_of {l : Launch} {y : MethodName} {wsY ws' : List Cond} {rm : Room} {As : List Value} {ws : MW} {mc ms : Nat} {P : MW → Prop} {cc : ByteArray} {maxL : Nat} {own : String} (ho : y.cls = own) (hy : plainName y.cls = true) (hi : y.name = "<init>") (hw : wsY = Cond.code y cc maxL none :: ws') {lv0 : List (Nat × Value)} (hlv : lv_args 0 As = lv0) (hlen : (lg_sl As).length ≤ maxL)
    (K : ∀ Γ : KT, kL Γ = l → CX Γ cc maxL wsY own rm → Γ.2.2.1.1.name = "<init>" → (∀ (pc : Nat) (lv : List (Nat × Value)) (u : MW), P u → decode cc pc = .ok (.return_, 1) → V Γ maxL mc ms pc lv [] u) → V Γ maxL 0 0 0 lv0 [] ws) : CtC l y wsY rm As ws mc ms P := by
  intro κ sz
  refine Met.ofW (cc := cc) (maxL := maxL) (ret := none) hy hw ?_
  intro p e s m args below meth c s₁ B hml hv
  obtain ⟨rfl, hsz, hP, hK, hD0, hE⟩ := hv
  subst hsz
  have hx := B.exec
  have hb := B.bytes
  have hr := B.returns
  have hts := atoms_spec (ws := wsY) B.pre
  have hown : s.vm.findClass y.cls = some m.cls := findClass_of_methodNamed B.named
  have hlocks := B.notSynchronized
  have hin : meth.name = y.name := (name_of_methodNamed B.named B.method).1
  rw [hi] at hin
  rw [ho] at hown
  have hD := hD0.self (sz := s.heap.size)
  have hl := lv_entry As (n := maxL) hlen
  rw [lg_entry_eq]
  rw [hlv] at hl
  have CC : CX ((p, l, e, rm), (s, m, As.toArray, below), (meth, c, MQ below (va_Qv (fun u : MW => P u) (fun u t => PostC κ s.heap.size ws u t) (va_A (rW κ ws) s.heap.size)) As.toArray s mc ms (va_A (rW κ ws) s.heap.size)), κ, va_A (rW κ ws) s.heap.size) cc maxL wsY own rm := ⟨hx, hb, hml, hown, hts, hK, fun q h => Or.inr h, hE, hlocks, rfl⟩
  refine K _ rfl CC hin ?_ s.heap [] _ hP hD va_S.rf hl
  intro pc lv u hu d H locs ls hP hD hS hl
  exact W.vret hx hb hr (fun t ht hW => ⟨⟨u, rfl, hu, by rw [ht]; exact hP, va_K.moved hW.alike hK, hD⟩, hS.F ht⟩) hS.2.2 d hlocks
section VM
variable {Γ : KT} {cc : ByteArray} {nL k n pc : Nat} {Ts : List Cond} {own : String} {R : Room} {lv : List (Nat × Value)} {st : List Value} {ws ws' : MW}
theorem V_perm (perm : List Nat) (hp : perm.map (fun i => ws[i]?) = ws'.map some) (hn : va_nd perm = true) (h : V Γ nL k n pc lv st ws') : V Γ nL k n pc lv st ws := fun H locs ls hP hD hS hl => h H locs ls (hP.sub perm (fm_of_map (rW_cut hp))) (hD.sub perm hn (rW_cut hp)) hS hl
theorem V_widen {k' n' : Nat} (h1 : k ≤ k') (h2 : n ≤ n') (h : V Γ nL k' n' pc lv st ws) : V Γ nL k n pc lv st ws := fun H locs ls hP hD hS hl => W.widen h1 h2 (h H locs ls hP hD hS hl)
theorem V_obj (C : CX Γ cc nL Ts own R) {idx a : Nat} (w1 : Cond.methodLink own idx objectInit ∈ Ts) (w2 : Cond.instanceMethod objectInit ∈ Ts) (w3 : Cond.code objectInit ⟨#[0xb1]⟩ 1 none ∈ Ts) (hR : 1 ≤ R.frames ∧ (st.map fun v => v.category).sum + 12 ≤ R.locals) (d : decode cc pc = .ok (.invokespecial idx, 3)) (h : V Γ nL k n (pc + 3) lv st ws) : V Γ nL k n pc lv (.ref a :: st) ws := by
  intro H locs ls hP hD hS hl
  obtain ⟨hx, hb, hml, hown, hts, hK, hA, hE, hlk, hR0⟩ := C
  subst hR0
  exact W.objInit hx hb hown (hts _ w1) (hts _ w2) (hts _ w3) rfl (hl.1.trans hml.symm) rfl d hR.1 (by show 2 * 0 + _ + 12 ≤ (kR Γ).locals; have := hR.2; omega) (h H locs ls hP hD hS hl)
theorem V_new (C : CX Γ cc nL Ts own R) {index ci N : Nat} {CN : String} {T : u_T} {fs : List Value} (hin : ∀ w ∈ u_ws CN T N, w ∈ Ts) (ty : Nat → FieldType) (hty : ∀ k, k < N → parseFieldDescriptor (T k).2.2.1 = some (ty k)) (w1 : Cond.classLink own index CN ∈ Ts) (w2 : Cond.instantiable CN N ∈ Ts) (w3 : Cond.initialized CN ∈ Ts) (hc : vwCl[ci]? = some (CN, T, N)) (hfs : ∀ j, j < N → defaultValue (ty j) = vp_V fs j) (hk : k + 1 ≤ R.cells ∧ n + N ≤ R.slots) (d : decode cc pc = .ok (.new index, 3)) (h : ∀ q : Nat, V Γ nL (k + 1) (n + N) (pc + 3) lv (.ref q :: st) (ws ++ [(q, eO ci fs)])) : V Γ nL k n pc lv st ws := by
  intro H locs ls hP hD hS hl
  obtain ⟨hx, hb, hml, hown, hts, hK, hA, hE, hlk, hR0⟩ := C
  subst hR0
  refine va_new hx hb hts hin ty hty hown (hts _ w1) (hts _ w2) (hts _ w3) hK hP hD hS hA hc hfs hk.1 hk.2 d (fun q H1 hP1 hD1 hS1 => ?_)
  exact h q H1 locs ls (by rw [← rW_app]; exact hP1) (by rw [← rW_app]; exact hD1) hS1 hl
theorem V_newJ (C : CX Γ cc nL Ts own R) {z : Int32} {N : Nat} (w : Cond.arrayClass .long ∈ Ts) (hz : ¬ z < 0 ∧ z.toNatClampNeg = N ∧ N * 8 ≤ 536870912) (hk : k + 1 ≤ R.cells ∧ n + N ≤ R.slots) (d : decode cc pc = .ok (.newarray .long, 2)) (h : ∀ q : Nat, V Γ nL (k + 1) (n + N) (pc + 2) lv (.ref q :: st) (ws ++ [(q, eJ N (fun _ => 0))])) : V Γ nL k n pc lv (.int z :: st) ws := by
  intro H locs ls hP hD hS hl
  obtain ⟨hx, hb, hml, hown, hts, hK, hA, hE, hlk, hR0⟩ := C
  subst hR0
  refine va_newa (atype := .long) (ty := .long) (a0 := (N, .inr (.inl (fun _ => 0)))) hx hb (hts _ w) rfl hK hP hD hS hA (fun _ => rfl) hz.1 hz.2.1 hz.2.2 hk.1 hk.2 d (fun q cA H1 hK1 hP1 hD1 hS1 => ?_)
  have e1 := (hK1.2 3 (cA, .long) rfl).2
  have e2 := (hK.2 1 ((kK Γ).2.2.1, .long) rfl).2
  have e : cA = (kK Γ).2.2.1 := Option.some.inj ((show _ = some cA from e1).symm.trans e2)
  subst e
  exact h q H1 locs ls (by rw [← rW_app]; exact hP1) (by rw [← rW_app]; exact hD1) hS1 hl
theorem V_newI (C : CX Γ cc nL Ts own R) {z : Int32} {N : Nat} (w : Cond.arrayClass .int ∈ Ts) (hz : ¬ z < 0 ∧ z.toNatClampNeg = N ∧ N * 4 ≤ 536870912) (hk : k + 1 ≤ R.cells ∧ n + N ≤ R.slots) (d : decode cc pc = .ok (.newarray .int, 2)) (h : ∀ q : Nat, V Γ nL (k + 1) (n + N) (pc + 2) lv (.ref q :: st) (ws ++ [(q, eI N (fun _ => 0))])) : V Γ nL k n pc lv (.int z :: st) ws := by
  intro H locs ls hP hD hS hl
  obtain ⟨hx, hb, hml, hown, hts, hK, hA, hE, hlk, hR0⟩ := C
  subst hR0
  refine va_newa (atype := .int) (ty := .int) (a0 := (N, .inl (fun _ => 0))) hx hb (hts _ w) rfl hK hP hD hS hA (fun _ => rfl) hz.1 hz.2.1 hz.2.2 hk.1 hk.2 d (fun q cA H1 hK1 hP1 hD1 hS1 => ?_)
  have e1 := (hK1.2 3 (cA, .int) rfl).2
  have e2 := (hK.2 0 ((kK Γ).2.1, .int) rfl).2
  have e : cA = (kK Γ).2.1 := Option.some.inj ((show _ = some cA from e1).symm.trans e2)
  subst e
  exact h q H1 locs ls (by rw [← rW_app]; exact hP1) (by rw [← rW_app]; exact hD1) hS1 hl
theorem V_newZ (C : CX Γ cc nL Ts own R) {z : Int32} {N : Nat} (w : Cond.arrayClass .boolean ∈ Ts) (hz : ¬ z < 0 ∧ z.toNatClampNeg = N ∧ N * 1 ≤ 536870912) (hk : k + 1 ≤ R.cells ∧ n + N ≤ R.slots) (d : decode cc pc = .ok (.newarray .boolean, 2)) (h : ∀ q : Nat, V Γ nL (k + 1) (n + N) (pc + 2) lv (.ref q :: st) (ws ++ [(q, eZ N (fun _ => 0))])) : V Γ nL k n pc lv (.int z :: st) ws := by
  intro H locs ls hP hD hS hl
  obtain ⟨hx, hb, hml, hown, hts, hK, hA, hE, hlk, hR0⟩ := C
  subst hR0
  refine va_newa (atype := .boolean) (ty := .boolean) (a0 := (N, .inl (fun _ => 0))) hx hb (hts _ w) rfl hK hP hD hS hA (fun _ => rfl) hz.1 hz.2.1 hz.2.2 hk.1 hk.2 d (fun q cA H1 hK1 hP1 hD1 hS1 => ?_)
  have e1 := (hK1.2 3 (cA, .boolean) rfl).2
  have e2 := (hK.2 2 ((kK Γ).2.2.2, .boolean) rfl).2
  have e : cA = (kK Γ).2.2.2 := Option.some.inj ((show _ = some cA from e1).symm.trans e2)
  subst e
  exact h q H1 locs ls (by rw [← rW_app]; exact hP1) (by rw [← rW_app]; exact hD1) hS1 hl
theorem V_putF (C : CX Γ cc nL Ts own R) (hinit : Γ.2.2.1.1.name = "<init>") {index : Nat} {CN : String} {T : u_T} {N ci a : Nat} {fs : List Value} {v : Value} {ty : FieldType} (hin : ∀ w ∈ u_ws CN T N, w ∈ Ts) (ty0 : Nat → FieldType) (hty : ∀ k, k < N → parseFieldDescriptor (T k).2.2.1 = some (ty0 k)) (hnm : ∀ a, a < N → ∀ b, b < N → a ≠ b → (T a).2.1 ≠ (T b).2.1) (q0 kf : Nat) (he : ws[q0]? = some (a, eO ci fs)) (hc : vwCl[ci]? = some (CN, T, N)) (hk : kf < N) (w : Cond.fieldLink own index (T kf).1 (T kf).2.1 (T kf).2.2.1 ∈ Ts) (hfin : (T kf).2.2.2 = true) (hdecl : (T kf).1 = own) (hd : parseFieldDescriptor (T kf).2.2.1 = some ty) (hn : narrow ty v = v) (hfit : fits ty v = true) (hl : kf < fs.length) (d : decode cc pc = .ok (.putfield index, 3)) (hw : ws.set q0 (a, eO ci (fs.set kf v)) = ws') (h : V Γ nL k n (pc + 3) lv st ws') : V Γ nL k n pc lv (v :: .ref a :: st) ws := fun H locs ls hP hD hS hlv => va_putF C.1 C.2.1 C.2.2.2.2.1 hin ty0 hty hnm C.2.2.2.1 C.2.2.2.2.2.1 hP hD hS q0 (rW_at he) hc kf hk (C.2.2.2.2.1 _ w) (fun _ h9 => h9) hfin hinit hdecl hd hn hfit hl d (fun H1 locs1 hP1 hD1 hS1 => by
  have e : (rW (kK Γ) ws).set q0 (a, .inr (ci, fs.set kf v)) = rW (kK Γ) ws' := (rW_set (kK Γ) ws q0 a (eO ci (fs.set kf v))).trans (by rw [hw])
  rw [e] at hP1 hD1
  exact h H1 locs1 ls hP1 hD1 hS1 hlv)
theorem V_callIN (C : CX Γ cc nL Ts own R) {y : MethodName} {wsY ws' : List Cond} {rm : Room} {b : Nat} {wc wr : MW} {mc ms : Nat} {P : MW → Prop} {bytes : ByteArray} {maxL index : Nat} (hM : CtC (kL Γ) y wsY rm [.ref b] wc mc ms P) (hG : GoodIn Ts wsY) (hNW : Cond.methodLinkNest own index y RX8 ∈ NWS) (hini : Cond.initialized y.cls ∈ Ts) (hins : Cond.instanceMethod y ∈ Ts) (hw : wsY = Cond.code y bytes maxL none :: ws') (hcs : rm.cells = mc ∧ rm.slots = ms) (hyi : y.name = "<init>") (hd : y.cls ≠ "java/lang/invoke/MethodHandle" ∧ y.cls ≠ "java/lang/invoke/VarHandle" ∧ (parseMethodDescriptor y.desc).map (fun d => d.parameters.length) = some 0) (hRm : rm.frames + 1 ≤ R.frames ∧ 8 + (maxL + 11) + rm.locals ≤ R.locals) (hkn : k + mc ≤ R.cells ∧ n + ms ≤ R.slots) (isC isR : List Nat) (hC : isC.map (fun i => ws[i]?) = wc.map some) (hR : isR.map (fun i => ws[i]?) = wr.map some) (hnn : va_nd isC = true ∧ va_nd isR = true) (hdis : ∀ i ∈ isR, i ∉ isC) (hcat : (st.map fun v => v.category).sum ≤ 8) (d : decode cc pc = .ok (.invokespecial index, 3)) (h : ∀ u : MW, P u → V Γ nL (k + mc) (n + ms) (pc + 3) lv st (wr ++ u)) : V Γ nL k n pc lv (.ref b :: st) ws := by
  intro H locs ls hP hD hS hl
  have pre := preC_of C hP hD hS isC hC hnn.1
  obtain ⟨hx, hb, hml, hown, hts, hK, hA, hE, hlk, hR0⟩ := C
  subst hR0
  have hFc := va_free (wc := rW (kK Γ) wc) hD hS hA isC (rW_cut hC)
  refine va_callv (va_runIN (As := []) (rest := st) ⟨hx, hb, hml, hown, hts⟩ (hM (kK Γ) H.size) ⟨va_cnB 0 hts hG hw hcs.1 hcs.2 (hE.2 _ hNW) (hts _ hini) hd hRm, hyi, hts _ hins⟩ ⟨preC_blind, fun U hU hW => ⟨rfl, pre U hU hW⟩⟩ rfl rfl hl.1 rfl (lv_room hcat) d hkn) hS (fun q _ h => hFc q h) hFc (fun u t H1 locs1 ht hvm hq hB hz1 hk1 hS1 => ?_)
  obtain ⟨hP1, hK1, hD1⟩ := hB
  rw [ht] at hP1
  obtain ⟨hP2, hD2⟩ := va_join (wr := rW (kK Γ) wr) (w1 := rW (kK Γ) u) hP hD isC isR (rW_cut hC) (rW_cut hR) hnn.2 hdis hk1 hFc hP1 hD1
  rw [rW_app] at hP2 hD2
  exact h u hq H1 locs1 ls hP2 hD2 hS1 hl
theorem V_callIP (C : CX Γ cc nL Ts own R) {y : MethodName} {wsY ws' : List Cond} {rm : Room} {b : Nat} {wc wr : MW} {mc ms : Nat} {P : MW → Prop} {bytes : ByteArray} {maxL index : Nat} (hM : CtC (kL Γ) y wsY rm [.ref b] wc mc ms P) (hG : GoodIn Ts wsY) (hlk : Cond.methodLink own index y ∈ Ts) (hini : Cond.initialized y.cls ∈ Ts) (hins : Cond.instanceMethod y ∈ Ts) (hw : wsY = Cond.code y bytes maxL none :: ws') (hcs : rm.cells = mc ∧ rm.slots = ms) (hyi : y.name = "<init>") (hd : y.cls ≠ "java/lang/invoke/MethodHandle" ∧ y.cls ≠ "java/lang/invoke/VarHandle" ∧ (parseMethodDescriptor y.desc).map (fun d => d.parameters.length) = some 0) (hRm : rm.frames + 1 ≤ R.frames ∧ 8 + (maxL + 11) + rm.locals ≤ R.locals) (hkn : k + mc ≤ R.cells ∧ n + ms ≤ R.slots) (isC isR : List Nat) (hC : isC.map (fun i => ws[i]?) = wc.map some) (hR : isR.map (fun i => ws[i]?) = wr.map some) (hnn : va_nd isC = true ∧ va_nd isR = true) (hdis : ∀ i ∈ isR, i ∉ isC) (hcat : (st.map fun v => v.category).sum ≤ 8) (d : decode cc pc = .ok (.invokespecial index, 3)) (h : ∀ u : MW, P u → V Γ nL (k + mc) (n + ms) (pc + 3) lv st (wr ++ u)) : V Γ nL k n pc lv (.ref b :: st) ws := by
  intro H locs ls hP hD hS hl
  have pre := preC_of C hP hD hS isC hC hnn.1
  obtain ⟨hx, hb, hml, hown, hts, hK, hA, hE, hlk0, hR0⟩ := C
  subst hR0
  have hFc := va_free (wc := rW (kK Γ) wc) hD hS hA isC (rW_cut hC)
  refine va_callv (va_runI (As := []) (rest := st) ⟨hx, hb, hml, hown, hts⟩ (hM (kK Γ) H.size) (cwI 0 hts hG hw hcs.1 hcs.2 (hts _ hini) (hts _ hlk) (hts _ hins) hyi hd hRm) ⟨preC_blind, fun U hU hW => ⟨rfl, pre U hU hW⟩⟩ rfl rfl hl.1 rfl (lv_room hcat) d hkn) hS (fun q _ h => hFc q h) hFc (fun u t H1 locs1 ht hvm hq hB hz1 hk1 hS1 => ?_)
  obtain ⟨hP1, hK1, hD1⟩ := hB
  rw [ht] at hP1
  obtain ⟨hP2, hD2⟩ := va_join (wr := rW (kK Γ) wr) (w1 := rW (kK Γ) u) hP hD isC isR (rW_cut hC) (rW_cut hR) hnn.2 hdis hk1 hFc hP1 hD1
  rw [rW_app] at hP2 hD2
  exact h u hq H1 locs1 ls hP2 hD2 hS1 hl
end VM
