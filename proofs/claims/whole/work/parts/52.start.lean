theorem m_inst_X0 : Cond.instantiable RX0 8 ∈ wsL_law := List.mem_of_getElem? (i := 26) (by decide +kernel)
theorem m_inst_X1 : Cond.instantiable RX1 1 ∈ wsL_law := List.mem_of_getElem? (i := 22) (by decide +kernel)
theorem m_inst_X2 : Cond.instantiable RX2 3 ∈ wsL_law := List.mem_of_getElem? (i := 30) (by decide +kernel)
theorem m_inst_X3 : Cond.instantiable RX3 3 ∈ wsL_law := List.mem_of_getElem? (i := 39) (by decide +kernel)
theorem m_inst_X6 : Cond.instantiable RX6 4 ∈ wsL_law := List.mem_of_getElem? (i := 18) (by decide +kernel)
theorem m_inst_X7 : Cond.instantiable RX7 2 ∈ wsL_law := List.mem_of_getElem? (i := 14) (by decide +kernel)
theorem m_inst_X8 : Cond.instantiable RX8 5 ∈ wsL_law := List.mem_of_getElem? (i := 1) (by decide +kernel)
theorem m_inst_X9 : Cond.instantiable RX9 27 ∈ wsL_law := List.mem_of_getElem? (i := 4) (by decide +kernel)
theorem m_arrI : Cond.arrayClass .int ∈ wsL_law := List.mem_of_getElem? (i := 46) (by decide +kernel)
theorem m_arrJ : Cond.arrayClass .long ∈ wsL_law := List.mem_of_getElem? (i := 36) (by decide +kernel)
theorem m_arrZ : Cond.arrayClass .boolean ∈ wsL_law := List.mem_of_getElem? (i := 64) (by decide +kernel)
theorem m_iniRods : Cond.initialized RX5 ∈ wsL_law := List.mem_of_getElem? (i := 109) (by decide +kernel)
theorem m_cl_X8 : Cond.classLink RL 7 RX8 ∈ wsL_law := List.mem_of_getElem? (i := 0) (by decide +kernel)
theorem m_cl_X9 : Cond.classLink RL 10 RX9 ∈ wsL_law := List.mem_of_getElem? (i := 3) (by decide +kernel)
theorem m_ini_X8 : Cond.initialized RX8 ∈ wsL_law := List.mem_of_getElem? (i := 2) (by decide +kernel)
theorem m_ini_X9 : Cond.initialized RX9 ∈ wsL_law := List.mem_of_getElem? (i := 5) (by decide +kernel)
theorem m_ml_X8 : Cond.methodLink RL 9 yX8_init ∈ wsL_law := List.mem_of_getElem? (i := 7) (by decide +kernel)
theorem m_ml_X9 : Cond.methodLink RL 12 yX9_init ∈ wsL_law := List.mem_of_getElem? (i := 78) (by decide +kernel)
theorem m_im_X8 : Cond.instanceMethod yX8_init ∈ wsL_law := List.mem_of_getElem? (i := 8) (by decide +kernel)
theorem m_im_X9 : Cond.instanceMethod yX9_init ∈ wsL_law := List.mem_of_getElem? (i := 79) (by decide +kernel)
theorem E_init_shape : (∃ (o0 o1 : Int32) (o2 : Nat → Int32), fX0_begin (1 : Int32) (1 : Int32) 0 0 (fun _ => 0) = some (o0, o1, o2) ∧ REL (fun _ => 0) 0 (fun _ => 0) (fun _ => 0) 0 (fun _ => 0) (fun _ => 0) (fun _ => 0) 0 (fun _ => 0) (fun _ => 0) o0 o1 0 0 o2 (fun _ => 0) (fun _ => 0) (fun _ => 0) 0 (fun _ => 0) (fun _ => 0) 0 0 0 (1 : Int32) (1 : Int32) 0 0 0 0 0 0 (fun _ => 0) (fun _ => 0) (fun _ => 0) (fun _ => 0) (fun _ => 0) (fun _ => 0) (fun _ => 0) (fun _ => 0) (fun _ => 0) (fun _ => 0) (fun _ => 0) (fun _ => 0) (fun _ => 0) (fun _ => 0) (fun _ => 0) (fun _ => 0)) → ∃ (o0 o1 : Int32) (o2 : Nat → Int32), fX0_begin (1 : Int32) (1 : Int32) 0 0 (fun _ => 0) = some (o0, o1, o2) ∧ REL (fun _ => 0) 0 (fun _ => 0) (fun _ => 0) 0 (fun _ => 0) (fun _ => 0) (fun _ => 0) 0 (fun _ => 0) (fun _ => 0) o0 o1 0 0 o2 (fun _ => 0) (fun _ => 0) (fun _ => 0) 0 (fun _ => 0) (fun _ => 0) 0 0 0 (1 : Int32) (1 : Int32) 0 0 0 0 0 0 (fun _ => 0) (fun _ => 0) (fun _ => 0) (fun _ => 0) (fun _ => 0) (fun _ => 0) (fun _ => 0) (fun _ => 0) (fun _ => 0) (fun _ => 0) (fun _ => 0) (fun _ => 0) (fun _ => 0) (fun _ => 0) (fun _ => 0) (fun _ => 0) := id
/-- the table of tens, as the Statement gives it at the start -/
theorem tens_ok {args : Array Value} {s : State} {A : Nat → Prop} (hgv : (Jvm.Cond.and given_1 narrow_1).before args s = true) (hl : (Cond.laysStatic "RodBoard$Rods" "TENS" "[J").before args s = true) (hini : (Cond.initialized "RodBoard$Rods").before args s = true) (hA : ∀ a : Nat, a < s.heap.size → ¬ A a) : TNok A s s.heap := by
  have hs := flat_of_before _ hgv
  have harr : (Cond.arrayOf (.static "RodBoard$Rods" "TENS" "[J") .long).before args s = true := hs _ (by decide +kernel)
  have hlen : (Term.length (.static "RodBoard$Rods" "TENS" "[J")).eval args s none [] s = some (.int (Int32.ofNat 12)) := va_eqt (hs (.eq (.length (.static "RodBoard$Rods" "TENS" "[J")) (.int 12)) (by decide +kernel))
  have hel : ∀ j : Nat, j < 12 → (Term.elem (.static "RodBoard$Rods" "TENS" "[J") (.int (Int32.ofNat j))).eval args s none [] s = some (.long (tensF j)) := by
    intro j hj
    rcases (show j = 0 ∨ j = 1 ∨ j = 2 ∨ j = 3 ∨ j = 4 ∨ j = 5 ∨ j = 6 ∨ j = 7 ∨ j = 8 ∨ j = 9 ∨ j = 10 ∨ j = 11 by omega) with rfl | rfl | rfl | rfl | rfl | rfl | rfl | rfl | rfl | rfl | rfl | rfl
    · exact va_eqtl (hs (.eq (.elem (.static "RodBoard$Rods" "TENS" "[J") (.int 0)) (.long 1)) (by decide +kernel))
    · exact va_eqtl (hs (.eq (.elem (.static "RodBoard$Rods" "TENS" "[J") (.int 1)) (.long 10)) (by decide +kernel))
    · exact va_eqtl (hs (.eq (.elem (.static "RodBoard$Rods" "TENS" "[J") (.int 2)) (.long 100)) (by decide +kernel))
    · exact va_eqtl (hs (.eq (.elem (.static "RodBoard$Rods" "TENS" "[J") (.int 3)) (.long 1000)) (by decide +kernel))
    · exact va_eqtl (hs (.eq (.elem (.static "RodBoard$Rods" "TENS" "[J") (.int 4)) (.long 10000)) (by decide +kernel))
    · exact va_eqtl (hs (.eq (.elem (.static "RodBoard$Rods" "TENS" "[J") (.int 5)) (.long 100000)) (by decide +kernel))
    · exact va_eqtl (hs (.eq (.elem (.static "RodBoard$Rods" "TENS" "[J") (.int 6)) (.long 1000000)) (by decide +kernel))
    · exact va_eqtl (hs (.eq (.elem (.static "RodBoard$Rods" "TENS" "[J") (.int 7)) (.long 10000000)) (by decide +kernel))
    · exact va_eqtl (hs (.eq (.elem (.static "RodBoard$Rods" "TENS" "[J") (.int 8)) (.long 100000000)) (by decide +kernel))
    · exact va_eqtl (hs (.eq (.elem (.static "RodBoard$Rods" "TENS" "[J") (.int 9)) (.long 1000000000)) (by decide +kernel))
    · exact va_eqtl (hs (.eq (.elem (.static "RodBoard$Rods" "TENS" "[J") (.int 10)) (.long 10000000000)) (by decide +kernel))
    · exact va_eqtl (hs (.eq (.elem (.static "RodBoard$Rods" "TENS" "[J") (.int 11)) (.long 100000000000)) (by decide +kernel))
  obtain ⟨tt, h1, h2⟩ := va_Tof (A := A) (N := 12) (by decide) harr hlen hel hA
  exact ⟨tt, va_Zref hl hini h1 hA, h2⟩
theorem nws_in : ∀ w ∈ NWS, w ∈ lw_tbl := by
  intro w hw
  simp only [NWS, List.mem_cons, List.not_mem_nil, or_false] at hw
  rcases hw with rfl | rfl | rfl | rfl | rfl | rfl | rfl | rfl | rfl | rfl | rfl | rfl | rfl <;> decide +kernel
theorem nws_tab : ∀ w ∈ NWS, w.onTables = true := by
  intro w hw
  simp only [NWS, List.mem_cons, List.not_mem_nil, or_false] at hw
  rcases hw with rfl | rfl | rfl | rfl | rfl | rfl | rfl | rfl | rfl | rfl | rfl | rfl | rfl <;> rfl
set_option maxHeartbeats 4000000 in
set_option maxRecDepth 100000 in
theorem whole_start {p : Program} {e : Env} {s : State} {m : MethodId} {below : List Frame} {meth : Method} {c : Code} (l : Launch) (hflags : l.flags = flags0) {b L : Nat} {xs : Nat → Int32} (hL : L ≤ 3584) (C0 : lw_At p s m meth c b L xs) : W p l e room_1 s m #[Value.ref b] below meth c s.heap [] 0 0 (lw_Z below #[Value.ref b] s) (entryFrame m ([Value.ref b] : List Value).toArray 4) := by
  obtain ⟨hx, hb, hr, hml, hown, hts, hX, hbl, hlocks, hgv⟩ := id C0
  obtain ⟨c0, iS0, hKn0⟩ := u_known (C := RX0) (T := TX0) (N := 8) (n := 8) hts inX0 (hts (.instantiable RX0 8) (wsL_law_in _ m_inst_X0))
  obtain ⟨c1, iS1, hKn1⟩ := u_known (C := RX1) (T := TX1) (N := 1) (n := 1) hts inX1 (hts (.instantiable RX1 1) (wsL_law_in _ m_inst_X1))
  obtain ⟨c2, iS2, hKn2⟩ := u_known (C := RX2) (T := TX2) (N := 3) (n := 3) hts inX2 (hts (.instantiable RX2 3) (wsL_law_in _ m_inst_X2))
  obtain ⟨c3, iS3, hKn3⟩ := u_known (C := RX3) (T := TX3) (N := 3) (n := 3) hts inX3 (hts (.instantiable RX3 3) (wsL_law_in _ m_inst_X3))
  obtain ⟨c4, iS4, hKn4⟩ := u_known (C := RX6) (T := TX6) (N := 4) (n := 4) hts inX6 (hts (.instantiable RX6 4) (wsL_law_in _ m_inst_X6))
  obtain ⟨c5, iS5, hKn5⟩ := u_known (C := RX7) (T := TX7) (N := 2) (n := 2) hts inX7 (hts (.instantiable RX7 2) (wsL_law_in _ m_inst_X7))
  obtain ⟨c6, iS6, hKn6⟩ := u_known (C := RX8) (T := TX8) (N := 5) (n := 5) hts inX8 (hts (.instantiable RX8 5) (wsL_law_in _ m_inst_X8))
  obtain ⟨c7, iS7, hKn7⟩ := u_known (C := RX9) (T := TX9) (N := 27) (n := 27) hts inX9 (hts (.instantiable RX9 27) (wsL_law_in _ m_inst_X9))
  obtain ⟨dC, dI, hKc⟩ : ∃ (dC : Nat → ClassId) (dI : Nat → Nat → Nat), ∀ (k : Nat) (q : vw_C), vwCl[k]? = some q → u_Kn s q.1 q.2.1 q.2.2 (dC k) (dI k) := by
    refine ⟨fun k => if k = 0 then c0 else if k = 1 then c1 else if k = 2 then c2 else if k = 3 then c3 else if k = 4 then c4 else if k = 5 then c5 else if k = 6 then c6 else c7, fun k => if k = 0 then iS0 else if k = 1 then iS1 else if k = 2 then iS2 else if k = 3 then iS3 else if k = 4 then iS4 else if k = 5 then iS5 else if k = 6 then iS6 else iS7, ?_⟩
    intro k q hq
    match k, hq with
    | 0, hq => cases hq; exact hKn0
    | 1, hq => cases hq; exact hKn1
    | 2, hq => cases hq; exact hKn2
    | 3, hq => cases hq; exact hKn3
    | 4, hq => cases hq; exact hKn4
    | 5, hq => cases hq; exact hKn5
    | 6, hq => cases hq; exact hKn6
    | 7, hq => cases hq; exact hKn7
    | k + 8, hq => simp [vwCl] at hq
  obtain ⟨cI, hI1, hI2⟩ := arrK_of (ty := .int) (fun _ h => by cases h) (hts (.arrayClass .int) (wsL_law_in _ m_arrI))
  obtain ⟨cJ, hJ1, hJ2⟩ := arrK_of (ty := .long) (fun _ h => by cases h) (hts (.arrayClass .long) (wsL_law_in _ m_arrJ))
  obtain ⟨cZ, hZ1, hZ2⟩ := arrK_of (ty := .boolean) (fun _ h => by cases h) (hts (.arrayClass .boolean) (wsL_law_in _ m_arrZ))
  have hK : va_K (dC, dI) vwCl (tysK ((dC, dI), cI, cJ, cZ)) s := by
    refine ⟨hKc, fun k q h => ?_⟩
    match k, h with
    | 0, h => cases h; exact ⟨hI1, hI2⟩
    | 1, h => cases h; exact ⟨hJ1, hJ2⟩
    | 2, h => cases h; exact ⟨hZ1, hZ2⟩
    | k + 3, h => simp [tysK] at h
  have hAn : ∀ a : Nat, a < s.heap.size → ¬ (fun q : Nat => s.heap.size ≤ q) a := fun a h => Nat.not_le.mpr h
  have hE : ENV (fun q : Nat => s.heap.size ≤ q) s s.heap := ⟨tens_ok hgv (hts (.laysStatic "RodBoard$Rods" "TENS" "[J") (by decide +kernel)) (hts (.initialized "RodBoard$Rods") (wsL_law_in _ m_iniRods)) hAn, fun w hw => va_Nw.of (nws_tab w hw) (hts w (nws_in w hw))⟩
  have CC : CX ((p, l, e, room_1), (s, m, #[Value.ref b], below), (meth, c, lw_Z below #[Value.ref b] s), ((dC, dI), cI, cJ, cZ), (fun q : Nat => s.heap.size ≤ q)) cL_law 4 wsL_law RL room_1 := ⟨hx, hb, hml, hown, fun w hw => hts w (wsL_law_in w hw), hK, fun q h => h, hE, hlocks, rfl⟩
  have hl := lv_entry ([.ref b]) (n := 4) (Nat.le_of_ble_eq_true rfl)
  rw [lg_entry_eq]
  have hP0 : va_P (dC, dI) vwCl (rW ((dC, dI), cI, cJ, cZ) []) s.heap := fun k q h => by simp [rW] at h
  have hD0 : va_D (fun q : Nat => s.heap.size ≤ q) (rW ((dC, dI), cI, cJ, cZ) []) := ⟨fun i j p q h => by simp [rW] at h, fun k q h => by simp [rW] at h⟩
  have hend : ∀ (pc : Nat) (lv : List (Nat × Value)) (ws : MW), decode cL_law pc = .ok (.ireturn, 1) → V ((p, l, e, room_1), (s, m, #[Value.ref b], below), (meth, c, lw_Z below #[Value.ref b] s), ((dC, dI), cI, cJ, cZ), (fun q : Nat => s.heap.size ≤ q)) 4 39 8398 pc lv [.int 1] ws := by
    intro pc lv ws d H locs ls hP hD hS hl
    refine va_forget (fun q hq => hS.2.2 q hq) ?_
    exact lw_ret hx hb hr hlocks d
  have hbA : ¬ (fun q : Nat => s.heap.size ≤ q) b := Nat.not_le.mpr hbl
  suffices K : ∀ Γ : KT, kL Γ = l → kS Γ = s → ¬ kA Γ b → CX Γ cL_law 4 wsL_law RL room_1 → (∀ (pc : Nat) (lv : List (Nat × Value)) (ws : MW), decode cL_law pc = .ok (.ireturn, 1) → V Γ 4 39 8398 pc lv [.int 1] ws) → V Γ 4 0 0 0 [(0, .ref b)] [] [] from K _ rfl rfl hbA CC hend s.heap [] _ hP0 hD0 va_S.rf hl
  intro Γ hLa hSt hbA C hend
  obtain ⟨o0, o1, o2, hm, hr0⟩ := E_init
  have hX : va_X b L xs (kS Γ) (kS Γ).heap := by rw [hSt]; exact hX
  have hbl : b < (kS Γ).heap.size := by rw [hSt]; exact hbl
  refine V_new C (ci := 6) (fs := [.null, .null, .null, .null, .null]) (fun w hw => inlX8 w hw) tyX8 tyX8_ok m_cl_X8 m_inst_X8 m_ini_X8 rfl (fun j hj => by rcases (show j = 0 ∨ j = 1 ∨ j = 2 ∨ j = 3 ∨ j = 4 by omega) with rfl | rfl | rfl | rfl | rfl <;> rfl) ⟨Nat.le_of_ble_eq_true rfl, Nat.le_of_ble_eq_true rfl⟩ dL_law_0 (fun x0 => ?_)
  refine V_dup C dL_law_3 rfl ?_
  refine V_callIP C (wc := [(x0, eO 6 [.null, .null, .null, .null, .null])]) (wr := []) (kX8_init (h0 := x0) hm) gL_law_X8_init m_ml_X8 m_ini_X8 m_im_X8 rfl ⟨rfl, rfl⟩ rfl hdX8_init ⟨Nat.le_of_ble_eq_true rfl, Nat.le_of_ble_eq_true rfl⟩ ⟨Nat.le_of_ble_eq_true rfl, Nat.le_of_ble_eq_true rfl⟩ [0] [] rfl rfl ⟨rfl, rfl⟩ (by decide) (Nat.le_of_ble_eq_true rfl) dL_law_4 (fun u hu => ?_)
  obtain ⟨x_1, x_2, x_3, x_4, x_5, x_6, x_7, x_8, x_9, x_10, x_11, x_12, x_13, x_14, x_15, x_16, x_17, x_18, x_19, x_20, x_21, rfl⟩ := hu
  refine V_astore_n C (lv' := [(1, .ref x0), (0, .ref b)]) dL_law_7 rfl (by decide) rfl ?_
  refine V_new C (ci := 7) (fs := [.null, .int 0, .null, .null, .int 0, .null, .null, .int 0, .null, .null, .int 0, .int 0, .null, .int 0, .null, .null, .null, .null, .null, .int 0, .int 0, .null, .null, .int 0, .int 0, .int 0, .null]) (fun w hw => inlX9 w hw) tyX9 tyX9_ok m_cl_X9 m_inst_X9 m_ini_X9 rfl (fun j hj => by rcases (show j = 0 ∨ j = 1 ∨ j = 2 ∨ j = 3 ∨ j = 4 ∨ j = 5 ∨ j = 6 ∨ j = 7 ∨ j = 8 ∨ j = 9 ∨ j = 10 ∨ j = 11 ∨ j = 12 ∨ j = 13 ∨ j = 14 ∨ j = 15 ∨ j = 16 ∨ j = 17 ∨ j = 18 ∨ j = 19 ∨ j = 20 ∨ j = 21 ∨ j = 22 ∨ j = 23 ∨ j = 24 ∨ j = 25 ∨ j = 26 by omega) with rfl | rfl | rfl | rfl | rfl | rfl | rfl | rfl | rfl | rfl | rfl | rfl | rfl | rfl | rfl | rfl | rfl | rfl | rfl | rfl | rfl | rfl | rfl | rfl | rfl | rfl | rfl <;> rfl) ⟨Nat.le_of_ble_eq_true rfl, Nat.le_of_ble_eq_true rfl⟩ dL_law_8 (fun m0 => ?_)
  refine V_dup C dL_law_11 rfl ?_
  refine V_callIP C (wc := [(m0, eO 7 [.null, .int 0, .null, .null, .int 0, .null, .null, .int 0, .null, .null, .int 0, .int 0, .null, .int 0, .null, .null, .null, .null, .null, .int 0, .int 0, .null, .null, .int 0, .int 0, .int 0, .null])]) (wr := [(x0, eO 6 [.ref x_1, .ref x_6, .ref x_10, .ref x_14, .ref x_19]), (x_1, eO 5 [.ref x_2, .ref x_3]), (x_2, eJ 8 (fun _ => 0)), (x_3, eO 3 [.ref x_4, .ref x_5, .int 0]), (x_4, eJ 392 (fun _ => 0)), (x_5, eI 288 (fun _ => 0)), (x_6, eO 4 [.ref x_7, .ref x_8, .ref x_9, .int 0]), (x_7, eI 12 (fun _ => 0)), (x_8, eI 12 (fun _ => 0)), (x_9, eI 169 (fun _ => 0)), (x_10, eO 1 [.ref x_11]), (x_11, eO 3 [.ref x_12, .ref x_13, .int 0]), (x_12, eJ 392 (fun _ => 0)), (x_13, eI 288 (fun _ => 0)), (x_14, eO 0 [.ref x_15, .ref x_16, .ref x_17, .ref x_18, .int o0, .int o1, .int 0, .int 0]), (x_15, eI 25 o2), (x_16, eJ 25 (fun _ => 0)), (x_17, eZ 4 (fun _ => 0)), (x_18, eJ 4 (fun _ => 0)), (x_19, eO 2 [.ref x_20, .ref x_21, .int 0]), (x_20, eI 6 (fun _ => 0)), (x_21, eI 6 (fun _ => 0))]) (kX9_init (h0 := m0)) gL_law_X9_init m_ml_X9 m_ini_X9 m_im_X9 rfl ⟨rfl, rfl⟩ rfl hdX9_init ⟨Nat.le_of_ble_eq_true rfl, Nat.le_of_ble_eq_true rfl⟩ ⟨Nat.le_of_ble_eq_true rfl, Nat.le_of_ble_eq_true rfl⟩ [22] [0, 1, 2, 3, 4, 5, 6, 7, 8, 9, 10, 11, 12, 13, 14, 15, 16, 17, 18, 19, 20, 21] rfl rfl ⟨rfl, rfl⟩ (by decide) (Nat.le_of_ble_eq_true rfl) dL_law_12 (fun u hu => ?_)
  obtain ⟨m_1, m_2, m_3, m_4, m_5, m_6, m_7, m_8, m_9, m_10, m_11, m_12, m_13, m_14, m_15, m_16, rfl⟩ := hu
  refine V_astore_n C (lv' := [(2, .ref m0), (1, .ref x0), (0, .ref b)]) dL_law_15 rfl (by decide) rfl ?_
  refine V_iconst C (v := (0 : Int32)) dL_law_16 (by decide) ?_
  refine V_istore_n C (lv' := [(3, .int (0 : Int32)), (2, .ref m0), (1, .ref x0), (0, .ref b)]) dL_law_17 rfl (by decide) rfl ?_
  refine V_lv [3, 2, 1, 0] rfl ?_
  exact law_loop C hX hbl hbA hL x0 x_1 x_2 x_3 x_4 x_5 x_6 x_7 x_8 x_9 x_10 x_11 x_12 x_13 x_14 x_15 x_16 x_17 x_18 x_19 x_20 x_21 m0 m_1 m_2 m_3 m_4 m_5 m_6 m_7 m_8 m_9 m_10 m_11 m_12 m_13 m_14 m_15 m_16 hend (L + 8) 0 (fun _ => 0) 0 (fun _ => 0) (fun _ => 0) 0 (fun _ => 0) (fun _ => 0) (fun _ => 0) 0 (fun _ => 0) (fun _ => 0) o0 o1 0 0 o2 (fun _ => 0) (fun _ => 0) (fun _ => 0) 0 (fun _ => 0) (fun _ => 0) 0 0 0 (1 : Int32) (1 : Int32) 0 0 0 0 0 0 (fun _ => 0) (fun _ => 0) (fun _ => 0) (fun _ => 0) (fun _ => 0) (fun _ => 0) (fun _ => 0) (fun _ => 0) (fun _ => 0) (fun _ => 0) (fun _ => 0) (fun _ => 0) (fun _ => 0) (fun _ => 0) (fun _ => 0) (fun _ => 0) (Nat.zero_le _) (by omega) hr0
