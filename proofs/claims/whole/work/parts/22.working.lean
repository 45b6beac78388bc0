-- RodBoard$Working.held(I)J
theorem uX7_held_X7 : ∀ w ∈ wsX70, w ∈ wsX7_held := fun _ h => List.mem_cons_of_mem _ (List.mem_append_right _ h)
theorem mX7_held_1 : Cond.fieldLink RX7 9 "RodBoard$Working" "rows" "[J" ∈ wsX7_held := List.mem_of_getElem? (i := 1) rfl
def fX7_held (p0 : Int32) (s_rows : Nat → Int64) : Option ((Int64)) := if p0 < (0 : Int32) then some (0 : Int64) else if p0 < (8 : Int32) then Option.bind (rdJ s_rows 8 p0) (fun v_3 => some v_3) else some (0 : Int64)
set_option maxHeartbeats 4000000 in
set_option maxRecDepth 100000 in
theorem kX7_held {l : Launch} (h0 : Nat) (a_s_rows : Nat) (a_s_course : Nat) (a_s_course_cells : Nat) (a_s_course_notes : Nat) (s_rows : Nat → Int64) (s_course_boards : Int32) (s_course_cells : Nat → Int64) (s_course_notes : Nat → Int32) (p0 : Int32) (r : Int64) (hm : fX7_held p0 s_rows = some r) : CtL l yX7_held wsX7_held ({ frames := 0, cells := 0, slots := 0, locals := 0 } : Room) [.ref h0, .int p0] [(h0, eO 5 [.ref a_s_rows, .ref a_s_course]), (a_s_rows, eJ 8 s_rows), (a_s_course, eO 3 [.ref a_s_course_cells, .ref a_s_course_notes, .int s_course_boards]), (a_s_course_cells, eJ 392 s_course_cells), (a_s_course_notes, eI 288 s_course_notes)] r [(h0, eO 5 [.ref a_s_rows, .ref a_s_course]), (a_s_rows, eJ 8 s_rows), (a_s_course, eO 3 [.ref a_s_course_cells, .ref a_s_course_notes, .int s_course_boards]), (a_s_course_cells, eJ 392 s_course_cells), (a_s_course_notes, eI 288 s_course_notes)] := by
  refine CtL_of (cc := cX7_held) (maxL := 2) (own := RX7) rfl (by decide) rfl (lv0 := [(0, .ref h0), (1, .int p0)]) rfl (Nat.le_of_ble_eq_true rfl) (fun Γ hL C hR => ?_)
  subst hL
  unfold fX7_held at hm
  refine V_iload_n C 1 dX7_held_0 rfl rfl ?_
  refine V_if_lt C 22 dX7_held_1 (by decide) (fun c_1 => ?_) (fun c_1 => ?_)
  · have hm := ite_t c_1 hm
    refine V_lconst C (v := (0 : Int64)) dX7_held_22 (by decide) ?_
    cases hm
    exact hR _ _ dX7_held_23
  · have hm := ite_f c_1 hm
    refine V_iload_n C 1 dX7_held_4 rfl rfl ?_
    refine V_aload_n C 0 dX7_held_5 rfl rfl ?_
    refine V_get C uX7_held_X7 0 0 rfl rfl (by decide) mX7_held_1 rfl dX7_held_6 ?_
    refine V_alen C (v := (8 : Int32)) 1 1 rfl rfl rfl rfl dX7_held_9 ?_
    refine V_icmp_ge C 22 dX7_held_10 (by decide) (fun c_2 => ?_) (fun c_2 => ?_)
    · have hm := ite_t c_2 hm
      refine V_aload_n C 0 dX7_held_13 rfl rfl ?_
      refine V_get C uX7_held_X7 0 0 rfl rfl (by decide) mX7_held_1 rfl dX7_held_14 ?_
      refine V_iload_n C 1 dX7_held_17 rfl rfl ?_
      obtain ⟨v_3, hv_3, hm⟩ := bnd hm
      refine V_lald C 1 rfl hv_3 dX7_held_18 ?_
      refine V_goto C 23 dX7_held_19 (by decide) ?_
      cases hm
      exact hR _ _ dX7_held_23
    · have hm := ite_f c_2 hm
      refine V_lconst C (v := (0 : Int64)) dX7_held_22 (by decide) ?_
      cases hm
      exact hR _ _ dX7_held_23
theorem hdX7_held : yX7_held.cls = RX7 ∧ yX7_held.cls ≠ "java/lang/invoke/MethodHandle" ∧ yX7_held.cls ≠ "java/lang/invoke/VarHandle" ∧ (parseMethodDescriptor yX7_held.desc).map (fun d => d.parameters.length) = some 1 := by decide +kernel
-- RodBoard$Working.hold(IJ)V
theorem uX7_hold_X7 : ∀ w ∈ wsX70, w ∈ wsX7_hold := fun _ h => List.mem_cons_of_mem _ (List.mem_append_right _ h)
theorem mX7_hold_1 : Cond.fieldLink RX7 9 "RodBoard$Working" "rows" "[J" ∈ wsX7_hold := List.mem_of_getElem? (i := 1) rfl
def fX7_hold (p0 : Int32) (p1 : Int64) (s_rows : Nat → Int64) : Option ((Nat → Int64)) := if p0 < (0 : Int32) then some s_rows else if p0 < (8 : Int32) then Option.bind (wrJ s_rows 8 p0 p1) (fun g_3 => some g_3) else some s_rows
set_option maxHeartbeats 4000000 in
set_option maxRecDepth 100000 in
theorem kX7_hold {l : Launch} (h0 : Nat) (a_s_rows : Nat) (a_s_course : Nat) (a_s_course_cells : Nat) (a_s_course_notes : Nat) (s_rows : Nat → Int64) (s_course_boards : Int32) (s_course_cells : Nat → Int64) (s_course_notes : Nat → Int32) (p0 : Int32) (p1 : Int64) (o_s_rows : Nat → Int64) (hm : fX7_hold p0 p1 s_rows = some o_s_rows) : CtV l yX7_hold wsX7_hold ({ frames := 0, cells := 0, slots := 0, locals := 0 } : Room) [.ref h0, .int p0, .long p1] [(h0, eO 5 [.ref a_s_rows, .ref a_s_course]), (a_s_rows, eJ 8 s_rows), (a_s_course, eO 3 [.ref a_s_course_cells, .ref a_s_course_notes, .int s_course_boards]), (a_s_course_cells, eJ 392 s_course_cells), (a_s_course_notes, eI 288 s_course_notes)] [(h0, eO 5 [.ref a_s_rows, .ref a_s_course]), (a_s_rows, eJ 8 o_s_rows), (a_s_course, eO 3 [.ref a_s_course_cells, .ref a_s_course_notes, .int s_course_boards]), (a_s_course_cells, eJ 392 s_course_cells), (a_s_course_notes, eI 288 s_course_notes)] := by
  refine CtV_of (cc := cX7_hold) (maxL := 4) (own := RX7) rfl (by decide) rfl (lv0 := [(0, .ref h0), (1, .int p0), (2, .long p1)]) rfl (Nat.le_of_ble_eq_true rfl) (fun Γ hL C hR => ?_)
  subst hL
  unfold fX7_hold at hm
  refine V_iload_n C 1 dX7_hold_0 rfl rfl ?_
  refine V_if_lt C 20 dX7_hold_1 (by decide) (fun c_1 => ?_) (fun c_1 => ?_)
  · have hm := ite_t c_1 hm
    cases hm
    exact hR _ _ dX7_hold_20
  · have hm := ite_f c_1 hm
    refine V_iload_n C 1 dX7_hold_4 rfl rfl ?_
    refine V_aload_n C 0 dX7_hold_5 rfl rfl ?_
    refine V_get C uX7_hold_X7 0 0 rfl rfl (by decide) mX7_hold_1 rfl dX7_hold_6 ?_
    refine V_alen C (v := (8 : Int32)) 1 1 rfl rfl rfl rfl dX7_hold_9 ?_
    refine V_icmp_ge C 20 dX7_hold_10 (by decide) (fun c_2 => ?_) (fun c_2 => ?_)
    · have hm := ite_t c_2 hm
      refine V_aload_n C 0 dX7_hold_13 rfl rfl ?_
      refine V_get C uX7_hold_X7 0 0 rfl rfl (by decide) mX7_hold_1 rfl dX7_hold_14 ?_
      refine V_iload_n C 1 dX7_hold_17 rfl rfl ?_
      refine V_lload_n C 2 dX7_hold_18 rfl rfl ?_
      obtain ⟨g_3, hg_3, hm⟩ := bnd hm
      refine V_last C 1 rfl hg_3 dX7_hold_19 (ws' := [(h0, eO 5 [.ref a_s_rows, .ref a_s_course]), (a_s_rows, eJ 8 g_3), (a_s_course, eO 3 [.ref a_s_course_cells, .ref a_s_course_notes, .int s_course_boards]), (a_s_course_cells, eJ 392 s_course_cells), (a_s_course_notes, eI 288 s_course_notes)]) rfl ?_
      cases hm
      exact hR _ _ dX7_hold_20
    · have hm := ite_f c_2 hm
      cases hm
      exact hR _ _ dX7_hold_20
theorem hdX7_hold : yX7_hold.cls = RX7 ∧ yX7_hold.cls ≠ "java/lang/invoke/MethodHandle" ∧ yX7_hold.cls ≠ "java/lang/invoke/VarHandle" ∧ (parseMethodDescriptor yX7_hold.desc).map (fun d => d.parameters.length) = some 2 := by decide +kernel
-- RodBoard$Working.allSticks()I
theorem uX7_allSticks_X7 : ∀ w ∈ wsX70, w ∈ wsX7_allSticks := fun _ h => List.mem_cons_of_mem _ (List.mem_append_right _ h)
theorem mX7_allSticks_1 : Cond.fieldLink RX7 9 "RodBoard$Working" "rows" "[J" ∈ wsX7_allSticks := List.mem_of_getElem? (i := 1) rfl
def fX7_allSticks_L4b (s_rows : Nat → Int64) (x1 : Int32) (x2 : Int32) : Option (((Int32) × (Int32)) ⊕ ((Int32))) := if x2 < (8 : Int32) then Option.bind (rdJ s_rows 8 x2) (fun v_2 => Option.bind (fX5_allSticks v_2) (fun r_3 => some (Sum.inl (x1 + r_3, x2 + (1 : Int32))))) else some (Sum.inr x1)
def fX7_allSticks_L4 (s_rows : Nat → Int64) : ((Int32) × (Int32)) → Option (((Int32) × (Int32)) ⊕ ((Int32))) := fun e => fX7_allSticks_L4b s_rows e.1 e.2
set_option maxHeartbeats 4000000 in
set_option maxRecDepth 100000 in
theorem bX7_allSticks_L4 {Γ : KT} (C : CX Γ cX7_allSticks 3 wsX7_allSticks RX7 ({ frames := 3, cells := 0, slots := 0, locals := 67 } : Room)) (h0 : Nat) (a_s_rows : Nat) (a_s_course : Nat) (a_s_course_cells : Nat) (a_s_course_notes : Nat) (s_rows : Nat → Int64) (s_course_boards : Int32) (s_course_cells : Nat → Int64) (s_course_notes : Nat → Int32) (x1 : Int32) (x2 : Int32) (x : ((Int32) × (Int32)) ⊕ ((Int32))) (hm : fX7_allSticks_L4b s_rows x1 x2 = some x) (hb : (∀ (x1' : Int32) (x2' : Int32), x = Sum.inl (x1', x2') → V Γ 3 0 0 4 [(0, .ref h0), (1, .int x1'), (2, .int x2')] [] [(h0, eO 5 [.ref a_s_rows, .ref a_s_course]), (a_s_rows, eJ 8 s_rows), (a_s_course, eO 3 [.ref a_s_course_cells, .ref a_s_course_notes, .int s_course_boards]), (a_s_course_cells, eJ 392 s_course_cells), (a_s_course_notes, eI 288 s_course_notes)])) (he0 : (∀ (x1' : Int32), x = Sum.inr x1' → V Γ 3 0 0 31 [(1, .int x1')] [] [(h0, eO 5 [.ref a_s_rows, .ref a_s_course]), (a_s_rows, eJ 8 s_rows), (a_s_course, eO 3 [.ref a_s_course_cells, .ref a_s_course_notes, .int s_course_boards]), (a_s_course_cells, eJ 392 s_course_cells), (a_s_course_notes, eI 288 s_course_notes)])) : V Γ 3 0 0 4 [(0, .ref h0), (1, .int x1), (2, .int x2)] [] [(h0, eO 5 [.ref a_s_rows, .ref a_s_course]), (a_s_rows, eJ 8 s_rows), (a_s_course, eO 3 [.ref a_s_course_cells, .ref a_s_course_notes, .int s_course_boards]), (a_s_course_cells, eJ 392 s_course_cells), (a_s_course_notes, eI 288 s_course_notes)] := by
  unfold fX7_allSticks_L4b at hm
  refine V_iload_n C 2 dX7_allSticks_4 rfl rfl ?_
  refine V_aload_n C 0 dX7_allSticks_5 rfl rfl ?_
  refine V_get C uX7_allSticks_X7 0 0 rfl rfl (by decide) mX7_allSticks_1 rfl dX7_allSticks_6 ?_
  refine V_alen C (v := (8 : Int32)) 1 1 rfl rfl rfl rfl dX7_allSticks_9 ?_
  refine V_icmp_ge C 31 dX7_allSticks_10 (by decide) (fun c_1 => ?_) (fun c_1 => ?_)
  · have hm := ite_t c_1 hm
    refine V_iload_n C 1 dX7_allSticks_13 rfl rfl ?_
    refine V_aload_n C 0 dX7_allSticks_14 rfl rfl ?_
    refine V_get C uX7_allSticks_X7 0 0 rfl rfl (by decide) mX7_allSticks_1 rfl dX7_allSticks_15 ?_
    refine V_iload_n C 2 dX7_allSticks_18 rfl rfl ?_
    obtain ⟨v_2, hv_2, hm⟩ := bnd hm
    refine V_lald C 1 rfl hv_2 dX7_allSticks_19 ?_
    obtain ⟨r_3, hc_4, hm⟩ := bnd hm
    refine V_callSI C (As := [.long v_2]) (wr := [(h0, eO 5 [.ref a_s_rows, .ref a_s_course]), (a_s_rows, eJ 8 s_rows), (a_s_course, eO 3 [.ref a_s_course_cells, .ref a_s_course_notes, .int s_course_boards]), (a_s_course_cells, eJ 392 s_course_cells), (a_s_course_notes, eI 288 s_course_notes)]) (ws2 := [(h0, eO 5 [.ref a_s_rows, .ref a_s_course]), (a_s_rows, eJ 8 s_rows), (a_s_course, eO 3 [.ref a_s_course_cells, .ref a_s_course_notes, .int s_course_boards]), (a_s_course_cells, eJ 392 s_course_cells), (a_s_course_notes, eI 288 s_course_notes)]) (kX5_allSticks v_2 r_3 hc_4) gX7_allSticks_X5_allSticks rfl ⟨rfl, rfl⟩ hdX5_allSticks ⟨Nat.le_of_ble_eq_true rfl, Nat.le_of_ble_eq_true rfl⟩ ⟨Nat.zero_le _, Nat.zero_le _⟩ [] [0, 1, 2, 3, 4] [0, 1, 2, 3, 4] rfl rfl ⟨rfl, rfl, rfl⟩ (by decide) rfl rfl (Nat.le_of_ble_eq_true rfl) dX7_allSticks_20 ?_
    refine V_iadd C dX7_allSticks_23 ?_
    refine V_istore_n C (lv' := [(1, .int (x1 + r_3)), (0, .ref h0), (2, .int x2)]) dX7_allSticks_24 rfl (by decide) rfl ?_
    refine V_iinc C 2 (v := x2 + (1 : Int32)) (lv' := [(2, .int (x2 + (1 : Int32))), (1, .int (x1 + r_3)), (0, .ref h0)]) dX7_allSticks_25 rfl rfl (by decide) rfl ?_
    refine V_goto C 4 dX7_allSticks_28 (by decide) ?_
    refine V_lv [2, 1, 0] rfl ?_
    exact hb (x1 + r_3) (x2 + (1 : Int32)) (Option.some.inj hm).symm
  · have hm := ite_f c_1 hm
    refine V_lv [1] rfl ?_
    exact he0 x1 (Option.some.inj hm).symm
theorem lX7_allSticks_L4 {Γ : KT} (C : CX Γ cX7_allSticks 3 wsX7_allSticks RX7 ({ frames := 3, cells := 0, slots := 0, locals := 67 } : Room)) (h0 : Nat) (a_s_rows : Nat) (a_s_course : Nat) (a_s_course_cells : Nat) (a_s_course_notes : Nat) (s_rows : Nat → Int64) (s_course_boards : Int32) (s_course_cells : Nat → Int64) (s_course_notes : Nat → Int32) (x1 : Int32) (x2 : Int32) (N : Nat) (e : (Int32)) (hN : itr (fX7_allSticks_L4 s_rows) N (x1, x2) = some e) (he0 : (∀ (x1' : Int32), e = x1' → V Γ 3 0 0 31 [(1, .int x1')] [] [(h0, eO 5 [.ref a_s_rows, .ref a_s_course]), (a_s_rows, eJ 8 s_rows), (a_s_course, eO 3 [.ref a_s_course_cells, .ref a_s_course_notes, .int s_course_boards]), (a_s_course_cells, eJ 392 s_course_cells), (a_s_course_notes, eI 288 s_course_notes)])) : V Γ 3 0 0 4 [(0, .ref h0), (1, .int x1), (2, .int x2)] [] [(h0, eO 5 [.ref a_s_rows, .ref a_s_course]), (a_s_rows, eJ 8 s_rows), (a_s_course, eO 3 [.ref a_s_course_cells, .ref a_s_course_notes, .int s_course_boards]), (a_s_course_cells, eJ 392 s_course_cells), (a_s_course_notes, eI 288 s_course_notes)] := by
  induction N generalizing x1 x2 with
  | zero => exact absurd hN (fun h => itr_0 h)
  | succ N ih =>
    obtain ⟨x, hx, hN⟩ := itr_s hN
    refine bX7_allSticks_L4 C h0 a_s_rows a_s_course a_s_course_cells a_s_course_notes s_rows s_course_boards s_course_cells s_course_notes x1 x2 x hx (fun x1' x2' h => ih x1' x2' (by subst h; exact hN)) (fun y0 h => he0 y0 (by subst h; exact (Option.some.inj hN).symm))
def fX7_allSticks (s_rows : Nat → Int64) : Option ((Int32)) := Option.bind (itr (fX7_allSticks_L4 s_rows) KF ((0 : Int32), (0 : Int32))) (fun x1_7 => some x1_7)
set_option maxHeartbeats 4000000 in
set_option maxRecDepth 100000 in
theorem kX7_allSticks {l : Launch} (h0 : Nat) (a_s_rows : Nat) (a_s_course : Nat) (a_s_course_cells : Nat) (a_s_course_notes : Nat) (s_rows : Nat → Int64) (s_course_boards : Int32) (s_course_cells : Nat → Int64) (s_course_notes : Nat → Int32) (r : Int32) (hm : fX7_allSticks s_rows = some r) : CtI l yX7_allSticks wsX7_allSticks ({ frames := 3, cells := 0, slots := 0, locals := 67 } : Room) [.ref h0] [(h0, eO 5 [.ref a_s_rows, .ref a_s_course]), (a_s_rows, eJ 8 s_rows), (a_s_course, eO 3 [.ref a_s_course_cells, .ref a_s_course_notes, .int s_course_boards]), (a_s_course_cells, eJ 392 s_course_cells), (a_s_course_notes, eI 288 s_course_notes)] r [(h0, eO 5 [.ref a_s_rows, .ref a_s_course]), (a_s_rows, eJ 8 s_rows), (a_s_course, eO 3 [.ref a_s_course_cells, .ref a_s_course_notes, .int s_course_boards]), (a_s_course_cells, eJ 392 s_course_cells), (a_s_course_notes, eI 288 s_course_notes)] := by
  refine CtI_of (cc := cX7_allSticks) (maxL := 3) (ty := .int) (own := RX7) rfl (by decide) rfl (lv0 := [(0, .ref h0)]) rfl (Nat.le_of_ble_eq_true rfl) (fun Γ hL C hR => ?_)
  subst hL
  unfold fX7_allSticks at hm
  refine V_iconst C (v := (0 : Int32)) dX7_allSticks_0 (by decide) ?_
  refine V_istore_n C (lv' := [(1, .int (0 : Int32)), (0, .ref h0)]) dX7_allSticks_1 rfl (by decide) rfl ?_
  refine V_iconst C (v := (0 : Int32)) dX7_allSticks_2 (by decide) ?_
  refine V_istore_n C (lv' := [(2, .int (0 : Int32)), (1, .int (0 : Int32)), (0, .ref h0)]) dX7_allSticks_3 rfl (by decide) rfl ?_
  obtain ⟨x1_7, hE_6, hm⟩ := bnd hm
  refine V_lv [2, 1, 0] rfl ?_
  refine lX7_allSticks_L4 C h0 a_s_rows a_s_course a_s_course_cells a_s_course_notes s_rows s_course_boards s_course_cells s_course_notes (0 : Int32) (0 : Int32) KF _ hE_6 ?_
  intro q_8 hq
  cases hq
  refine V_iload_n C 0 dX7_allSticks_31 rfl rfl ?_
  cases hm
  exact hR _ _ rfl dX7_allSticks_32
theorem hdX7_allSticks : yX7_allSticks.cls = RX7 ∧ yX7_allSticks.cls ≠ "java/lang/invoke/MethodHandle" ∧ yX7_allSticks.cls ≠ "java/lang/invoke/VarHandle" ∧ (parseMethodDescriptor yX7_allSticks.desc).map (fun d => d.parameters.length) = some 0 := by decide +kernel
-- RodBoard$Working.latest(I)J
theorem uX7_latest_X7 : ∀ w ∈ wsX70, w ∈ wsX7_latest := fun _ h => List.mem_cons_of_mem _ (List.mem_append_left _ (List.mem_append_right _ h))
theorem mX7_latest_1 : Cond.fieldLink RX7 18 "RodBoard$Working" "course" "LRodBoard$Course;" ∈ wsX7_latest := List.mem_of_getElem? (i := 1) rfl
def fX7_latest (p0 : Int32) (s_course_boards : Int32) (s_course_cells : Nat → Int64) : Option ((Int64)) := Option.bind (fX3_steps s_course_boards) (fun r_1 => Option.bind (fX3_cell r_1 p0 s_course_cells) (fun r_3 => some r_3))
set_option maxHeartbeats 4000000 in
set_option maxRecDepth 100000 in
theorem kX7_latest {l : Launch} (h0 : Nat) (a_s_rows : Nat) (a_s_course : Nat) (a_s_course_cells : Nat) (a_s_course_notes : Nat) (s_rows : Nat → Int64) (s_course_boards : Int32) (s_course_cells : Nat → Int64) (s_course_notes : Nat → Int32) (p0 : Int32) (r : Int64) (hm : fX7_latest p0 s_course_boards s_course_cells = some r) : CtL l yX7_latest wsX7_latest ({ frames := 1, cells := 0, slots := 0, locals := 23 } : Room) [.ref h0, .int p0] [(h0, eO 5 [.ref a_s_rows, .ref a_s_course]), (a_s_rows, eJ 8 s_rows), (a_s_course, eO 3 [.ref a_s_course_cells, .ref a_s_course_notes, .int s_course_boards]), (a_s_course_cells, eJ 392 s_course_cells), (a_s_course_notes, eI 288 s_course_notes)] r [(h0, eO 5 [.ref a_s_rows, .ref a_s_course]), (a_s_rows, eJ 8 s_rows), (a_s_course, eO 3 [.ref a_s_course_cells, .ref a_s_course_notes, .int s_course_boards]), (a_s_course_cells, eJ 392 s_course_cells), (a_s_course_notes, eI 288 s_course_notes)] := by
  refine CtL_of (cc := cX7_latest) (maxL := 2) (own := RX7) rfl (by decide) rfl (lv0 := [(0, .ref h0), (1, .int p0)]) rfl (Nat.le_of_ble_eq_true rfl) (fun Γ hL C hR => ?_)
  subst hL
  unfold fX7_latest at hm
  refine V_aload_n C 0 dX7_latest_0 rfl rfl ?_
  refine V_get C uX7_latest_X7 0 1 rfl rfl (by decide) mX7_latest_1 rfl dX7_latest_1 ?_
  refine V_aload_n C 0 dX7_latest_4 rfl rfl ?_
  refine V_get C uX7_latest_X7 0 1 rfl rfl (by decide) mX7_latest_1 rfl dX7_latest_5 ?_
  obtain ⟨r_1, hc_2, hm⟩ := bnd hm
  refine V_callVI C (As := []) (wr := [(h0, eO 5 [.ref a_s_rows, .ref a_s_course]), (a_s_rows, eJ 8 s_rows)]) (ws2 := [(h0, eO 5 [.ref a_s_rows, .ref a_s_course]), (a_s_rows, eJ 8 s_rows), (a_s_course, eO 3 [.ref a_s_course_cells, .ref a_s_course_notes, .int s_course_boards]), (a_s_course_cells, eJ 392 s_course_cells), (a_s_course_notes, eI 288 s_course_notes)]) (kX3_steps a_s_course a_s_course_cells a_s_course_notes s_course_boards s_course_cells s_course_notes r_1 hc_2) gX7_latest_X3_steps rfl ⟨rfl, rfl⟩ hdX3_steps ⟨Nat.le_of_ble_eq_true rfl, Nat.le_of_ble_eq_true rfl⟩ ⟨Nat.zero_le _, Nat.zero_le _⟩ 0 rfl rfl [2, 3, 4] [0, 1] [0, 1, 2, 3, 4] rfl rfl ⟨rfl, rfl, rfl⟩ (by decide) rfl rfl (Nat.le_of_ble_eq_true rfl) dX7_latest_8 ?_
  refine V_iload_n C 1 dX7_latest_11 rfl rfl ?_
  obtain ⟨r_3, hc_4, hm⟩ := bnd hm
  refine V_callVL C (As := [.int r_1, .int p0]) (wr := [(h0, eO 5 [.ref a_s_rows, .ref a_s_course]), (a_s_rows, eJ 8 s_rows)]) (ws2 := [(h0, eO 5 [.ref a_s_rows, .ref a_s_course]), (a_s_rows, eJ 8 s_rows), (a_s_course, eO 3 [.ref a_s_course_cells, .ref a_s_course_notes, .int s_course_boards]), (a_s_course_cells, eJ 392 s_course_cells), (a_s_course_notes, eI 288 s_course_notes)]) (kX3_cell a_s_course a_s_course_cells a_s_course_notes s_course_boards s_course_cells s_course_notes r_1 p0 r_3 hc_4) gX7_latest_X3_cell rfl ⟨rfl, rfl⟩ hdX3_cell ⟨Nat.le_of_ble_eq_true rfl, Nat.le_of_ble_eq_true rfl⟩ ⟨Nat.zero_le _, Nat.zero_le _⟩ 0 rfl rfl [2, 3, 4] [0, 1] [0, 1, 2, 3, 4] rfl rfl ⟨rfl, rfl, rfl⟩ (by decide) rfl rfl (Nat.le_of_ble_eq_true rfl) dX7_latest_12 ?_
  cases hm
  exact hR _ _ dX7_latest_15
theorem hdX7_latest : yX7_latest.cls = RX7 ∧ yX7_latest.cls ≠ "java/lang/invoke/MethodHandle" ∧ yX7_latest.cls ≠ "java/lang/invoke/VarHandle" ∧ (parseMethodDescriptor yX7_latest.desc).map (fun d => d.parameters.length) = some 1 := by decide +kernel
-- RodBoard$Working.end()I
theorem uX7_end_X7 : ∀ w ∈ wsX70, w ∈ wsX7_end := fun _ h => List.mem_cons_of_mem _ (List.mem_append_left _ (List.mem_append_right _ h))
theorem mX7_end_1 : Cond.fieldLink RX7 9 "RodBoard$Working" "rows" "[J" ∈ wsX7_end := List.mem_of_getElem? (i := 1) rfl
theorem mX7_end_2 : Cond.fieldLink RX7 18 "RodBoard$Working" "course" "LRodBoard$Course;" ∈ wsX7_end := List.mem_of_getElem? (i := 2) rfl
def fX7_end_L2b (s_course_boards : Int32) (s_course_cells : Nat → Int64) (x1 : Int32) (s_rows : Nat → Int64) : Option (((Int32) × (Nat → Int64)) ⊕ ((Nat → Int64))) := if x1 < (8 : Int32) then Option.bind (fX7_latest x1 s_course_boards s_course_cells) (fun r_2 => Option.bind (wrJ s_rows 8 x1 r_2) (fun g_4 => some (Sum.inl (x1 + (1 : Int32), g_4)))) else some (Sum.inr s_rows)
def fX7_end_L2 (s_course_boards : Int32) (s_course_cells : Nat → Int64) : ((Int32) × (Nat → Int64)) → Option (((Int32) × (Nat → Int64)) ⊕ ((Nat → Int64))) := fun e => fX7_end_L2b s_course_boards s_course_cells e.1 e.2
set_option maxHeartbeats 4000000 in
set_option maxRecDepth 100000 in
theorem bX7_end_L2 {Γ : KT} (C : CX Γ cX7_end 2 wsX7_end RX7 ({ frames := 2, cells := 0, slots := 0, locals := 44 } : Room)) (h0 : Nat) (a_s_rows : Nat) (a_s_course : Nat) (a_s_course_cells : Nat) (a_s_course_notes : Nat) (s_course_boards : Int32) (s_course_cells : Nat → Int64) (s_course_notes : Nat → Int32) (x1 : Int32) (s_rows : Nat → Int64) (x : ((Int32) × (Nat → Int64)) ⊕ ((Nat → Int64))) (hm : fX7_end_L2b s_course_boards s_course_cells x1 s_rows = some x) (hb : (∀ (x1' : Int32) (s_rows' : Nat → Int64), x = Sum.inl (x1', s_rows') → V Γ 2 0 0 2 [(0, .ref h0), (1, .int x1')] [] [(h0, eO 5 [.ref a_s_rows, .ref a_s_course]), (a_s_rows, eJ 8 s_rows'), (a_s_course, eO 3 [.ref a_s_course_cells, .ref a_s_course_notes, .int s_course_boards]), (a_s_course_cells, eJ 392 s_course_cells), (a_s_course_notes, eI 288 s_course_notes)])) (he0 : (∀ (s_rows' : Nat → Int64), x = Sum.inr s_rows' → V Γ 2 0 0 28 [(0, .ref h0)] [] [(h0, eO 5 [.ref a_s_rows, .ref a_s_course]), (a_s_rows, eJ 8 s_rows'), (a_s_course, eO 3 [.ref a_s_course_cells, .ref a_s_course_notes, .int s_course_boards]), (a_s_course_cells, eJ 392 s_course_cells), (a_s_course_notes, eI 288 s_course_notes)])) : V Γ 2 0 0 2 [(0, .ref h0), (1, .int x1)] [] [(h0, eO 5 [.ref a_s_rows, .ref a_s_course]), (a_s_rows, eJ 8 s_rows), (a_s_course, eO 3 [.ref a_s_course_cells, .ref a_s_course_notes, .int s_course_boards]), (a_s_course_cells, eJ 392 s_course_cells), (a_s_course_notes, eI 288 s_course_notes)] := by
  unfold fX7_end_L2b at hm
  refine V_iload_n C 1 dX7_end_2 rfl rfl ?_
  refine V_aload_n C 0 dX7_end_3 rfl rfl ?_
  refine V_get C uX7_end_X7 0 0 rfl rfl (by decide) mX7_end_1 rfl dX7_end_4 ?_
  refine V_alen C (v := (8 : Int32)) 1 1 rfl rfl rfl rfl dX7_end_7 ?_
  refine V_icmp_ge C 28 dX7_end_8 (by decide) (fun c_1 => ?_) (fun c_1 => ?_)
  · have hm := ite_t c_1 hm
    refine V_aload_n C 0 dX7_end_11 rfl rfl ?_
    refine V_get C uX7_end_X7 0 0 rfl rfl (by decide) mX7_end_1 rfl dX7_end_12 ?_
    refine V_iload_n C 1 dX7_end_15 rfl rfl ?_
    refine V_aload_n C 0 dX7_end_16 rfl rfl ?_
    refine V_iload_n C 1 dX7_end_17 rfl rfl ?_
    obtain ⟨r_2, hc_3, hm⟩ := bnd hm
    refine V_callVL C (As := [.int x1]) (wr := []) (ws2 := [(h0, eO 5 [.ref a_s_rows, .ref a_s_course]), (a_s_rows, eJ 8 s_rows), (a_s_course, eO 3 [.ref a_s_course_cells, .ref a_s_course_notes, .int s_course_boards]), (a_s_course_cells, eJ 392 s_course_cells), (a_s_course_notes, eI 288 s_course_notes)]) (kX7_latest h0 a_s_rows a_s_course a_s_course_cells a_s_course_notes s_rows s_course_boards s_course_cells s_course_notes x1 r_2 hc_3) gX7_end_X7_latest rfl ⟨rfl, rfl⟩ hdX7_latest ⟨Nat.le_of_ble_eq_true rfl, Nat.le_of_ble_eq_true rfl⟩ ⟨Nat.zero_le _, Nat.zero_le _⟩ 0 rfl rfl [0, 1, 2, 3, 4] [] [0, 1, 2, 3, 4] rfl rfl ⟨rfl, rfl, rfl⟩ (by decide) rfl rfl (Nat.le_of_ble_eq_true rfl) dX7_end_18 ?_
    obtain ⟨g_4, hg_4, hm⟩ := bnd hm
    refine V_last C 1 rfl hg_4 dX7_end_21 (ws' := [(h0, eO 5 [.ref a_s_rows, .ref a_s_course]), (a_s_rows, eJ 8 g_4), (a_s_course, eO 3 [.ref a_s_course_cells, .ref a_s_course_notes, .int s_course_boards]), (a_s_course_cells, eJ 392 s_course_cells), (a_s_course_notes, eI 288 s_course_notes)]) rfl ?_
    refine V_iinc C 1 (v := x1 + (1 : Int32)) (lv' := [(1, .int (x1 + (1 : Int32))), (0, .ref h0)]) dX7_end_22 rfl rfl (by decide) rfl ?_
    refine V_goto C 2 dX7_end_25 (by decide) ?_
    refine V_lv [1, 0] rfl ?_
    exact hb (x1 + (1 : Int32)) g_4 (Option.some.inj hm).symm
  · have hm := ite_f c_1 hm
    refine V_lv [0] rfl ?_
    exact he0 s_rows (Option.some.inj hm).symm
theorem lX7_end_L2 {Γ : KT} (C : CX Γ cX7_end 2 wsX7_end RX7 ({ frames := 2, cells := 0, slots := 0, locals := 44 } : Room)) (h0 : Nat) (a_s_rows : Nat) (a_s_course : Nat) (a_s_course_cells : Nat) (a_s_course_notes : Nat) (s_course_boards : Int32) (s_course_cells : Nat → Int64) (s_course_notes : Nat → Int32) (x1 : Int32) (s_rows : Nat → Int64) (N : Nat) (e : (Nat → Int64)) (hN : itr (fX7_end_L2 s_course_boards s_course_cells) N (x1, s_rows) = some e) (he0 : (∀ (s_rows' : Nat → Int64), e = s_rows' → V Γ 2 0 0 28 [(0, .ref h0)] [] [(h0, eO 5 [.ref a_s_rows, .ref a_s_course]), (a_s_rows, eJ 8 s_rows'), (a_s_course, eO 3 [.ref a_s_course_cells, .ref a_s_course_notes, .int s_course_boards]), (a_s_course_cells, eJ 392 s_course_cells), (a_s_course_notes, eI 288 s_course_notes)])) : V Γ 2 0 0 2 [(0, .ref h0), (1, .int x1)] [] [(h0, eO 5 [.ref a_s_rows, .ref a_s_course]), (a_s_rows, eJ 8 s_rows), (a_s_course, eO 3 [.ref a_s_course_cells, .ref a_s_course_notes, .int s_course_boards]), (a_s_course_cells, eJ 392 s_course_cells), (a_s_course_notes, eI 288 s_course_notes)] := by
  induction N generalizing x1 s_rows with
  | zero => exact absurd hN (fun h => itr_0 h)
  | succ N ih =>
    obtain ⟨x, hx, hN⟩ := itr_s hN
    refine bX7_end_L2 C h0 a_s_rows a_s_course a_s_course_cells a_s_course_notes s_course_boards s_course_cells s_course_notes x1 s_rows x hx (fun x1' s_rows' h => ih x1' s_rows' (by subst h; exact hN)) (fun y0 h => he0 y0 (by subst h; exact (Option.some.inj hN).symm))
def fX7_end (s_rows : Nat → Int64) (s_course_boards : Int32) (s_course_cells : Nat → Int64) : Option ((Int32) × (Nat → Int64)) := Option.bind (itr (fX7_end_L2 s_course_boards s_course_cells) KF ((0 : Int32), s_rows)) (fun u_7 => Option.bind (fX3_steps s_course_boards) (fun r_8 => some (r_8, u_7)))
set_option maxHeartbeats 4000000 in
set_option maxRecDepth 100000 in
theorem kX7_end {l : Launch} (h0 : Nat) (a_s_rows : Nat) (a_s_course : Nat) (a_s_course_cells : Nat) (a_s_course_notes : Nat) (s_rows : Nat → Int64) (s_course_boards : Int32) (s_course_cells : Nat → Int64) (s_course_notes : Nat → Int32) (r : Int32) (o_s_rows : Nat → Int64) (hm : fX7_end s_rows s_course_boards s_course_cells = some (r, o_s_rows)) : CtI l yX7_end wsX7_end ({ frames := 2, cells := 0, slots := 0, locals := 44 } : Room) [.ref h0] [(h0, eO 5 [.ref a_s_rows, .ref a_s_course]), (a_s_rows, eJ 8 s_rows), (a_s_course, eO 3 [.ref a_s_course_cells, .ref a_s_course_notes, .int s_course_boards]), (a_s_course_cells, eJ 392 s_course_cells), (a_s_course_notes, eI 288 s_course_notes)] r [(h0, eO 5 [.ref a_s_rows, .ref a_s_course]), (a_s_rows, eJ 8 o_s_rows), (a_s_course, eO 3 [.ref a_s_course_cells, .ref a_s_course_notes, .int s_course_boards]), (a_s_course_cells, eJ 392 s_course_cells), (a_s_course_notes, eI 288 s_course_notes)] := by
  refine CtI_of (cc := cX7_end) (maxL := 2) (ty := .int) (own := RX7) rfl (by decide) rfl (lv0 := [(0, .ref h0)]) rfl (Nat.le_of_ble_eq_true rfl) (fun Γ hL C hR => ?_)
  subst hL
  unfold fX7_end at hm
  refine V_iconst C (v := (0 : Int32)) dX7_end_0 (by decide) ?_
  refine V_istore_n C (lv' := [(1, .int (0 : Int32)), (0, .ref h0)]) dX7_end_1 rfl (by decide) rfl ?_
  obtain ⟨u_7, hE_6, hm⟩ := bnd hm
  refine V_lv [1, 0] rfl ?_
  refine lX7_end_L2 C h0 a_s_rows a_s_course a_s_course_cells a_s_course_notes s_course_boards s_course_cells s_course_notes (0 : Int32) s_rows KF _ hE_6 ?_
  intro q_10 hq
  cases hq
  refine V_aload_n C 0 dX7_end_28 rfl rfl ?_
  refine V_get C uX7_end_X7 0 1 rfl rfl (by decide) mX7_end_2 rfl dX7_end_29 ?_
  obtain ⟨r_8, hc_9, hm⟩ := bnd hm
  refine V_callVI C (As := []) (wr := [(h0, eO 5 [.ref a_s_rows, .ref a_s_course]), (a_s_rows, eJ 8 u_7)]) (ws2 := [(h0, eO 5 [.ref a_s_rows, .ref a_s_course]), (a_s_rows, eJ 8 u_7), (a_s_course, eO 3 [.ref a_s_course_cells, .ref a_s_course_notes, .int s_course_boards]), (a_s_course_cells, eJ 392 s_course_cells), (a_s_course_notes, eI 288 s_course_notes)]) (kX3_steps a_s_course a_s_course_cells a_s_course_notes s_course_boards s_course_cells s_course_notes r_8 hc_9) gX7_end_X3_steps rfl ⟨rfl, rfl⟩ hdX3_steps ⟨Nat.le_of_ble_eq_true rfl, Nat.le_of_ble_eq_true rfl⟩ ⟨Nat.zero_le _, Nat.zero_le _⟩ 0 rfl rfl [2, 3, 4] [0, 1] [0, 1, 2, 3, 4] rfl rfl ⟨rfl, rfl, rfl⟩ (by decide) rfl rfl (Nat.le_of_ble_eq_true rfl) dX7_end_32 ?_
  cases hm
  exact hR _ _ rfl dX7_end_35
theorem hdX7_end : yX7_end.cls = RX7 ∧ yX7_end.cls ≠ "java/lang/invoke/MethodHandle" ∧ yX7_end.cls ≠ "java/lang/invoke/VarHandle" ∧ (parseMethodDescriptor yX7_end.desc).map (fun d => d.parameters.length) = some 0 := by decide +kernel
-- RodBoard$Working.addRows(II)I
theorem uX7_addRows_X7 : ∀ w ∈ wsX70, w ∈ wsX7_addRows := fun _ h => List.mem_cons_of_mem _ (List.mem_append_left _ (List.mem_append_right _ h))
theorem mX7_addRows_1 : Cond.fieldLink RX7 18 "RodBoard$Working" "course" "LRodBoard$Course;" ∈ wsX7_addRows := List.mem_of_getElem? (i := 1) rfl
theorem mX7_addRows_2 : Cond.fieldLink RX7 9 "RodBoard$Working" "rows" "[J" ∈ wsX7_addRows := List.mem_of_getElem? (i := 2) rfl
def fX7_addRows_L21b (x1 : Int32) (x2 : Int32) (x3 : Int64) (x5 : Int32) (s_course_boards : Int32) (s_course_cells : Nat → Int64) (s_course_notes : Nat → Int32) : Option (((Int32) × (Int32) × (Nat → Int64) × (Nat → Int32)) ⊕ ((Int32) × (Nat → Int64) × (Nat → Int32))) := if x5 < (0 : Int32) then some (Sum.inr (s_course_boards, s_course_cells, s_course_notes)) else Option.bind (fX5_digit x3 x5) (fun r_7 => if r_7 = (0 : Int32) then some (Sum.inl (x5 + (-1 : Int32), s_course_boards, s_course_cells, s_course_notes)) else if x3 < (0 : Int64) then bn3 (fX3_go (0 : Int32) x1 x5 (-r_7) x2 (-6 : Int32) s_course_boards s_course_cells s_course_notes) (fun w_11 w_12 w_13 => some (Sum.inl (x5 + (-1 : Int32), w_11, w_12, w_13))) else bn3 (fX3_go (0 : Int32) x1 x5 r_7 x2 (-6 : Int32) s_course_boards s_course_cells s_course_notes) (fun w_15 w_16 w_17 => some (Sum.inl (x5 + (-1 : Int32), w_15, w_16, w_17))))
def fX7_addRows_L21 (x1 : Int32) (x2 : Int32) (x3 : Int64) : ((Int32) × (Int32) × (Nat → Int64) × (Nat → Int32)) → Option (((Int32) × (Int32) × (Nat → Int64) × (Nat → Int32)) ⊕ ((Int32) × (Nat → Int64) × (Nat → Int32))) := fun e => fX7_addRows_L21b x1 x2 x3 e.1 e.2.1 e.2.2.1 e.2.2.2
set_option maxHeartbeats 4000000 in
set_option maxRecDepth 100000 in
theorem bX7_addRows_L21 {Γ : KT} (C : CX Γ cX7_addRows 7 wsX7_addRows RX7 ({ frames := 5, cells := 0, slots := 0, locals := 126 } : Room)) (h0 : Nat) (a_s_rows : Nat) (a_s_course : Nat) (a_s_course_cells : Nat) (a_s_course_notes : Nat) (x1 : Int32) (x2 : Int32) (x3 : Int64) (s_rows : Nat → Int64) (x5 : Int32) (s_course_boards : Int32) (s_course_cells : Nat → Int64) (s_course_notes : Nat → Int32) (x : ((Int32) × (Int32) × (Nat → Int64) × (Nat → Int32)) ⊕ ((Int32) × (Nat → Int64) × (Nat → Int32))) (hm : fX7_addRows_L21b x1 x2 x3 x5 s_course_boards s_course_cells s_course_notes = some x) (hb : (∀ (x5' : Int32) (s_course_boards' : Int32) (s_course_cells' : Nat → Int64) (s_course_notes' : Nat → Int32), x = Sum.inl (x5', s_course_boards', s_course_cells', s_course_notes') → V Γ 7 0 0 21 [(0, .ref h0), (1, .int x1), (2, .int x2), (3, .long x3), (5, .int x5')] [] [(h0, eO 5 [.ref a_s_rows, .ref a_s_course]), (a_s_rows, eJ 8 s_rows), (a_s_course, eO 3 [.ref a_s_course_cells, .ref a_s_course_notes, .int s_course_boards']), (a_s_course_cells, eJ 392 s_course_cells'), (a_s_course_notes, eI 288 s_course_notes')])) (he0 : (∀ (s_course_boards' : Int32) (s_course_cells' : Nat → Int64) (s_course_notes' : Nat → Int32), x = Sum.inr (s_course_boards', s_course_cells', s_course_notes') → V Γ 7 0 0 73 [(0, .ref h0)] [] [(h0, eO 5 [.ref a_s_rows, .ref a_s_course]), (a_s_rows, eJ 8 s_rows), (a_s_course, eO 3 [.ref a_s_course_cells, .ref a_s_course_notes, .int s_course_boards']), (a_s_course_cells, eJ 392 s_course_cells'), (a_s_course_notes, eI 288 s_course_notes')])) : V Γ 7 0 0 21 [(0, .ref h0), (1, .int x1), (2, .int x2), (3, .long x3), (5, .int x5)] [] [(h0, eO 5 [.ref a_s_rows, .ref a_s_course]), (a_s_rows, eJ 8 s_rows), (a_s_course, eO 3 [.ref a_s_course_cells, .ref a_s_course_notes, .int s_course_boards]), (a_s_course_cells, eJ 392 s_course_cells), (a_s_course_notes, eI 288 s_course_notes)] := by
  unfold fX7_addRows_L21b at hm
  refine V_iload C 4 dX7_addRows_21 rfl ?_
  refine V_if_lt C 73 dX7_addRows_23 (by decide) (fun c_6 => ?_) (fun c_6 => ?_)
  · have hm := ite_t c_6 hm
    refine V_lv [0] rfl ?_
    exact he0 s_course_boards s_course_cells s_course_notes (Option.some.inj hm).symm
  · have hm := ite_f c_6 hm
    refine V_lload_n C 3 dX7_addRows_26 rfl rfl ?_
    refine V_iload C 4 dX7_addRows_27 rfl ?_
    obtain ⟨r_7, hc_8, hm⟩ := bnd hm
    refine V_callSI C (As := [.long x3, .int x5]) (wr := [(h0, eO 5 [.ref a_s_rows, .ref a_s_course]), (a_s_rows, eJ 8 s_rows), (a_s_course, eO 3 [.ref a_s_course_cells, .ref a_s_course_notes, .int s_course_boards]), (a_s_course_cells, eJ 392 s_course_cells), (a_s_course_notes, eI 288 s_course_notes)]) (ws2 := [(h0, eO 5 [.ref a_s_rows, .ref a_s_course]), (a_s_rows, eJ 8 s_rows), (a_s_course, eO 3 [.ref a_s_course_cells, .ref a_s_course_notes, .int s_course_boards]), (a_s_course_cells, eJ 392 s_course_cells), (a_s_course_notes, eI 288 s_course_notes)]) (kX5_digit x3 x5 r_7 hc_8) gX7_addRows_X5_digit rfl ⟨rfl, rfl⟩ hdX5_digit ⟨Nat.le_of_ble_eq_true rfl, Nat.le_of_ble_eq_true rfl⟩ ⟨Nat.zero_le _, Nat.zero_le _⟩ [] [0, 1, 2, 3, 4] [0, 1, 2, 3, 4] rfl rfl ⟨rfl, rfl, rfl⟩ (by decide) rfl rfl (Nat.le_of_ble_eq_true rfl) dX7_addRows_29 ?_
    refine V_istore C (lv' := [(6, .int r_7), (0, .ref h0), (1, .int x1), (2, .int x2), (3, .long x3), (5, .int x5)]) dX7_addRows_32 (by decide) rfl ?_
    refine V_iload C 0 dX7_addRows_34 rfl ?_
    refine V_if_eq C 67 dX7_addRows_36 (by decide) (fun c_9 => ?_) (fun c_9 => ?_)
    · have hm := ite_t c_9 hm
      refine V_iinc C 5 (v := x5 + (-1 : Int32)) (lv' := [(5, .int (x5 + (-1 : Int32))), (6, .int r_7), (0, .ref h0), (1, .int x1), (2, .int x2), (3, .long x3)]) dX7_addRows_67 rfl rfl (by decide) rfl ?_
      refine V_goto C 21 dX7_addRows_70 (by decide) ?_
      refine V_lv [2, 3, 4, 5, 0] rfl ?_
      exact hb (x5 + (-1 : Int32)) s_course_boards s_course_cells s_course_notes (Option.some.inj hm).symm
    · have hm := ite_f c_9 hm
      refine V_aload_n C 1 dX7_addRows_39 rfl rfl ?_
      refine V_get C uX7_addRows_X7 0 1 rfl rfl (by decide) mX7_addRows_1 rfl dX7_addRows_40 ?_
      refine V_iconst C (v := (0 : Int32)) dX7_addRows_43 (by decide) ?_
      refine V_iload_n C 2 dX7_addRows_44 rfl rfl ?_
      refine V_iload C 5 dX7_addRows_45 rfl ?_
      refine V_lload_n C 4 dX7_addRows_47 rfl rfl ?_
      refine V_lconst C (v := (0 : Int64)) dX7_addRows_48 (by decide) ?_
      refine V_lcmp_ge C 59 dX7_addRows_49 dX7_addRows_50 (by decide) (fun c_10 => ?_) (fun c_10 => ?_)
      · have hm := ite_t c_10 hm
        refine V_iload C 0 dX7_addRows_53 rfl ?_
        refine V_ineg C dX7_addRows_55 ?_
        refine V_goto C 61 dX7_addRows_56 (by decide) ?_
        refine V_iload_n C 3 dX7_addRows_61 rfl rfl ?_
        refine V_bipush C (v := (-6 : Int32)) dX7_addRows_62 (by decide) ?_
        obtain ⟨w_11, w_12, w_13, hc_14, hm⟩ := bd3 hm
        refine V_callVV C (As := [.int (0 : Int32), .int x1, .int x5, .int (-r_7), .int x2, .int (-6 : Int32)]) (wr := [(h0, eO 5 [.ref a_s_rows, .ref a_s_course]), (a_s_rows, eJ 8 s_rows)]) (ws2 := [(h0, eO 5 [.ref a_s_rows, .ref a_s_course]), (a_s_rows, eJ 8 s_rows), (a_s_course, eO 3 [.ref a_s_course_cells, .ref a_s_course_notes, .int w_11]), (a_s_course_cells, eJ 392 w_12), (a_s_course_notes, eI 288 w_13)]) (kX3_go a_s_course a_s_course_cells a_s_course_notes s_course_boards s_course_cells s_course_notes (0 : Int32) x1 x5 (-r_7) x2 (-6 : Int32) w_11 w_12 w_13 hc_14) gX7_addRows_X3_go rfl ⟨rfl, rfl⟩ hdX3_go ⟨Nat.le_of_ble_eq_true rfl, Nat.le_of_ble_eq_true rfl⟩ ⟨Nat.zero_le _, Nat.zero_le _⟩ 0 rfl rfl [2, 3, 4] [0, 1] [0, 1, 2, 3, 4] rfl rfl ⟨rfl, rfl, rfl⟩ (by decide) rfl rfl (Nat.le_of_ble_eq_true rfl) dX7_addRows_64 ?_
        refine V_iinc C 5 (v := x5 + (-1 : Int32)) (lv' := [(5, .int (x5 + (-1 : Int32))), (6, .int r_7), (0, .ref h0), (1, .int x1), (2, .int x2), (3, .long x3)]) dX7_addRows_67 rfl rfl (by decide) rfl ?_
        refine V_goto C 21 dX7_addRows_70 (by decide) ?_
        refine V_lv [2, 3, 4, 5, 0] rfl ?_
        exact hb (x5 + (-1 : Int32)) w_11 w_12 w_13 (Option.some.inj hm).symm
      · have hm := ite_f c_10 hm
        refine V_iload C 0 dX7_addRows_59 rfl ?_
        refine V_iload_n C 3 dX7_addRows_61 rfl rfl ?_
        refine V_bipush C (v := (-6 : Int32)) dX7_addRows_62 (by decide) ?_
        obtain ⟨w_15, w_16, w_17, hc_18, hm⟩ := bd3 hm
        refine V_callVV C (As := [.int (0 : Int32), .int x1, .int x5, .int r_7, .int x2, .int (-6 : Int32)]) (wr := [(h0, eO 5 [.ref a_s_rows, .ref a_s_course]), (a_s_rows, eJ 8 s_rows)]) (ws2 := [(h0, eO 5 [.ref a_s_rows, .ref a_s_course]), (a_s_rows, eJ 8 s_rows), (a_s_course, eO 3 [.ref a_s_course_cells, .ref a_s_course_notes, .int w_15]), (a_s_course_cells, eJ 392 w_16), (a_s_course_notes, eI 288 w_17)]) (kX3_go a_s_course a_s_course_cells a_s_course_notes s_course_boards s_course_cells s_course_notes (0 : Int32) x1 x5 r_7 x2 (-6 : Int32) w_15 w_16 w_17 hc_18) gX7_addRows_X3_go rfl ⟨rfl, rfl⟩ hdX3_go ⟨Nat.le_of_ble_eq_true rfl, Nat.le_of_ble_eq_true rfl⟩ ⟨Nat.zero_le _, Nat.zero_le _⟩ 0 rfl rfl [2, 3, 4] [0, 1] [0, 1, 2, 3, 4] rfl rfl ⟨rfl, rfl, rfl⟩ (by decide) rfl rfl (Nat.le_of_ble_eq_true rfl) dX7_addRows_64 ?_
        refine V_iinc C 5 (v := x5 + (-1 : Int32)) (lv' := [(5, .int (x5 + (-1 : Int32))), (6, .int r_7), (0, .ref h0), (1, .int x1), (2, .int x2), (3, .long x3)]) dX7_addRows_67 rfl rfl (by decide) rfl ?_
        refine V_goto C 21 dX7_addRows_70 (by decide) ?_
        refine V_lv [2, 3, 4, 5, 0] rfl ?_
        exact hb (x5 + (-1 : Int32)) w_15 w_16 w_17 (Option.some.inj hm).symm
theorem lX7_addRows_L21 {Γ : KT} (C : CX Γ cX7_addRows 7 wsX7_addRows RX7 ({ frames := 5, cells := 0, slots := 0, locals := 126 } : Room)) (h0 : Nat) (a_s_rows : Nat) (a_s_course : Nat) (a_s_course_cells : Nat) (a_s_course_notes : Nat) (x1 : Int32) (x2 : Int32) (x3 : Int64) (s_rows : Nat → Int64) (x5 : Int32) (s_course_boards : Int32) (s_course_cells : Nat → Int64) (s_course_notes : Nat → Int32) (N : Nat) (e : (Int32) × (Nat → Int64) × (Nat → Int32)) (hN : itr (fX7_addRows_L21 x1 x2 x3) N (x5, s_course_boards, s_course_cells, s_course_notes) = some e) (he0 : (∀ (s_course_boards' : Int32) (s_course_cells' : Nat → Int64) (s_course_notes' : Nat → Int32), e = (s_course_boards', s_course_cells', s_course_notes') → V Γ 7 0 0 73 [(0, .ref h0)] [] [(h0, eO 5 [.ref a_s_rows, .ref a_s_course]), (a_s_rows, eJ 8 s_rows), (a_s_course, eO 3 [.ref a_s_course_cells, .ref a_s_course_notes, .int s_course_boards']), (a_s_course_cells, eJ 392 s_course_cells'), (a_s_course_notes, eI 288 s_course_notes')])) : V Γ 7 0 0 21 [(0, .ref h0), (1, .int x1), (2, .int x2), (3, .long x3), (5, .int x5)] [] [(h0, eO 5 [.ref a_s_rows, .ref a_s_course]), (a_s_rows, eJ 8 s_rows), (a_s_course, eO 3 [.ref a_s_course_cells, .ref a_s_course_notes, .int s_course_boards]), (a_s_course_cells, eJ 392 s_course_cells), (a_s_course_notes, eI 288 s_course_notes)] := by
  induction N generalizing x5 s_course_boards s_course_cells s_course_notes with
  | zero => exact absurd hN (fun h => itr_0 h)
  | succ N ih =>
    obtain ⟨x, hx, hN⟩ := itr_s hN
    refine bX7_addRows_L21 C h0 a_s_rows a_s_course a_s_course_cells a_s_course_notes x1 x2 x3 s_rows x5 s_course_boards s_course_cells s_course_notes x hx (fun x5' s_course_boards' s_course_cells' s_course_notes' h => ih x5' s_course_boards' s_course_cells' s_course_notes' (by subst h; exact hN)) (fun y0 y1 y2 h => he0 y0 y1 y2 (by subst h; exact (Option.some.inj hN).symm))
def fX7_addRows (p0 : Int32) (p1 : Int32) (s_rows : Nat → Int64) (s_course_boards : Int32) (s_course_cells : Nat → Int64) (s_course_notes : Nat → Int32) : Option ((Int32) × (Nat → Int64) × (Int32) × (Nat → Int64) × (Nat → Int32)) := bn2 (fX3_begin s_course_boards s_course_cells s_rows) (fun w_1 w_2 => Option.bind (fX7_held p1 s_rows) (fun r_4 => bn3 (itr (fX7_addRows_L21 p0 p1 r_4) KF ((11 : Int32), w_1, w_2, s_course_notes)) (fun u_21 u_22 u_23 => bn2 (fX7_end s_rows u_21 u_22) (fun r_24 w_25 => some (r_24, w_25, u_21, u_22, u_23)))))
set_option maxHeartbeats 4000000 in
set_option maxRecDepth 100000 in
theorem kX7_addRows {l : Launch} (h0 : Nat) (a_s_rows : Nat) (a_s_course : Nat) (a_s_course_cells : Nat) (a_s_course_notes : Nat) (s_rows : Nat → Int64) (s_course_boards : Int32) (s_course_cells : Nat → Int64) (s_course_notes : Nat → Int32) (p0 : Int32) (p1 : Int32) (r : Int32) (o_s_rows : Nat → Int64) (o_s_course_boards : Int32) (o_s_course_cells : Nat → Int64) (o_s_course_notes : Nat → Int32) (hm : fX7_addRows p0 p1 s_rows s_course_boards s_course_cells s_course_notes = some (r, o_s_rows, o_s_course_boards, o_s_course_cells, o_s_course_notes)) : CtI l yX7_addRows wsX7_addRows ({ frames := 5, cells := 0, slots := 0, locals := 126 } : Room) [.ref h0, .int p0, .int p1] [(h0, eO 5 [.ref a_s_rows, .ref a_s_course]), (a_s_rows, eJ 8 s_rows), (a_s_course, eO 3 [.ref a_s_course_cells, .ref a_s_course_notes, .int s_course_boards]), (a_s_course_cells, eJ 392 s_course_cells), (a_s_course_notes, eI 288 s_course_notes)] r [(h0, eO 5 [.ref a_s_rows, .ref a_s_course]), (a_s_rows, eJ 8 o_s_rows), (a_s_course, eO 3 [.ref a_s_course_cells, .ref a_s_course_notes, .int o_s_course_boards]), (a_s_course_cells, eJ 392 o_s_course_cells), (a_s_course_notes, eI 288 o_s_course_notes)] := by
  refine CtI_of (cc := cX7_addRows) (maxL := 7) (ty := .int) (own := RX7) rfl (by decide) rfl (lv0 := [(0, .ref h0), (1, .int p0), (2, .int p1)]) rfl (Nat.le_of_ble_eq_true rfl) (fun Γ hL C hR => ?_)
  subst hL
  unfold fX7_addRows at hm
  refine V_aload_n C 0 dX7_addRows_0 rfl rfl ?_
  refine V_get C uX7_addRows_X7 0 1 rfl rfl (by decide) mX7_addRows_1 rfl dX7_addRows_1 ?_
  refine V_aload_n C 0 dX7_addRows_4 rfl rfl ?_
  refine V_get C uX7_addRows_X7 0 0 rfl rfl (by decide) mX7_addRows_2 rfl dX7_addRows_5 ?_
  obtain ⟨w_1, w_2, hc_3, hm⟩ := bd2 hm
  refine V_callVV C (As := [.ref a_s_rows]) (wr := [(h0, eO 5 [.ref a_s_rows, .ref a_s_course])]) (ws2 := [(h0, eO 5 [.ref a_s_rows, .ref a_s_course]), (a_s_rows, eJ 8 s_rows), (a_s_course, eO 3 [.ref a_s_course_cells, .ref a_s_course_notes, .int w_1]), (a_s_course_cells, eJ 392 w_2), (a_s_course_notes, eI 288 s_course_notes)]) (kX3_begin a_s_course a_s_course_cells a_s_course_notes a_s_rows s_course_boards s_course_cells s_course_notes s_rows w_1 w_2 hc_3) gX7_addRows_X3_begin rfl ⟨rfl, rfl⟩ hdX3_begin ⟨Nat.le_of_ble_eq_true rfl, Nat.le_of_ble_eq_true rfl⟩ ⟨Nat.zero_le _, Nat.zero_le _⟩ 0 rfl rfl [2, 3, 4, 1] [0] [0, 4, 1, 2, 3] rfl rfl ⟨rfl, rfl, rfl⟩ (by decide) rfl rfl (Nat.le_of_ble_eq_true rfl) dX7_addRows_8 ?_
  refine V_aload_n C 0 dX7_addRows_11 rfl rfl ?_
  refine V_iload_n C 2 dX7_addRows_12 rfl rfl ?_
  obtain ⟨r_4, hc_5, hm⟩ := bnd hm
  refine V_callVL C (As := [.int p1]) (wr := []) (ws2 := [(h0, eO 5 [.ref a_s_rows, .ref a_s_course]), (a_s_rows, eJ 8 s_rows), (a_s_course, eO 3 [.ref a_s_course_cells, .ref a_s_course_notes, .int w_1]), (a_s_course_cells, eJ 392 w_2), (a_s_course_notes, eI 288 s_course_notes)]) (kX7_held h0 a_s_rows a_s_course a_s_course_cells a_s_course_notes s_rows w_1 w_2 s_course_notes p1 r_4 hc_5) gX7_addRows_X7_held rfl ⟨rfl, rfl⟩ hdX7_held ⟨Nat.le_of_ble_eq_true rfl, Nat.le_of_ble_eq_true rfl⟩ ⟨Nat.zero_le _, Nat.zero_le _⟩ 0 rfl rfl [0, 1, 2, 3, 4] [] [0, 1, 2, 3, 4] rfl rfl ⟨rfl, rfl, rfl⟩ (by decide) rfl rfl (Nat.le_of_ble_eq_true rfl) dX7_addRows_13 ?_
  refine V_lstore_n C (lv' := [(3, .long r_4), (0, .ref h0), (1, .int p0), (2, .int p1)]) dX7_addRows_16 rfl (by decide) rfl ?_
  refine V_bipush C (v := (11 : Int32)) dX7_addRows_17 (by decide) ?_
  refine V_istore C (lv' := [(5, .int (11 : Int32)), (3, .long r_4), (0, .ref h0), (1, .int p0), (2, .int p1)]) dX7_addRows_19 (by decide) rfl ?_
  obtain ⟨u_21, u_22, u_23, hE_20, hm⟩ := bd3 hm
  refine V_lv [2, 3, 4, 1, 0] rfl ?_
  refine lX7_addRows_L21 C h0 a_s_rows a_s_course a_s_course_cells a_s_course_notes p0 p1 r_4 s_rows (11 : Int32) w_1 w_2 s_course_notes KF _ hE_20 ?_
  intro q_27 q_28 q_29 hq
  cases hq
  refine V_aload_n C 0 dX7_addRows_73 rfl rfl ?_
  obtain ⟨r_24, w_25, hc_26, hm⟩ := bd2 hm
  refine V_callVI C (As := []) (wr := []) (ws2 := [(h0, eO 5 [.ref a_s_rows, .ref a_s_course]), (a_s_rows, eJ 8 w_25), (a_s_course, eO 3 [.ref a_s_course_cells, .ref a_s_course_notes, .int u_21]), (a_s_course_cells, eJ 392 u_22), (a_s_course_notes, eI 288 u_23)]) (kX7_end h0 a_s_rows a_s_course a_s_course_cells a_s_course_notes s_rows u_21 u_22 u_23 r_24 w_25 hc_26) gX7_addRows_X7_end rfl ⟨rfl, rfl⟩ hdX7_end ⟨Nat.le_of_ble_eq_true rfl, Nat.le_of_ble_eq_true rfl⟩ ⟨Nat.zero_le _, Nat.zero_le _⟩ 0 rfl rfl [0, 1, 2, 3, 4] [] [0, 1, 2, 3, 4] rfl rfl ⟨rfl, rfl, rfl⟩ (by decide) rfl rfl (Nat.le_of_ble_eq_true rfl) dX7_addRows_74 ?_
  cases hm
  exact hR _ _ rfl dX7_addRows_77
theorem hdX7_addRows : yX7_addRows.cls = RX7 ∧ yX7_addRows.cls ≠ "java/lang/invoke/MethodHandle" ∧ yX7_addRows.cls ≠ "java/lang/invoke/VarHandle" ∧ (parseMethodDescriptor yX7_addRows.desc).map (fun d => d.parameters.length) = some 2 := by decide +kernel
-- RodBoard$Working.begin(I)V
theorem uX7_begin_X7 : ∀ w ∈ wsX70, w ∈ wsX7_begin := fun _ h => List.mem_cons_of_mem _ (List.mem_append_left _ (List.mem_append_right _ h))
theorem mX7_begin_1 : Cond.fieldLink RX7 18 "RodBoard$Working" "course" "LRodBoard$Course;" ∈ wsX7_begin := List.mem_of_getElem? (i := 1) rfl
theorem mX7_begin_2 : Cond.fieldLink RX7 9 "RodBoard$Working" "rows" "[J" ∈ wsX7_begin := List.mem_of_getElem? (i := 2) rfl
def fX7_begin (p0 : Int32) (s_rows : Nat → Int64) (s_course_boards : Int32) (s_course_cells : Nat → Int64) (s_course_notes : Nat → Int32) : Option ((Int32) × (Nat → Int64) × (Nat → Int32)) := bn2 (fX3_begin s_course_boards s_course_cells s_rows) (fun w_1 w_2 => Option.bind (fX7_held p0 s_rows) (fun r_4 => if r_4 = (0 : Int64) then some (w_1, w_2, s_course_notes) else bn3 (fX3_go (5 : Int32) p0 (0 : Int32) (0 : Int32) (-6 : Int32) (-6 : Int32) w_1 w_2 s_course_notes) (fun w_7 w_8 w_9 => some (w_7, w_8, w_9))))
set_option maxHeartbeats 4000000 in
set_option maxRecDepth 100000 in
theorem kX7_begin {l : Launch} (h0 : Nat) (a_s_rows : Nat) (a_s_course : Nat) (a_s_course_cells : Nat) (a_s_course_notes : Nat) (s_rows : Nat → Int64) (s_course_boards : Int32) (s_course_cells : Nat → Int64) (s_course_notes : Nat → Int32) (p0 : Int32) (o_s_course_boards : Int32) (o_s_course_cells : Nat → Int64) (o_s_course_notes : Nat → Int32) (hm : fX7_begin p0 s_rows s_course_boards s_course_cells s_course_notes = some (o_s_course_boards, o_s_course_cells, o_s_course_notes)) : CtV l yX7_begin wsX7_begin ({ frames := 5, cells := 0, slots := 0, locals := 126 } : Room) [.ref h0, .int p0] [(h0, eO 5 [.ref a_s_rows, .ref a_s_course]), (a_s_rows, eJ 8 s_rows), (a_s_course, eO 3 [.ref a_s_course_cells, .ref a_s_course_notes, .int s_course_boards]), (a_s_course_cells, eJ 392 s_course_cells), (a_s_course_notes, eI 288 s_course_notes)] [(h0, eO 5 [.ref a_s_rows, .ref a_s_course]), (a_s_rows, eJ 8 s_rows), (a_s_course, eO 3 [.ref a_s_course_cells, .ref a_s_course_notes, .int o_s_course_boards]), (a_s_course_cells, eJ 392 o_s_course_cells), (a_s_course_notes, eI 288 o_s_course_notes)] := by
  refine CtV_of (cc := cX7_begin) (maxL := 2) (own := RX7) rfl (by decide) rfl (lv0 := [(0, .ref h0), (1, .int p0)]) rfl (Nat.le_of_ble_eq_true rfl) (fun Γ hL C hR => ?_)
  subst hL
  unfold fX7_begin at hm
  refine V_aload_n C 0 dX7_begin_0 rfl rfl ?_
  refine V_get C uX7_begin_X7 0 1 rfl rfl (by decide) mX7_begin_1 rfl dX7_begin_1 ?_
  refine V_aload_n C 0 dX7_begin_4 rfl rfl ?_
  refine V_get C uX7_begin_X7 0 0 rfl rfl (by decide) mX7_begin_2 rfl dX7_begin_5 ?_
  obtain ⟨w_1, w_2, hc_3, hm⟩ := bd2 hm
  refine V_callVV C (As := [.ref a_s_rows]) (wr := [(h0, eO 5 [.ref a_s_rows, .ref a_s_course])]) (ws2 := [(h0, eO 5 [.ref a_s_rows, .ref a_s_course]), (a_s_rows, eJ 8 s_rows), (a_s_course, eO 3 [.ref a_s_course_cells, .ref a_s_course_notes, .int w_1]), (a_s_course_cells, eJ 392 w_2), (a_s_course_notes, eI 288 s_course_notes)]) (kX3_begin a_s_course a_s_course_cells a_s_course_notes a_s_rows s_course_boards s_course_cells s_course_notes s_rows w_1 w_2 hc_3) gX7_begin_X3_begin rfl ⟨rfl, rfl⟩ hdX3_begin ⟨Nat.le_of_ble_eq_true rfl, Nat.le_of_ble_eq_true rfl⟩ ⟨Nat.zero_le _, Nat.zero_le _⟩ 0 rfl rfl [2, 3, 4, 1] [0] [0, 4, 1, 2, 3] rfl rfl ⟨rfl, rfl, rfl⟩ (by decide) rfl rfl (Nat.le_of_ble_eq_true rfl) dX7_begin_8 ?_
  refine V_aload_n C 0 dX7_begin_11 rfl rfl ?_
  refine V_iload_n C 1 dX7_begin_12 rfl rfl ?_
  obtain ⟨r_4, hc_5, hm⟩ := bnd hm
  refine V_callVL C (As := [.int p0]) (wr := []) (ws2 := [(h0, eO 5 [.ref a_s_rows, .ref a_s_course]), (a_s_rows, eJ 8 s_rows), (a_s_course, eO 3 [.ref a_s_course_cells, .ref a_s_course_notes, .int w_1]), (a_s_course_cells, eJ 392 w_2), (a_s_course_notes, eI 288 s_course_notes)]) (kX7_held h0 a_s_rows a_s_course a_s_course_cells a_s_course_notes s_rows w_1 w_2 s_course_notes p0 r_4 hc_5) gX7_begin_X7_held rfl ⟨rfl, rfl⟩ hdX7_held ⟨Nat.le_of_ble_eq_true rfl, Nat.le_of_ble_eq_true rfl⟩ ⟨Nat.zero_le _, Nat.zero_le _⟩ 0 rfl rfl [0, 1, 2, 3, 4] [] [0, 1, 2, 3, 4] rfl rfl ⟨rfl, rfl, rfl⟩ (by decide) rfl rfl (Nat.le_of_ble_eq_true rfl) dX7_begin_13 ?_
  refine V_lconst C (v := (0 : Int64)) dX7_begin_16 (by decide) ?_
  refine V_lcmp_eq C 36 dX7_begin_17 dX7_begin_18 (by decide) (fun c_6 => ?_) (fun c_6 => ?_)
  · have hm := ite_t c_6 hm
    cases hm
    exact hR _ _ dX7_begin_36
  · have hm := ite_f c_6 hm
    refine V_aload_n C 0 dX7_begin_21 rfl rfl ?_
    refine V_get C uX7_begin_X7 0 1 rfl rfl (by decide) mX7_begin_1 rfl dX7_begin_22 ?_
    refine V_iconst C (v := (5 : Int32)) dX7_begin_25 (by decide) ?_
    refine V_iload_n C 1 dX7_begin_26 rfl rfl ?_
    refine V_iconst C (v := (0 : Int32)) dX7_begin_27 (by decide) ?_
    refine V_iconst C (v := (0 : Int32)) dX7_begin_28 (by decide) ?_
    refine V_bipush C (v := (-6 : Int32)) dX7_begin_29 (by decide) ?_
    refine V_bipush C (v := (-6 : Int32)) dX7_begin_31 (by decide) ?_
    obtain ⟨w_7, w_8, w_9, hc_10, hm⟩ := bd3 hm
    refine V_callVV C (As := [.int (5 : Int32), .int p0, .int (0 : Int32), .int (0 : Int32), .int (-6 : Int32), .int (-6 : Int32)]) (wr := [(h0, eO 5 [.ref a_s_rows, .ref a_s_course]), (a_s_rows, eJ 8 s_rows)]) (ws2 := [(h0, eO 5 [.ref a_s_rows, .ref a_s_course]), (a_s_rows, eJ 8 s_rows), (a_s_course, eO 3 [.ref a_s_course_cells, .ref a_s_course_notes, .int w_7]), (a_s_course_cells, eJ 392 w_8), (a_s_course_notes, eI 288 w_9)]) (kX3_go a_s_course a_s_course_cells a_s_course_notes w_1 w_2 s_course_notes (5 : Int32) p0 (0 : Int32) (0 : Int32) (-6 : Int32) (-6 : Int32) w_7 w_8 w_9 hc_10) gX7_begin_X3_go rfl ⟨rfl, rfl⟩ hdX3_go ⟨Nat.le_of_ble_eq_true rfl, Nat.le_of_ble_eq_true rfl⟩ ⟨Nat.zero_le _, Nat.zero_le _⟩ 0 rfl rfl [2, 3, 4] [0, 1] [0, 1, 2, 3, 4] rfl rfl ⟨rfl, rfl, rfl⟩ (by decide) rfl rfl (Nat.le_of_ble_eq_true rfl) dX7_begin_33 ?_
    cases hm
    exact hR _ _ dX7_begin_36
theorem hdX7_begin : yX7_begin.cls = RX7 ∧ yX7_begin.cls ≠ "java/lang/invoke/MethodHandle" ∧ yX7_begin.cls ≠ "java/lang/invoke/VarHandle" ∧ (parseMethodDescriptor yX7_begin.desc).map (fun d => d.parameters.length) = some 1 := by decide +kernel
-- RodBoard$Working.multiplyRows(III)I
theorem uX7_multiplyRows_X7 : ∀ w ∈ wsX70, w ∈ wsX7_multiplyRows := fun _ h => List.mem_cons_of_mem _ (List.mem_append_left _ (List.mem_append_right _ h))
theorem mX7_multiplyRows_1 : Cond.fieldLink RX7 18 "RodBoard$Working" "course" "LRodBoard$Course;" ∈ wsX7_multiplyRows := List.mem_of_getElem? (i := 1) rfl
def fX7_multiplyRows_L58b (x1 : Int32) (x2 : Int32) (x3 : Int32) (x4 : Int32) (x5 : Int32) (s_rows : Nat → Int64) (x6 : Int32) (s_course_boards : Int32) (s_course_cells : Nat → Int64) (s_course_notes : Nat → Int32) : Option (((Int32) × (Int32) × (Nat → Int64) × (Nat → Int32)) ⊕ ((Int32) × (Nat → Int64) × (Nat → Int32))) := if x6 < (0 : Int32) then some (Sum.inr (s_course_boards, s_course_cells, s_course_notes)) else Option.bind (fX7_held x1 s_rows) (fun r_14 => Option.bind (fX5_digit r_14 x5) (fun r_16 => Option.bind (fX7_held x2 s_rows) (fun r_18 => Option.bind (fX5_digit r_18 x6) (fun r_20 => if (r_16 * r_20) = (0 : Int32) then some (Sum.inl (x6 + (-1 : Int32), s_course_boards, s_course_cells, s_course_notes)) else if x4 = (0 : Int32) then bn3 (fX3_go (1 : Int32) x3 (x5 + x6) (r_16 * r_20) (-6 : Int32) (-6 : Int32) s_course_boards s_course_cells s_course_notes) (fun w_24 w_25 w_26 => some (Sum.inl (x6 + (-1 : Int32), w_24, w_25, w_26))) else bn3 (fX3_go (1 : Int32) x3 (x5 + x6) (-(r_16 * r_20)) (-6 : Int32) (-6 : Int32) s_course_boards s_course_cells s_course_notes) (fun w_28 w_29 w_30 => some (Sum.inl (x6 + (-1 : Int32), w_28, w_29, w_30)))))))
def fX7_multiplyRows_L58 (x1 : Int32) (x2 : Int32) (x3 : Int32) (x4 : Int32) (x5 : Int32) (s_rows : Nat → Int64) : ((Int32) × (Int32) × (Nat → Int64) × (Nat → Int32)) → Option (((Int32) × (Int32) × (Nat → Int64) × (Nat → Int32)) ⊕ ((Int32) × (Nat → Int64) × (Nat → Int32))) := fun e => fX7_multiplyRows_L58b x1 x2 x3 x4 x5 s_rows e.1 e.2.1 e.2.2.1 e.2.2.2
set_option maxHeartbeats 4000000 in
set_option maxRecDepth 100000 in
theorem bX7_multiplyRows_L58 {Γ : KT} (C : CX Γ cX7_multiplyRows 8 wsX7_multiplyRows RX7 ({ frames := 6, cells := 0, slots := 0, locals := 147 } : Room)) (h0 : Nat) (a_s_rows : Nat) (a_s_course : Nat) (a_s_course_cells : Nat) (a_s_course_notes : Nat) (x1 : Int32) (x2 : Int32) (x3 : Int32) (x4 : Int32) (x5 : Int32) (s_rows : Nat → Int64) (x6 : Int32) (s_course_boards : Int32) (s_course_cells : Nat → Int64) (s_course_notes : Nat → Int32) (x : ((Int32) × (Int32) × (Nat → Int64) × (Nat → Int32)) ⊕ ((Int32) × (Nat → Int64) × (Nat → Int32))) (hm : fX7_multiplyRows_L58b x1 x2 x3 x4 x5 s_rows x6 s_course_boards s_course_cells s_course_notes = some x) (hb : (∀ (x6' : Int32) (s_course_boards' : Int32) (s_course_cells' : Nat → Int64) (s_course_notes' : Nat → Int32), x = Sum.inl (x6', s_course_boards', s_course_cells', s_course_notes') → V Γ 8 0 0 58 [(0, .ref h0), (1, .int x1), (2, .int x2), (3, .int x3), (4, .int x4), (5, .int x5), (6, .int x6')] [] [(h0, eO 5 [.ref a_s_rows, .ref a_s_course]), (a_s_rows, eJ 8 s_rows), (a_s_course, eO 3 [.ref a_s_course_cells, .ref a_s_course_notes, .int s_course_boards']), (a_s_course_cells, eJ 392 s_course_cells'), (a_s_course_notes, eI 288 s_course_notes')])) (he0 : (∀ (s_course_boards' : Int32) (s_course_cells' : Nat → Int64) (s_course_notes' : Nat → Int32), x = Sum.inr (s_course_boards', s_course_cells', s_course_notes') → V Γ 8 0 0 128 [(0, .ref h0), (1, .int x1), (2, .int x2), (3, .int x3), (4, .int x4), (5, .int x5)] [] [(h0, eO 5 [.ref a_s_rows, .ref a_s_course]), (a_s_rows, eJ 8 s_rows), (a_s_course, eO 3 [.ref a_s_course_cells, .ref a_s_course_notes, .int s_course_boards']), (a_s_course_cells, eJ 392 s_course_cells'), (a_s_course_notes, eI 288 s_course_notes')])) : V Γ 8 0 0 58 [(0, .ref h0), (1, .int x1), (2, .int x2), (3, .int x3), (4, .int x4), (5, .int x5), (6, .int x6)] [] [(h0, eO 5 [.ref a_s_rows, .ref a_s_course]), (a_s_rows, eJ 8 s_rows), (a_s_course, eO 3 [.ref a_s_course_cells, .ref a_s_course_notes, .int s_course_boards]), (a_s_course_cells, eJ 392 s_course_cells), (a_s_course_notes, eI 288 s_course_notes)] := by
  unfold fX7_multiplyRows_L58b at hm
  refine V_iload C 6 dX7_multiplyRows_58 rfl ?_
  refine V_if_lt C 128 dX7_multiplyRows_60 (by decide) (fun c_13 => ?_) (fun c_13 => ?_)
  · have hm := ite_t c_13 hm
    refine V_lv [0, 1, 2, 3, 4, 5] rfl ?_
    exact he0 s_course_boards s_course_cells s_course_notes (Option.some.inj hm).symm
  · have hm := ite_f c_13 hm
    refine V_aload_n C 0 dX7_multiplyRows_63 rfl rfl ?_
    refine V_iload_n C 1 dX7_multiplyRows_64 rfl rfl ?_
    obtain ⟨r_14, hc_15, hm⟩ := bnd hm
    refine V_callVL C (As := [.int x1]) (wr := []) (ws2 := [(h0, eO 5 [.ref a_s_rows, .ref a_s_course]), (a_s_rows, eJ 8 s_rows), (a_s_course, eO 3 [.ref a_s_course_cells, .ref a_s_course_notes, .int s_course_boards]), (a_s_course_cells, eJ 392 s_course_cells), (a_s_course_notes, eI 288 s_course_notes)]) (kX7_held h0 a_s_rows a_s_course a_s_course_cells a_s_course_notes s_rows s_course_boards s_course_cells s_course_notes x1 r_14 hc_15) gX7_multiplyRows_X7_held rfl ⟨rfl, rfl⟩ hdX7_held ⟨Nat.le_of_ble_eq_true rfl, Nat.le_of_ble_eq_true rfl⟩ ⟨Nat.zero_le _, Nat.zero_le _⟩ 0 rfl rfl [0, 1, 2, 3, 4] [] [0, 1, 2, 3, 4] rfl rfl ⟨rfl, rfl, rfl⟩ (by decide) rfl rfl (Nat.le_of_ble_eq_true rfl) dX7_multiplyRows_65 ?_
    refine V_iload C 5 dX7_multiplyRows_68 rfl ?_
    obtain ⟨r_16, hc_17, hm⟩ := bnd hm
    refine V_callSI C (As := [.long r_14, .int x5]) (wr := [(h0, eO 5 [.ref a_s_rows, .ref a_s_course]), (a_s_rows, eJ 8 s_rows), (a_s_course, eO 3 [.ref a_s_course_cells, .ref a_s_course_notes, .int s_course_boards]), (a_s_course_cells, eJ 392 s_course_cells), (a_s_course_notes, eI 288 s_course_notes)]) (ws2 := [(h0, eO 5 [.ref a_s_rows, .ref a_s_course]), (a_s_rows, eJ 8 s_rows), (a_s_course, eO 3 [.ref a_s_course_cells, .ref a_s_course_notes, .int s_course_boards]), (a_s_course_cells, eJ 392 s_course_cells), (a_s_course_notes, eI 288 s_course_notes)]) (kX5_digit r_14 x5 r_16 hc_17) gX7_multiplyRows_X5_digit rfl ⟨rfl, rfl⟩ hdX5_digit ⟨Nat.le_of_ble_eq_true rfl, Nat.le_of_ble_eq_true rfl⟩ ⟨Nat.zero_le _, Nat.zero_le _⟩ [] [0, 1, 2, 3, 4] [0, 1, 2, 3, 4] rfl rfl ⟨rfl, rfl, rfl⟩ (by decide) rfl rfl (Nat.le_of_ble_eq_true rfl) dX7_multiplyRows_70 ?_
    refine V_aload_n C 0 dX7_multiplyRows_73 rfl rfl ?_
    refine V_iload_n C 2 dX7_multiplyRows_74 rfl rfl ?_
    obtain ⟨r_18, hc_19, hm⟩ := bnd hm
    refine V_callVL C (As := [.int x2]) (wr := []) (ws2 := [(h0, eO 5 [.ref a_s_rows, .ref a_s_course]), (a_s_rows, eJ 8 s_rows), (a_s_course, eO 3 [.ref a_s_course_cells, .ref a_s_course_notes, .int s_course_boards]), (a_s_course_cells, eJ 392 s_course_cells), (a_s_course_notes, eI 288 s_course_notes)]) (kX7_held h0 a_s_rows a_s_course a_s_course_cells a_s_course_notes s_rows s_course_boards s_course_cells s_course_notes x2 r_18 hc_19) gX7_multiplyRows_X7_held rfl ⟨rfl, rfl⟩ hdX7_held ⟨Nat.le_of_ble_eq_true rfl, Nat.le_of_ble_eq_true rfl⟩ ⟨Nat.zero_le _, Nat.zero_le _⟩ 0 rfl rfl [0, 1, 2, 3, 4] [] [0, 1, 2, 3, 4] rfl rfl ⟨rfl, rfl, rfl⟩ (by decide) rfl rfl (Nat.le_of_ble_eq_true rfl) dX7_multiplyRows_75 ?_
    refine V_iload C 6 dX7_multiplyRows_78 rfl ?_
    obtain ⟨r_20, hc_21, hm⟩ := bnd hm
    refine V_callSI C (As := [.long r_18, .int x6]) (wr := [(h0, eO 5 [.ref a_s_rows, .ref a_s_course]), (a_s_rows, eJ 8 s_rows), (a_s_course, eO 3 [.ref a_s_course_cells, .ref a_s_course_notes, .int s_course_boards]), (a_s_course_cells, eJ 392 s_course_cells), (a_s_course_notes, eI 288 s_course_notes)]) (ws2 := [(h0, eO 5 [.ref a_s_rows, .ref a_s_course]), (a_s_rows, eJ 8 s_rows), (a_s_course, eO 3 [.ref a_s_course_cells, .ref a_s_course_notes, .int s_course_boards]), (a_s_course_cells, eJ 392 s_course_cells), (a_s_course_notes, eI 288 s_course_notes)]) (kX5_digit r_18 x6 r_20 hc_21) gX7_multiplyRows_X5_digit rfl ⟨rfl, rfl⟩ hdX5_digit ⟨Nat.le_of_ble_eq_true rfl, Nat.le_of_ble_eq_true rfl⟩ ⟨Nat.zero_le _, Nat.zero_le _⟩ [] [0, 1, 2, 3, 4] [0, 1, 2, 3, 4] rfl rfl ⟨rfl, rfl, rfl⟩ (by decide) rfl rfl (Nat.le_of_ble_eq_true rfl) dX7_multiplyRows_80 ?_
    refine V_imul C dX7_multiplyRows_83 ?_
    refine V_istore C (lv' := [(7, .int (r_16 * r_20)), (0, .ref h0), (1, .int x1), (2, .int x2), (3, .int x3), (4, .int x4), (5, .int x5), (6, .int x6)]) dX7_multiplyRows_84 (by decide) rfl ?_
    refine V_iload C 0 dX7_multiplyRows_86 rfl ?_
    refine V_if_eq C 122 dX7_multiplyRows_88 (by decide) (fun c_22 => ?_) (fun c_22 => ?_)
    · have hm := ite_t c_22 hm
      refine V_iinc C 7 (v := x6 + (-1 : Int32)) (lv' := [(6, .int (x6 + (-1 : Int32))), (7, .int (r_16 * r_20)), (0, .ref h0), (1, .int x1), (2, .int x2), (3, .int x3), (4, .int x4), (5, .int x5)]) dX7_multiplyRows_122 rfl rfl (by decide) rfl ?_
      refine V_goto C 58 dX7_multiplyRows_125 (by decide) ?_
      refine V_lv [2, 3, 4, 5, 6, 7, 0] rfl ?_
      exact hb (x6 + (-1 : Int32)) s_course_boards s_course_cells s_course_notes (Option.some.inj hm).symm
    · have hm := ite_f c_22 hm
      refine V_aload_n C 1 dX7_multiplyRows_91 rfl rfl ?_
      refine V_get C uX7_multiplyRows_X7 0 1 rfl rfl (by decide) mX7_multiplyRows_1 rfl dX7_multiplyRows_92 ?_
      refine V_iconst C (v := (1 : Int32)) dX7_multiplyRows_95 (by decide) ?_
      refine V_iload_n C 4 dX7_multiplyRows_96 rfl rfl ?_
      refine V_iload C 6 dX7_multiplyRows_97 rfl ?_
      refine V_iload C 7 dX7_multiplyRows_99 rfl ?_
      refine V_iadd C dX7_multiplyRows_101 ?_
      refine V_iload C 5 dX7_multiplyRows_102 rfl ?_
      refine V_if_eq C 113 dX7_multiplyRows_104 (by decide) (fun c_23 => ?_) (fun c_23 => ?_)
      · have hm := ite_t c_23 hm
        refine V_iload C 0 dX7_multiplyRows_113 rfl ?_
        refine V_bipush C (v := (-6 : Int32)) dX7_multiplyRows_115 (by decide) ?_
        refine V_bipush C (v := (-6 : Int32)) dX7_multiplyRows_117 (by decide) ?_
        obtain ⟨w_24, w_25, w_26, hc_27, hm⟩ := bd3 hm
        refine V_callVV C (As := [.int (1 : Int32), .int x3, .int (x5 + x6), .int (r_16 * r_20), .int (-6 : Int32), .int (-6 : Int32)]) (wr := [(h0, eO 5 [.ref a_s_rows, .ref a_s_course]), (a_s_rows, eJ 8 s_rows)]) (ws2 := [(h0, eO 5 [.ref a_s_rows, .ref a_s_course]), (a_s_rows, eJ 8 s_rows), (a_s_course, eO 3 [.ref a_s_course_cells, .ref a_s_course_notes, .int w_24]), (a_s_course_cells, eJ 392 w_25), (a_s_course_notes, eI 288 w_26)]) (kX3_go a_s_course a_s_course_cells a_s_course_notes s_course_boards s_course_cells s_course_notes (1 : Int32) x3 (x5 + x6) (r_16 * r_20) (-6 : Int32) (-6 : Int32) w_24 w_25 w_26 hc_27) gX7_multiplyRows_X3_go rfl ⟨rfl, rfl⟩ hdX3_go ⟨Nat.le_of_ble_eq_true rfl, Nat.le_of_ble_eq_true rfl⟩ ⟨Nat.zero_le _, Nat.zero_le _⟩ 0 rfl rfl [2, 3, 4] [0, 1] [0, 1, 2, 3, 4] rfl rfl ⟨rfl, rfl, rfl⟩ (by decide) rfl rfl (Nat.le_of_ble_eq_true rfl) dX7_multiplyRows_119 ?_
        refine V_iinc C 7 (v := x6 + (-1 : Int32)) (lv' := [(6, .int (x6 + (-1 : Int32))), (7, .int (r_16 * r_20)), (0, .ref h0), (1, .int x1), (2, .int x2), (3, .int x3), (4, .int x4), (5, .int x5)]) dX7_multiplyRows_122 rfl rfl (by decide) rfl ?_
        refine V_goto C 58 dX7_multiplyRows_125 (by decide) ?_
        refine V_lv [2, 3, 4, 5, 6, 7, 0] rfl ?_
        exact hb (x6 + (-1 : Int32)) w_24 w_25 w_26 (Option.some.inj hm).symm
      · have hm := ite_f c_23 hm
        refine V_iload C 0 dX7_multiplyRows_107 rfl ?_
        refine V_ineg C dX7_multiplyRows_109 ?_
        refine V_goto C 115 dX7_multiplyRows_110 (by decide) ?_
        refine V_bipush C (v := (-6 : Int32)) dX7_multiplyRows_115 (by decide) ?_
        refine V_bipush C (v := (-6 : Int32)) dX7_multiplyRows_117 (by decide) ?_
        obtain ⟨w_28, w_29, w_30, hc_31, hm⟩ := bd3 hm
        refine V_callVV C (As := [.int (1 : Int32), .int x3, .int (x5 + x6), .int (-(r_16 * r_20)), .int (-6 : Int32), .int (-6 : Int32)]) (wr := [(h0, eO 5 [.ref a_s_rows, .ref a_s_course]), (a_s_rows, eJ 8 s_rows)]) (ws2 := [(h0, eO 5 [.ref a_s_rows, .ref a_s_course]), (a_s_rows, eJ 8 s_rows), (a_s_course, eO 3 [.ref a_s_course_cells, .ref a_s_course_notes, .int w_28]), (a_s_course_cells, eJ 392 w_29), (a_s_course_notes, eI 288 w_30)]) (kX3_go a_s_course a_s_course_cells a_s_course_notes s_course_boards s_course_cells s_course_notes (1 : Int32) x3 (x5 + x6) (-(r_16 * r_20)) (-6 : Int32) (-6 : Int32) w_28 w_29 w_30 hc_31) gX7_multiplyRows_X3_go rfl ⟨rfl, rfl⟩ hdX3_go ⟨Nat.le_of_ble_eq_true rfl, Nat.le_of_ble_eq_true rfl⟩ ⟨Nat.zero_le _, Nat.zero_le _⟩ 0 rfl rfl [2, 3, 4] [0, 1] [0, 1, 2, 3, 4] rfl rfl ⟨rfl, rfl, rfl⟩ (by decide) rfl rfl (Nat.le_of_ble_eq_true rfl) dX7_multiplyRows_119 ?_
        refine V_iinc C 7 (v := x6 + (-1 : Int32)) (lv' := [(6, .int (x6 + (-1 : Int32))), (7, .int (r_16 * r_20)), (0, .ref h0), (1, .int x1), (2, .int x2), (3, .int x3), (4, .int x4), (5, .int x5)]) dX7_multiplyRows_122 rfl rfl (by decide) rfl ?_
        refine V_goto C 58 dX7_multiplyRows_125 (by decide) ?_
        refine V_lv [2, 3, 4, 5, 6, 7, 0] rfl ?_
        exact hb (x6 + (-1 : Int32)) w_28 w_29 w_30 (Option.some.inj hm).symm
theorem lX7_multiplyRows_L58 {Γ : KT} (C : CX Γ cX7_multiplyRows 8 wsX7_multiplyRows RX7 ({ frames := 6, cells := 0, slots := 0, locals := 147 } : Room)) (h0 : Nat) (a_s_rows : Nat) (a_s_course : Nat) (a_s_course_cells : Nat) (a_s_course_notes : Nat) (x1 : Int32) (x2 : Int32) (x3 : Int32) (x4 : Int32) (x5 : Int32) (s_rows : Nat → Int64) (x6 : Int32) (s_course_boards : Int32) (s_course_cells : Nat → Int64) (s_course_notes : Nat → Int32) (N : Nat) (e : (Int32) × (Nat → Int64) × (Nat → Int32)) (hN : itr (fX7_multiplyRows_L58 x1 x2 x3 x4 x5 s_rows) N (x6, s_course_boards, s_course_cells, s_course_notes) = some e) (he0 : (∀ (s_course_boards' : Int32) (s_course_cells' : Nat → Int64) (s_course_notes' : Nat → Int32), e = (s_course_boards', s_course_cells', s_course_notes') → V Γ 8 0 0 128 [(0, .ref h0), (1, .int x1), (2, .int x2), (3, .int x3), (4, .int x4), (5, .int x5)] [] [(h0, eO 5 [.ref a_s_rows, .ref a_s_course]), (a_s_rows, eJ 8 s_rows), (a_s_course, eO 3 [.ref a_s_course_cells, .ref a_s_course_notes, .int s_course_boards']), (a_s_course_cells, eJ 392 s_course_cells'), (a_s_course_notes, eI 288 s_course_notes')])) : V Γ 8 0 0 58 [(0, .ref h0), (1, .int x1), (2, .int x2), (3, .int x3), (4, .int x4), (5, .int x5), (6, .int x6)] [] [(h0, eO 5 [.ref a_s_rows, .ref a_s_course]), (a_s_rows, eJ 8 s_rows), (a_s_course, eO 3 [.ref a_s_course_cells, .ref a_s_course_notes, .int s_course_boards]), (a_s_course_cells, eJ 392 s_course_cells), (a_s_course_notes, eI 288 s_course_notes)] := by
  induction N generalizing x6 s_course_boards s_course_cells s_course_notes with
  | zero => exact absurd hN (fun h => itr_0 h)
  | succ N ih =>
    obtain ⟨x, hx, hN⟩ := itr_s hN
    refine bX7_multiplyRows_L58 C h0 a_s_rows a_s_course a_s_course_cells a_s_course_notes x1 x2 x3 x4 x5 s_rows x6 s_course_boards s_course_cells s_course_notes x hx (fun x6' s_course_boards' s_course_cells' s_course_notes' h => ih x6' s_course_boards' s_course_cells' s_course_notes' (by subst h; exact hN)) (fun y0 y1 y2 h => he0 y0 y1 y2 (by subst h; exact (Option.some.inj hN).symm))
def fX7_multiplyRows_L49b (x1 : Int32) (x2 : Int32) (x3 : Int32) (x4 : Int32) (s_rows : Nat → Int64) (x5 : Int32) (s_course_boards : Int32) (s_course_cells : Nat → Int64) (s_course_notes : Nat → Int32) : Option (((Int32) × (Int32) × (Nat → Int64) × (Nat → Int32)) ⊕ ((Int32) × (Nat → Int64) × (Nat → Int32))) := if x5 < (0 : Int32) then some (Sum.inr (s_course_boards, s_course_cells, s_course_notes)) else bn3 (itr (fX7_multiplyRows_L58 x1 x2 x3 x4 x5 s_rows) KF ((11 : Int32), s_course_boards, s_course_cells, s_course_notes)) (fun u_34 u_35 u_36 => some (Sum.inl (x5 + (-1 : Int32), u_34, u_35, u_36)))
def fX7_multiplyRows_L49 (x1 : Int32) (x2 : Int32) (x3 : Int32) (x4 : Int32) (s_rows : Nat → Int64) : ((Int32) × (Int32) × (Nat → Int64) × (Nat → Int32)) → Option (((Int32) × (Int32) × (Nat → Int64) × (Nat → Int32)) ⊕ ((Int32) × (Nat → Int64) × (Nat → Int32))) := fun e => fX7_multiplyRows_L49b x1 x2 x3 x4 s_rows e.1 e.2.1 e.2.2.1 e.2.2.2
set_option maxHeartbeats 4000000 in
set_option maxRecDepth 100000 in
theorem bX7_multiplyRows_L49 {Γ : KT} (C : CX Γ cX7_multiplyRows 8 wsX7_multiplyRows RX7 ({ frames := 6, cells := 0, slots := 0, locals := 147 } : Room)) (h0 : Nat) (a_s_rows : Nat) (a_s_course : Nat) (a_s_course_cells : Nat) (a_s_course_notes : Nat) (x1 : Int32) (x2 : Int32) (x3 : Int32) (x4 : Int32) (s_rows : Nat → Int64) (x5 : Int32) (s_course_boards : Int32) (s_course_cells : Nat → Int64) (s_course_notes : Nat → Int32) (x : ((Int32) × (Int32) × (Nat → Int64) × (Nat → Int32)) ⊕ ((Int32) × (Nat → Int64) × (Nat → Int32))) (hm : fX7_multiplyRows_L49b x1 x2 x3 x4 s_rows x5 s_course_boards s_course_cells s_course_notes = some x) (hb : (∀ (x5' : Int32) (s_course_boards' : Int32) (s_course_cells' : Nat → Int64) (s_course_notes' : Nat → Int32), x = Sum.inl (x5', s_course_boards', s_course_cells', s_course_notes') → V Γ 8 0 0 49 [(0, .ref h0), (1, .int x1), (2, .int x2), (3, .int x3), (4, .int x4), (5, .int x5')] [] [(h0, eO 5 [.ref a_s_rows, .ref a_s_course]), (a_s_rows, eJ 8 s_rows), (a_s_course, eO 3 [.ref a_s_course_cells, .ref a_s_course_notes, .int s_course_boards']), (a_s_course_cells, eJ 392 s_course_cells'), (a_s_course_notes, eI 288 s_course_notes')])) (he0 : (∀ (s_course_boards' : Int32) (s_course_cells' : Nat → Int64) (s_course_notes' : Nat → Int32), x = Sum.inr (s_course_boards', s_course_cells', s_course_notes') → V Γ 8 0 0 134 [(0, .ref h0)] [] [(h0, eO 5 [.ref a_s_rows, .ref a_s_course]), (a_s_rows, eJ 8 s_rows), (a_s_course, eO 3 [.ref a_s_course_cells, .ref a_s_course_notes, .int s_course_boards']), (a_s_course_cells, eJ 392 s_course_cells'), (a_s_course_notes, eI 288 s_course_notes')])) : V Γ 8 0 0 49 [(0, .ref h0), (1, .int x1), (2, .int x2), (3, .int x3), (4, .int x4), (5, .int x5)] [] [(h0, eO 5 [.ref a_s_rows, .ref a_s_course]), (a_s_rows, eJ 8 s_rows), (a_s_course, eO 3 [.ref a_s_course_cells, .ref a_s_course_notes, .int s_course_boards]), (a_s_course_cells, eJ 392 s_course_cells), (a_s_course_notes, eI 288 s_course_notes)] := by
  unfold fX7_multiplyRows_L49b at hm
  refine V_iload C 5 dX7_multiplyRows_49 rfl ?_
  refine V_if_lt C 134 dX7_multiplyRows_51 (by decide) (fun c_12 => ?_) (fun c_12 => ?_)
  · have hm := ite_t c_12 hm
    refine V_lv [0] rfl ?_
    exact he0 s_course_boards s_course_cells s_course_notes (Option.some.inj hm).symm
  · have hm := ite_f c_12 hm
    refine V_bipush C (v := (11 : Int32)) dX7_multiplyRows_54 (by decide) ?_
    refine V_istore C (lv' := [(6, .int (11 : Int32)), (0, .ref h0), (1, .int x1), (2, .int x2), (3, .int x3), (4, .int x4), (5, .int x5)]) dX7_multiplyRows_56 (by decide) rfl ?_
    obtain ⟨u_34, u_35, u_36, hE_33, hm⟩ := bd3 hm
    refine V_lv [1, 2, 3, 4, 5, 6, 0] rfl ?_
    refine lX7_multiplyRows_L58 C h0 a_s_rows a_s_course a_s_course_cells a_s_course_notes x1 x2 x3 x4 x5 s_rows (11 : Int32) s_course_boards s_course_cells s_course_notes KF _ hE_33 ?_
    intro q_37 q_38 q_39 hq
    cases hq
    refine V_iinc C 5 (v := x5 + (-1 : Int32)) (lv' := [(5, .int (x5 + (-1 : Int32))), (0, .ref h0), (1, .int x1), (2, .int x2), (3, .int x3), (4, .int x4)]) dX7_multiplyRows_128 rfl rfl (by decide) rfl ?_
    refine V_goto C 49 dX7_multiplyRows_131 (by decide) ?_
    refine V_lv [1, 2, 3, 4, 5, 0] rfl ?_
    exact hb (x5 + (-1 : Int32)) u_34 u_35 u_36 (Option.some.inj hm).symm
theorem lX7_multiplyRows_L49 {Γ : KT} (C : CX Γ cX7_multiplyRows 8 wsX7_multiplyRows RX7 ({ frames := 6, cells := 0, slots := 0, locals := 147 } : Room)) (h0 : Nat) (a_s_rows : Nat) (a_s_course : Nat) (a_s_course_cells : Nat) (a_s_course_notes : Nat) (x1 : Int32) (x2 : Int32) (x3 : Int32) (x4 : Int32) (s_rows : Nat → Int64) (x5 : Int32) (s_course_boards : Int32) (s_course_cells : Nat → Int64) (s_course_notes : Nat → Int32) (N : Nat) (e : (Int32) × (Nat → Int64) × (Nat → Int32)) (hN : itr (fX7_multiplyRows_L49 x1 x2 x3 x4 s_rows) N (x5, s_course_boards, s_course_cells, s_course_notes) = some e) (he0 : (∀ (s_course_boards' : Int32) (s_course_cells' : Nat → Int64) (s_course_notes' : Nat → Int32), e = (s_course_boards', s_course_cells', s_course_notes') → V Γ 8 0 0 134 [(0, .ref h0)] [] [(h0, eO 5 [.ref a_s_rows, .ref a_s_course]), (a_s_rows, eJ 8 s_rows), (a_s_course, eO 3 [.ref a_s_course_cells, .ref a_s_course_notes, .int s_course_boards']), (a_s_course_cells, eJ 392 s_course_cells'), (a_s_course_notes, eI 288 s_course_notes')])) : V Γ 8 0 0 49 [(0, .ref h0), (1, .int x1), (2, .int x2), (3, .int x3), (4, .int x4), (5, .int x5)] [] [(h0, eO 5 [.ref a_s_rows, .ref a_s_course]), (a_s_rows, eJ 8 s_rows), (a_s_course, eO 3 [.ref a_s_course_cells, .ref a_s_course_notes, .int s_course_boards]), (a_s_course_cells, eJ 392 s_course_cells), (a_s_course_notes, eI 288 s_course_notes)] := by
  induction N generalizing x5 s_course_boards s_course_cells s_course_notes with
  | zero => exact absurd hN (fun h => itr_0 h)
  | succ N ih =>
    obtain ⟨x, hx, hN⟩ := itr_s hN
    refine bX7_multiplyRows_L49 C h0 a_s_rows a_s_course a_s_course_cells a_s_course_notes x1 x2 x3 x4 s_rows x5 s_course_boards s_course_cells s_course_notes x hx (fun x5' s_course_boards' s_course_cells' s_course_notes' h => ih x5' s_course_boards' s_course_cells' s_course_notes' (by subst h; exact hN)) (fun y0 y1 y2 h => he0 y0 y1 y2 (by subst h; exact (Option.some.inj hN).symm))
def fX7_multiplyRows_B43 (x1 : Int32) (x2 : Int32) (x3 : Int32) (s0 : Int32) (s_rows : Nat → Int64) (s_course_boards : Int32) (s_course_cells : Nat → Int64) (s_course_notes : Nat → Int32) : Option ((Int32) × (Nat → Int64) × (Int32) × (Nat → Int64) × (Nat → Int32)) := bn3 (itr (fX7_multiplyRows_L49 x1 x2 x3 s0 s_rows) KF ((11 : Int32), s_course_boards, s_course_cells, s_course_notes)) (fun u_42 u_43 u_44 => bn2 (fX7_end s_rows u_42 u_43) (fun r_45 w_46 => some (r_45, w_46, u_42, u_43, u_44)))
set_option maxHeartbeats 4000000 in
set_option maxRecDepth 100000 in
theorem jX7_multiplyRows_B43 {Γ : KT} (C : CX Γ cX7_multiplyRows 8 wsX7_multiplyRows RX7 ({ frames := 6, cells := 0, slots := 0, locals := 147 } : Room)) (h0 : Nat) (a_s_rows : Nat) (a_s_course : Nat) (a_s_course_cells : Nat) (a_s_course_notes : Nat) (x1 : Int32) (x2 : Int32) (x3 : Int32) (s0 : Int32) (s_rows : Nat → Int64) (s_course_boards : Int32) (s_course_cells : Nat → Int64) (s_course_notes : Nat → Int32) (r : Int32) (o_s_rows : Nat → Int64) (o_s_course_boards : Int32) (o_s_course_cells : Nat → Int64) (o_s_course_notes : Nat → Int32) (hm : fX7_multiplyRows_B43 x1 x2 x3 s0 s_rows s_course_boards s_course_cells s_course_notes = some (r, o_s_rows, o_s_course_boards, o_s_course_cells, o_s_course_notes)) (hR : (∀ (pc : Nat) (lv : List (Nat × Value)), narrow .int (.int r) = .int r → decode cX7_multiplyRows pc = .ok (.ireturn, 1) → V Γ 8 0 0 pc lv [.int r] [(h0, eO 5 [.ref a_s_rows, .ref a_s_course]), (a_s_rows, eJ 8 o_s_rows), (a_s_course, eO 3 [.ref a_s_course_cells, .ref a_s_course_notes, .int o_s_course_boards]), (a_s_course_cells, eJ 392 o_s_course_cells), (a_s_course_notes, eI 288 o_s_course_notes)])) : V Γ 8 0 0 43 [(0, .ref h0), (1, .int x1), (2, .int x2), (3, .int x3)] [.int s0] [(h0, eO 5 [.ref a_s_rows, .ref a_s_course]), (a_s_rows, eJ 8 s_rows), (a_s_course, eO 3 [.ref a_s_course_cells, .ref a_s_course_notes, .int s_course_boards]), (a_s_course_cells, eJ 392 s_course_cells), (a_s_course_notes, eI 288 s_course_notes)] := by
  unfold fX7_multiplyRows_B43 at hm
  refine V_istore C (lv' := [(4, .int s0), (0, .ref h0), (1, .int x1), (2, .int x2), (3, .int x3)]) dX7_multiplyRows_43 (by decide) rfl ?_
  refine V_bipush C (v := (11 : Int32)) dX7_multiplyRows_45 (by decide) ?_
  refine V_istore C (lv' := [(5, .int (11 : Int32)), (4, .int s0), (0, .ref h0), (1, .int x1), (2, .int x2), (3, .int x3)]) dX7_multiplyRows_47 (by decide) rfl ?_
  obtain ⟨u_42, u_43, u_44, hE_41, hm⟩ := bd3 hm
  refine V_lv [2, 3, 4, 5, 1, 0] rfl ?_
  refine lX7_multiplyRows_L49 C h0 a_s_rows a_s_course a_s_course_cells a_s_course_notes x1 x2 x3 s0 s_rows (11 : Int32) s_course_boards s_course_cells s_course_notes KF _ hE_41 ?_
  intro q_48 q_49 q_50 hq
  cases hq
  refine V_aload_n C 0 dX7_multiplyRows_134 rfl rfl ?_
  obtain ⟨r_45, w_46, hc_47, hm⟩ := bd2 hm
  refine V_callVI C (As := []) (wr := []) (ws2 := [(h0, eO 5 [.ref a_s_rows, .ref a_s_course]), (a_s_rows, eJ 8 w_46), (a_s_course, eO 3 [.ref a_s_course_cells, .ref a_s_course_notes, .int u_42]), (a_s_course_cells, eJ 392 u_43), (a_s_course_notes, eI 288 u_44)]) (kX7_end h0 a_s_rows a_s_course a_s_course_cells a_s_course_notes s_rows u_42 u_43 u_44 r_45 w_46 hc_47) gX7_multiplyRows_X7_end rfl ⟨rfl, rfl⟩ hdX7_end ⟨Nat.le_of_ble_eq_true rfl, Nat.le_of_ble_eq_true rfl⟩ ⟨Nat.zero_le _, Nat.zero_le _⟩ 0 rfl rfl [0, 1, 2, 3, 4] [] [0, 1, 2, 3, 4] rfl rfl ⟨rfl, rfl, rfl⟩ (by decide) rfl rfl (Nat.le_of_ble_eq_true rfl) dX7_multiplyRows_135 ?_
  cases hm
  exact hR _ _ rfl dX7_multiplyRows_138
def fX7_multiplyRows_B35 (x1 : Int32) (x2 : Int32) (x3 : Int32) (s0 : Int32) (s1 : Int32) (s_rows : Nat → Int64) (s_course_boards : Int32) (s_course_cells : Nat → Int64) (s_course_notes : Nat → Int32) : Option ((Int32) × (Nat → Int64) × (Int32) × (Nat → Int64) × (Nat → Int32)) := if s1 = s0 then fX7_multiplyRows_B43 x1 x2 x3 (0 : Int32) s_rows s_course_boards s_course_cells s_course_notes else fX7_multiplyRows_B43 x1 x2 x3 (1 : Int32) s_rows s_course_boards s_course_cells s_course_notes
set_option maxHeartbeats 4000000 in
set_option maxRecDepth 100000 in
theorem jX7_multiplyRows_B35 {Γ : KT} (C : CX Γ cX7_multiplyRows 8 wsX7_multiplyRows RX7 ({ frames := 6, cells := 0, slots := 0, locals := 147 } : Room)) (h0 : Nat) (a_s_rows : Nat) (a_s_course : Nat) (a_s_course_cells : Nat) (a_s_course_notes : Nat) (x1 : Int32) (x2 : Int32) (x3 : Int32) (s0 : Int32) (s1 : Int32) (s_rows : Nat → Int64) (s_course_boards : Int32) (s_course_cells : Nat → Int64) (s_course_notes : Nat → Int32) (r : Int32) (o_s_rows : Nat → Int64) (o_s_course_boards : Int32) (o_s_course_cells : Nat → Int64) (o_s_course_notes : Nat → Int32) (hm : fX7_multiplyRows_B35 x1 x2 x3 s0 s1 s_rows s_course_boards s_course_cells s_course_notes = some (r, o_s_rows, o_s_course_boards, o_s_course_cells, o_s_course_notes)) (hR : (∀ (pc : Nat) (lv : List (Nat × Value)), narrow .int (.int r) = .int r → decode cX7_multiplyRows pc = .ok (.ireturn, 1) → V Γ 8 0 0 pc lv [.int r] [(h0, eO 5 [.ref a_s_rows, .ref a_s_course]), (a_s_rows, eJ 8 o_s_rows), (a_s_course, eO 3 [.ref a_s_course_cells, .ref a_s_course_notes, .int o_s_course_boards]), (a_s_course_cells, eJ 392 o_s_course_cells), (a_s_course_notes, eI 288 o_s_course_notes)])) : V Γ 8 0 0 35 [(0, .ref h0), (1, .int x1), (2, .int x2), (3, .int x3)] [.int s0, .int s1] [(h0, eO 5 [.ref a_s_rows, .ref a_s_course]), (a_s_rows, eJ 8 s_rows), (a_s_course, eO 3 [.ref a_s_course_cells, .ref a_s_course_notes, .int s_course_boards]), (a_s_course_cells, eJ 392 s_course_cells), (a_s_course_notes, eI 288 s_course_notes)] := by
  unfold fX7_multiplyRows_B35 at hm
  refine V_icmp_eq C 42 dX7_multiplyRows_35 (by decide) (fun c_11 => ?_) (fun c_11 => ?_)
  · have hm := ite_t c_11 hm
    refine V_iconst C (v := (0 : Int32)) dX7_multiplyRows_42 (by decide) ?_
    refine V_lv [0, 1, 2, 3] rfl ?_
    exact jX7_multiplyRows_B43 C h0 a_s_rows a_s_course a_s_course_cells a_s_course_notes x1 x2 x3 (0 : Int32) s_rows s_course_boards s_course_cells s_course_notes _ _ _ _ _ hm hR
  · have hm := ite_f c_11 hm
    refine V_iconst C (v := (1 : Int32)) dX7_multiplyRows_38 (by decide) ?_
    refine V_goto C 43 dX7_multiplyRows_39 (by decide) ?_
    refine V_lv [0, 1, 2, 3] rfl ?_
    exact jX7_multiplyRows_B43 C h0 a_s_rows a_s_course a_s_course_cells a_s_course_notes x1 x2 x3 (1 : Int32) s_rows s_course_boards s_course_cells s_course_notes _ _ _ _ _ hm hR
def fX7_multiplyRows_B20 (x1 : Int32) (x2 : Int32) (x3 : Int32) (s0 : Int32) (s_rows : Nat → Int64) (s_course_boards : Int32) (s_course_cells : Nat → Int64) (s_course_notes : Nat → Int32) : Option ((Int32) × (Nat → Int64) × (Int32) × (Nat → Int64) × (Nat → Int32)) := Option.bind (fX7_held x2 s_rows) (fun r_8 => if r_8 < (0 : Int64) then fX7_multiplyRows_B35 x1 x2 x3 (1 : Int32) s0 s_rows s_course_boards s_course_cells s_course_notes else fX7_multiplyRows_B35 x1 x2 x3 (0 : Int32) s0 s_rows s_course_boards s_course_cells s_course_notes)
set_option maxHeartbeats 4000000 in
set_option maxRecDepth 100000 in
theorem jX7_multiplyRows_B20 {Γ : KT} (C : CX Γ cX7_multiplyRows 8 wsX7_multiplyRows RX7 ({ frames := 6, cells := 0, slots := 0, locals := 147 } : Room)) (h0 : Nat) (a_s_rows : Nat) (a_s_course : Nat) (a_s_course_cells : Nat) (a_s_course_notes : Nat) (x1 : Int32) (x2 : Int32) (x3 : Int32) (s0 : Int32) (s_rows : Nat → Int64) (s_course_boards : Int32) (s_course_cells : Nat → Int64) (s_course_notes : Nat → Int32) (r : Int32) (o_s_rows : Nat → Int64) (o_s_course_boards : Int32) (o_s_course_cells : Nat → Int64) (o_s_course_notes : Nat → Int32) (hm : fX7_multiplyRows_B20 x1 x2 x3 s0 s_rows s_course_boards s_course_cells s_course_notes = some (r, o_s_rows, o_s_course_boards, o_s_course_cells, o_s_course_notes)) (hR : (∀ (pc : Nat) (lv : List (Nat × Value)), narrow .int (.int r) = .int r → decode cX7_multiplyRows pc = .ok (.ireturn, 1) → V Γ 8 0 0 pc lv [.int r] [(h0, eO 5 [.ref a_s_rows, .ref a_s_course]), (a_s_rows, eJ 8 o_s_rows), (a_s_course, eO 3 [.ref a_s_course_cells, .ref a_s_course_notes, .int o_s_course_boards]), (a_s_course_cells, eJ 392 o_s_course_cells), (a_s_course_notes, eI 288 o_s_course_notes)])) : V Γ 8 0 0 20 [(0, .ref h0), (1, .int x1), (2, .int x2), (3, .int x3)] [.int s0] [(h0, eO 5 [.ref a_s_rows, .ref a_s_course]), (a_s_rows, eJ 8 s_rows), (a_s_course, eO 3 [.ref a_s_course_cells, .ref a_s_course_notes, .int s_course_boards]), (a_s_course_cells, eJ 392 s_course_cells), (a_s_course_notes, eI 288 s_course_notes)] := by
  unfold fX7_multiplyRows_B20 at hm
  refine V_aload_n C 0 dX7_multiplyRows_20 rfl rfl ?_
  refine V_iload_n C 2 dX7_multiplyRows_21 rfl rfl ?_
  obtain ⟨r_8, hc_9, hm⟩ := bnd hm
  refine V_callVL C (As := [.int x2]) (wr := []) (ws2 := [(h0, eO 5 [.ref a_s_rows, .ref a_s_course]), (a_s_rows, eJ 8 s_rows), (a_s_course, eO 3 [.ref a_s_course_cells, .ref a_s_course_notes, .int s_course_boards]), (a_s_course_cells, eJ 392 s_course_cells), (a_s_course_notes, eI 288 s_course_notes)]) (kX7_held h0 a_s_rows a_s_course a_s_course_cells a_s_course_notes s_rows s_course_boards s_course_cells s_course_notes x2 r_8 hc_9) gX7_multiplyRows_X7_held rfl ⟨rfl, rfl⟩ hdX7_held ⟨Nat.le_of_ble_eq_true rfl, Nat.le_of_ble_eq_true rfl⟩ ⟨Nat.zero_le _, Nat.zero_le _⟩ 0 rfl rfl [0, 1, 2, 3, 4] [] [0, 1, 2, 3, 4] rfl rfl ⟨rfl, rfl, rfl⟩ (by decide) rfl rfl (Nat.le_of_ble_eq_true rfl) dX7_multiplyRows_22 ?_
  refine V_lconst C (v := (0 : Int64)) dX7_multiplyRows_25 (by decide) ?_
  refine V_lcmp_ge C 34 dX7_multiplyRows_26 dX7_multiplyRows_27 (by decide) (fun c_10 => ?_) (fun c_10 => ?_)
  · have hm := ite_t c_10 hm
    refine V_iconst C (v := (1 : Int32)) dX7_multiplyRows_30 (by decide) ?_
    refine V_goto C 35 dX7_multiplyRows_31 (by decide) ?_
    refine V_lv [0, 1, 2, 3] rfl ?_
    exact jX7_multiplyRows_B35 C h0 a_s_rows a_s_course a_s_course_cells a_s_course_notes x1 x2 x3 (1 : Int32) s0 s_rows s_course_boards s_course_cells s_course_notes _ _ _ _ _ hm hR
  · have hm := ite_f c_10 hm
    refine V_iconst C (v := (0 : Int32)) dX7_multiplyRows_34 (by decide) ?_
    refine V_lv [0, 1, 2, 3] rfl ?_
    exact jX7_multiplyRows_B35 C h0 a_s_rows a_s_course a_s_course_cells a_s_course_notes x1 x2 x3 (0 : Int32) s0 s_rows s_course_boards s_course_cells s_course_notes _ _ _ _ _ hm hR
def fX7_multiplyRows (p0 : Int32) (p1 : Int32) (p2 : Int32) (s_rows : Nat → Int64) (s_course_boards : Int32) (s_course_cells : Nat → Int64) (s_course_notes : Nat → Int32) : Option ((Int32) × (Nat → Int64) × (Int32) × (Nat → Int64) × (Nat → Int32)) := bn3 (fX7_begin p2 s_rows s_course_boards s_course_cells s_course_notes) (fun w_1 w_2 w_3 => Option.bind (fX7_held p0 s_rows) (fun r_5 => if r_5 < (0 : Int64) then fX7_multiplyRows_B20 p0 p1 p2 (1 : Int32) s_rows w_1 w_2 w_3 else fX7_multiplyRows_B20 p0 p1 p2 (0 : Int32) s_rows w_1 w_2 w_3))
set_option maxHeartbeats 4000000 in
set_option maxRecDepth 100000 in
theorem kX7_multiplyRows {l : Launch} (h0 : Nat) (a_s_rows : Nat) (a_s_course : Nat) (a_s_course_cells : Nat) (a_s_course_notes : Nat) (s_rows : Nat → Int64) (s_course_boards : Int32) (s_course_cells : Nat → Int64) (s_course_notes : Nat → Int32) (p0 : Int32) (p1 : Int32) (p2 : Int32) (r : Int32) (o_s_rows : Nat → Int64) (o_s_course_boards : Int32) (o_s_course_cells : Nat → Int64) (o_s_course_notes : Nat → Int32) (hm : fX7_multiplyRows p0 p1 p2 s_rows s_course_boards s_course_cells s_course_notes = some (r, o_s_rows, o_s_course_boards, o_s_course_cells, o_s_course_notes)) : CtI l yX7_multiplyRows wsX7_multiplyRows ({ frames := 6, cells := 0, slots := 0, locals := 147 } : Room) [.ref h0, .int p0, .int p1, .int p2] [(h0, eO 5 [.ref a_s_rows, .ref a_s_course]), (a_s_rows, eJ 8 s_rows), (a_s_course, eO 3 [.ref a_s_course_cells, .ref a_s_course_notes, .int s_course_boards]), (a_s_course_cells, eJ 392 s_course_cells), (a_s_course_notes, eI 288 s_course_notes)] r [(h0, eO 5 [.ref a_s_rows, .ref a_s_course]), (a_s_rows, eJ 8 o_s_rows), (a_s_course, eO 3 [.ref a_s_course_cells, .ref a_s_course_notes, .int o_s_course_boards]), (a_s_course_cells, eJ 392 o_s_course_cells), (a_s_course_notes, eI 288 o_s_course_notes)] := by
  refine CtI_of (cc := cX7_multiplyRows) (maxL := 8) (ty := .int) (own := RX7) rfl (by decide) rfl (lv0 := [(0, .ref h0), (1, .int p0), (2, .int p1), (3, .int p2)]) rfl (Nat.le_of_ble_eq_true rfl) (fun Γ hL C hR => ?_)
  subst hL
  unfold fX7_multiplyRows at hm
  refine V_aload_n C 0 dX7_multiplyRows_0 rfl rfl ?_
  refine V_iload_n C 3 dX7_multiplyRows_1 rfl rfl ?_
  obtain ⟨w_1, w_2, w_3, hc_4, hm⟩ := bd3 hm
  refine V_callVV C (As := [.int p2]) (wr := []) (ws2 := [(h0, eO 5 [.ref a_s_rows, .ref a_s_course]), (a_s_rows, eJ 8 s_rows), (a_s_course, eO 3 [.ref a_s_course_cells, .ref a_s_course_notes, .int w_1]), (a_s_course_cells, eJ 392 w_2), (a_s_course_notes, eI 288 w_3)]) (kX7_begin h0 a_s_rows a_s_course a_s_course_cells a_s_course_notes s_rows s_course_boards s_course_cells s_course_notes p2 w_1 w_2 w_3 hc_4) gX7_multiplyRows_X7_begin rfl ⟨rfl, rfl⟩ hdX7_begin ⟨Nat.le_of_ble_eq_true rfl, Nat.le_of_ble_eq_true rfl⟩ ⟨Nat.zero_le _, Nat.zero_le _⟩ 0 rfl rfl [0, 1, 2, 3, 4] [] [0, 1, 2, 3, 4] rfl rfl ⟨rfl, rfl, rfl⟩ (by decide) rfl rfl (Nat.le_of_ble_eq_true rfl) dX7_multiplyRows_2 ?_
  refine V_aload_n C 0 dX7_multiplyRows_5 rfl rfl ?_
  refine V_iload_n C 1 dX7_multiplyRows_6 rfl rfl ?_
  obtain ⟨r_5, hc_6, hm⟩ := bnd hm
  refine V_callVL C (As := [.int p0]) (wr := []) (ws2 := [(h0, eO 5 [.ref a_s_rows, .ref a_s_course]), (a_s_rows, eJ 8 s_rows), (a_s_course, eO 3 [.ref a_s_course_cells, .ref a_s_course_notes, .int w_1]), (a_s_course_cells, eJ 392 w_2), (a_s_course_notes, eI 288 w_3)]) (kX7_held h0 a_s_rows a_s_course a_s_course_cells a_s_course_notes s_rows w_1 w_2 w_3 p0 r_5 hc_6) gX7_multiplyRows_X7_held rfl ⟨rfl, rfl⟩ hdX7_held ⟨Nat.le_of_ble_eq_true rfl, Nat.le_of_ble_eq_true rfl⟩ ⟨Nat.zero_le _, Nat.zero_le _⟩ 0 rfl rfl [0, 1, 2, 3, 4] [] [0, 1, 2, 3, 4] rfl rfl ⟨rfl, rfl, rfl⟩ (by decide) rfl rfl (Nat.le_of_ble_eq_true rfl) dX7_multiplyRows_7 ?_
  refine V_lconst C (v := (0 : Int64)) dX7_multiplyRows_10 (by decide) ?_
  refine V_lcmp_ge C 19 dX7_multiplyRows_11 dX7_multiplyRows_12 (by decide) (fun c_7 => ?_) (fun c_7 => ?_)
  · have hm := ite_t c_7 hm
    refine V_iconst C (v := (1 : Int32)) dX7_multiplyRows_15 (by decide) ?_
    refine V_goto C 20 dX7_multiplyRows_16 (by decide) ?_
    refine V_lv [0, 1, 2, 3] rfl ?_
    exact jX7_multiplyRows_B20 C h0 a_s_rows a_s_course a_s_course_cells a_s_course_notes p0 p1 p2 (1 : Int32) s_rows w_1 w_2 w_3 _ _ _ _ _ hm hR
  · have hm := ite_f c_7 hm
    refine V_iconst C (v := (0 : Int32)) dX7_multiplyRows_19 (by decide) ?_
    refine V_lv [0, 1, 2, 3] rfl ?_
    exact jX7_multiplyRows_B20 C h0 a_s_rows a_s_course a_s_course_cells a_s_course_notes p0 p1 p2 (0 : Int32) s_rows w_1 w_2 w_3 _ _ _ _ _ hm hR
theorem hdX7_multiplyRows : yX7_multiplyRows.cls = RX7 ∧ yX7_multiplyRows.cls ≠ "java/lang/invoke/MethodHandle" ∧ yX7_multiplyRows.cls ≠ "java/lang/invoke/VarHandle" ∧ (parseMethodDescriptor yX7_multiplyRows.desc).map (fun d => d.parameters.length) = some 3 := by decide +kernel
-- RodBoard$Working.quotientDigit(JJI)I
def fX7_quotientDigit (p0 : Int64) (p1 : Int64) (p2 : Int32) : Option ((Int32)) := Option.bind (fX5_tenTo p2) (fun r_1 => if r_1 = (0 : Int64) then some (0 : Int32) else if p1 = (0 : Int64) then some (0 : Int32) else Option.bind (dvJ p0 r_1) (fun v_5 => Option.bind (dvJ v_5 p1) (fun v_6 => some v_6.toInt32)))
set_option maxHeartbeats 4000000 in
set_option maxRecDepth 100000 in
theorem kX7_quotientDigit {l : Launch} (p0 : Int64) (p1 : Int64) (p2 : Int32) (r : Int32) (hm : fX7_quotientDigit p0 p1 p2 = some r) : CtI l yX7_quotientDigit wsX7_quotientDigit ({ frames := 1, cells := 0, slots := 0, locals := 20 } : Room) [.long p0, .long p1, .int p2] [] r [] := by
  refine CtI_of (cc := cX7_quotientDigit) (maxL := 7) (ty := .int) (own := RX7) rfl (by decide) rfl (lv0 := [(0, .long p0), (2, .long p1), (4, .int p2)]) rfl (Nat.le_of_ble_eq_true rfl) (fun Γ hL C hR => ?_)
  subst hL
  unfold fX7_quotientDigit at hm
  refine V_iload C 2 dX7_quotientDigit_0 rfl ?_
  obtain ⟨r_1, hc_2, hm⟩ := bnd hm
  refine V_callSL C (As := [.int p2]) (wr := []) (ws2 := []) (kX5_tenTo p2 r_1 hc_2) gX7_quotientDigit_X5_tenTo rfl ⟨rfl, rfl⟩ hdX5_tenTo ⟨Nat.le_of_ble_eq_true rfl, Nat.le_of_ble_eq_true rfl⟩ ⟨Nat.zero_le _, Nat.zero_le _⟩ [] [] [] rfl rfl ⟨rfl, rfl, rfl⟩ (by decide) rfl rfl (Nat.le_of_ble_eq_true rfl) dX7_quotientDigit_2 ?_
  refine V_lstore C (lv' := [(5, .long r_1), (0, .long p0), (2, .long p1), (4, .int p2)]) dX7_quotientDigit_5 (by decide) rfl ?_
  refine V_lload C 0 dX7_quotientDigit_7 rfl ?_
  refine V_lconst C (v := (0 : Int64)) dX7_quotientDigit_9 (by decide) ?_
  refine V_lcmp_eq C 20 dX7_quotientDigit_10 dX7_quotientDigit_11 (by decide) (fun c_3 => ?_) (fun c_3 => ?_)
  · have hm := ite_t c_3 hm
    refine V_iconst C (v := (0 : Int32)) dX7_quotientDigit_20 (by decide) ?_
    refine V_goto C 31 dX7_quotientDigit_21 (by decide) ?_
    cases hm
    exact hR _ _ rfl dX7_quotientDigit_31
  · have hm := ite_f c_3 hm
    refine V_lload_n C 2 dX7_quotientDigit_14 rfl rfl ?_
    refine V_lconst C (v := (0 : Int64)) dX7_quotientDigit_15 (by decide) ?_
    refine V_lcmp_ne C 24 dX7_quotientDigit_16 dX7_quotientDigit_17 (by decide) (fun c_4 => ?_) (fun c_4 => ?_)
    · have hm := ite_t c_4 hm
      refine V_iconst C (v := (0 : Int32)) dX7_quotientDigit_20 (by decide) ?_
      refine V_goto C 31 dX7_quotientDigit_21 (by decide) ?_
      cases hm
      exact hR _ _ rfl dX7_quotientDigit_31
    · have hm := ite_f c_4 hm
      refine V_lload_n C 1 dX7_quotientDigit_24 rfl rfl ?_
      refine V_lload C 0 dX7_quotientDigit_25 rfl ?_
      obtain ⟨v_5, hv_5, hm⟩ := bnd hm
      refine V_ldiv C hv_5 dX7_quotientDigit_27 ?_
      refine V_lload_n C 2 dX7_quotientDigit_28 rfl rfl ?_
      obtain ⟨v_6, hv_6, hm⟩ := bnd hm
      refine V_ldiv C hv_6 dX7_quotientDigit_29 ?_
      refine V_l2i C dX7_quotientDigit_30 ?_
      cases hm
      exact hR _ _ rfl dX7_quotientDigit_31
theorem hdX7_quotientDigit : yX7_quotientDigit.cls ≠ "java/lang/invoke/MethodHandle" ∧ yX7_quotientDigit.cls ≠ "java/lang/invoke/VarHandle" ∧ (parseMethodDescriptor yX7_quotientDigit.desc).map (fun d => d.parameters.length) = some 3 := by decide +kernel
-- RodBoard$Working.partRows(III)I
theorem uX7_partRows_X7 : ∀ w ∈ wsX70, w ∈ wsX7_partRows := fun _ h => List.mem_cons_of_mem _ (List.mem_append_left _ (List.mem_append_right _ h))
theorem mX7_partRows_1 : Cond.fieldLink RX7 18 "RodBoard$Working" "course" "LRodBoard$Course;" ∈ wsX7_partRows := List.mem_of_getElem? (i := 1) rfl
def fX7_partRows_L9b (x1 : Int32) (x2 : Int32) (x3 : Int32) (s_rows : Nat → Int64) (x4 : Int32) (s_course_boards : Int32) (s_course_cells : Nat → Int64) (s_course_notes : Nat → Int32) : Option (((Int32) × (Int32) × (Nat → Int64) × (Nat → Int32)) ⊕ ((Int32) × (Nat → Int64) × (Nat → Int32))) := if x4 < (0 : Int32) then some (Sum.inr (s_course_boards, s_course_cells, s_course_notes)) else Option.bind (fX7_latest x1 s_course_boards s_course_cells) (fun r_6 => Option.bind (fX7_held x2 s_rows) (fun r_8 => Option.bind (fX7_quotientDigit r_6 r_8 x4) (fun r_10 => if r_10 = (0 : Int32) then some (Sum.inl (x4 + (-1 : Int32), s_course_boards, s_course_cells, s_course_notes)) else bn3 (fX3_go (2 : Int32) x1 x4 r_10 x2 x3 s_course_boards s_course_cells s_course_notes) (fun w_13 w_14 w_15 => some (Sum.inl (x4 + (-1 : Int32), w_13, w_14, w_15))))))
def fX7_partRows_L9 (x1 : Int32) (x2 : Int32) (x3 : Int32) (s_rows : Nat → Int64) : ((Int32) × (Int32) × (Nat → Int64) × (Nat → Int32)) → Option (((Int32) × (Int32) × (Nat → Int64) × (Nat → Int32)) ⊕ ((Int32) × (Nat → Int64) × (Nat → Int32))) := fun e => fX7_partRows_L9b x1 x2 x3 s_rows e.1 e.2.1 e.2.2.1 e.2.2.2
set_option maxHeartbeats 4000000 in
set_option maxRecDepth 100000 in
theorem bX7_partRows_L9 {Γ : KT} (C : CX Γ cX7_partRows 6 wsX7_partRows RX7 ({ frames := 6, cells := 0, slots := 0, locals := 147 } : Room)) (h0 : Nat) (a_s_rows : Nat) (a_s_course : Nat) (a_s_course_cells : Nat) (a_s_course_notes : Nat) (x1 : Int32) (x2 : Int32) (x3 : Int32) (s_rows : Nat → Int64) (x4 : Int32) (s_course_boards : Int32) (s_course_cells : Nat → Int64) (s_course_notes : Nat → Int32) (x : ((Int32) × (Int32) × (Nat → Int64) × (Nat → Int32)) ⊕ ((Int32) × (Nat → Int64) × (Nat → Int32))) (hm : fX7_partRows_L9b x1 x2 x3 s_rows x4 s_course_boards s_course_cells s_course_notes = some x) (hb : (∀ (x4' : Int32) (s_course_boards' : Int32) (s_course_cells' : Nat → Int64) (s_course_notes' : Nat → Int32), x = Sum.inl (x4', s_course_boards', s_course_cells', s_course_notes') → V Γ 6 0 0 9 [(0, .ref h0), (1, .int x1), (2, .int x2), (3, .int x3), (4, .int x4')] [] [(h0, eO 5 [.ref a_s_rows, .ref a_s_course]), (a_s_rows, eJ 8 s_rows), (a_s_course, eO 3 [.ref a_s_course_cells, .ref a_s_course_notes, .int s_course_boards']), (a_s_course_cells, eJ 392 s_course_cells'), (a_s_course_notes, eI 288 s_course_notes')])) (he0 : (∀ (s_course_boards' : Int32) (s_course_cells' : Nat → Int64) (s_course_notes' : Nat → Int32), x = Sum.inr (s_course_boards', s_course_cells', s_course_notes') → V Γ 6 0 0 57 [(0, .ref h0)] [] [(h0, eO 5 [.ref a_s_rows, .ref a_s_course]), (a_s_rows, eJ 8 s_rows), (a_s_course, eO 3 [.ref a_s_course_cells, .ref a_s_course_notes, .int s_course_boards']), (a_s_course_cells, eJ 392 s_course_cells'), (a_s_course_notes, eI 288 s_course_notes')])) : V Γ 6 0 0 9 [(0, .ref h0), (1, .int x1), (2, .int x2), (3, .int x3), (4, .int x4)] [] [(h0, eO 5 [.ref a_s_rows, .ref a_s_course]), (a_s_rows, eJ 8 s_rows), (a_s_course, eO 3 [.ref a_s_course_cells, .ref a_s_course_notes, .int s_course_boards]), (a_s_course_cells, eJ 392 s_course_cells), (a_s_course_notes, eI 288 s_course_notes)] := by
  unfold fX7_partRows_L9b at hm
  refine V_iload C 4 dX7_partRows_9 rfl ?_
  refine V_if_lt C 57 dX7_partRows_11 (by decide) (fun c_5 => ?_) (fun c_5 => ?_)
  · have hm := ite_t c_5 hm
    refine V_lv [0] rfl ?_
    exact he0 s_course_boards s_course_cells s_course_notes (Option.some.inj hm).symm
  · have hm := ite_f c_5 hm
    refine V_aload_n C 0 dX7_partRows_14 rfl rfl ?_
    refine V_iload_n C 1 dX7_partRows_15 rfl rfl ?_
    obtain ⟨r_6, hc_7, hm⟩ := bnd hm
    refine V_callVL C (As := [.int x1]) (wr := []) (ws2 := [(h0, eO 5 [.ref a_s_rows, .ref a_s_course]), (a_s_rows, eJ 8 s_rows), (a_s_course, eO 3 [.ref a_s_course_cells, .ref a_s_course_notes, .int s_course_boards]), (a_s_course_cells, eJ 392 s_course_cells), (a_s_course_notes, eI 288 s_course_notes)]) (kX7_latest h0 a_s_rows a_s_course a_s_course_cells a_s_course_notes s_rows s_course_boards s_course_cells s_course_notes x1 r_6 hc_7) gX7_partRows_X7_latest rfl ⟨rfl, rfl⟩ hdX7_latest ⟨Nat.le_of_ble_eq_true rfl, Nat.le_of_ble_eq_true rfl⟩ ⟨Nat.zero_le _, Nat.zero_le _⟩ 0 rfl rfl [0, 1, 2, 3, 4] [] [0, 1, 2, 3, 4] rfl rfl ⟨rfl, rfl, rfl⟩ (by decide) rfl rfl (Nat.le_of_ble_eq_true rfl) dX7_partRows_16 ?_
    refine V_aload_n C 0 dX7_partRows_19 rfl rfl ?_
    refine V_iload_n C 2 dX7_partRows_20 rfl rfl ?_
    obtain ⟨r_8, hc_9, hm⟩ := bnd hm
    refine V_callVL C (As := [.int x2]) (wr := []) (ws2 := [(h0, eO 5 [.ref a_s_rows, .ref a_s_course]), (a_s_rows, eJ 8 s_rows), (a_s_course, eO 3 [.ref a_s_course_cells, .ref a_s_course_notes, .int s_course_boards]), (a_s_course_cells, eJ 392 s_course_cells), (a_s_course_notes, eI 288 s_course_notes)]) (kX7_held h0 a_s_rows a_s_course a_s_course_cells a_s_course_notes s_rows s_course_boards s_course_cells s_course_notes x2 r_8 hc_9) gX7_partRows_X7_held rfl ⟨rfl, rfl⟩ hdX7_held ⟨Nat.le_of_ble_eq_true rfl, Nat.le_of_ble_eq_true rfl⟩ ⟨Nat.zero_le _, Nat.zero_le _⟩ 0 rfl rfl [0, 1, 2, 3, 4] [] [0, 1, 2, 3, 4] rfl rfl ⟨rfl, rfl, rfl⟩ (by decide) rfl rfl (Nat.le_of_ble_eq_true rfl) dX7_partRows_21 ?_
    refine V_iload C 4 dX7_partRows_24 rfl ?_
    obtain ⟨r_10, hc_11, hm⟩ := bnd hm
    refine V_callSI C (As := [.long r_6, .long r_8, .int x4]) (wr := [(h0, eO 5 [.ref a_s_rows, .ref a_s_course]), (a_s_rows, eJ 8 s_rows), (a_s_course, eO 3 [.ref a_s_course_cells, .ref a_s_course_notes, .int s_course_boards]), (a_s_course_cells, eJ 392 s_course_cells), (a_s_course_notes, eI 288 s_course_notes)]) (ws2 := [(h0, eO 5 [.ref a_s_rows, .ref a_s_course]), (a_s_rows, eJ 8 s_rows), (a_s_course, eO 3 [.ref a_s_course_cells, .ref a_s_course_notes, .int s_course_boards]), (a_s_course_cells, eJ 392 s_course_cells), (a_s_course_notes, eI 288 s_course_notes)]) (kX7_quotientDigit r_6 r_8 x4 r_10 hc_11) gX7_partRows_X7_quotientDigit rfl ⟨rfl, rfl⟩ hdX7_quotientDigit ⟨Nat.le_of_ble_eq_true rfl, Nat.le_of_ble_eq_true rfl⟩ ⟨Nat.zero_le _, Nat.zero_le _⟩ [] [0, 1, 2, 3, 4] [0, 1, 2, 3, 4] rfl rfl ⟨rfl, rfl, rfl⟩ (by decide) rfl rfl (Nat.le_of_ble_eq_true rfl) dX7_partRows_26 ?_
    refine V_istore C (lv' := [(5, .int r_10), (0, .ref h0), (1, .int x1), (2, .int x2), (3, .int x3), (4, .int x4)]) dX7_partRows_29 (by decide) rfl ?_
    refine V_iload C 0 dX7_partRows_31 rfl ?_
    refine V_if_eq C 51 dX7_partRows_33 (by decide) (fun c_12 => ?_) (fun c_12 => ?_)
    · have hm := ite_t c_12 hm
      refine V_iinc C 5 (v := x4 + (-1 : Int32)) (lv' := [(4, .int (x4 + (-1 : Int32))), (5, .int r_10), (0, .ref h0), (1, .int x1), (2, .int x2), (3, .int x3)]) dX7_partRows_51 rfl rfl (by decide) rfl ?_
      refine V_goto C 9 dX7_partRows_54 (by decide) ?_
      refine V_lv [2, 3, 4, 5, 0] rfl ?_
      exact hb (x4 + (-1 : Int32)) s_course_boards s_course_cells s_course_notes (Option.some.inj hm).symm
    · have hm := ite_f c_12 hm
      refine V_aload_n C 1 dX7_partRows_36 rfl rfl ?_
      refine V_get C uX7_partRows_X7 0 1 rfl rfl (by decide) mX7_partRows_1 rfl dX7_partRows_37 ?_
      refine V_iconst C (v := (2 : Int32)) dX7_partRows_40 (by decide) ?_
      refine V_iload_n C 2 dX7_partRows_41 rfl rfl ?_
      refine V_iload C 5 dX7_partRows_42 rfl ?_
      refine V_iload C 0 dX7_partRows_44 rfl ?_
      refine V_iload_n C 3 dX7_partRows_46 rfl rfl ?_
      refine V_iload_n C 4 dX7_partRows_47 rfl rfl ?_
      obtain ⟨w_13, w_14, w_15, hc_16, hm⟩ := bd3 hm
      refine V_callVV C (As := [.int (2 : Int32), .int x1, .int x4, .int r_10, .int x2, .int x3]) (wr := [(h0, eO 5 [.ref a_s_rows, .ref a_s_course]), (a_s_rows, eJ 8 s_rows)]) (ws2 := [(h0, eO 5 [.ref a_s_rows, .ref a_s_course]), (a_s_rows, eJ 8 s_rows), (a_s_course, eO 3 [.ref a_s_course_cells, .ref a_s_course_notes, .int w_13]), (a_s_course_cells, eJ 392 w_14), (a_s_course_notes, eI 288 w_15)]) (kX3_go a_s_course a_s_course_cells a_s_course_notes s_course_boards s_course_cells s_course_notes (2 : Int32) x1 x4 r_10 x2 x3 w_13 w_14 w_15 hc_16) gX7_partRows_X3_go rfl ⟨rfl, rfl⟩ hdX3_go ⟨Nat.le_of_ble_eq_true rfl, Nat.le_of_ble_eq_true rfl⟩ ⟨Nat.zero_le _, Nat.zero_le _⟩ 0 rfl rfl [2, 3, 4] [0, 1] [0, 1, 2, 3, 4] rfl rfl ⟨rfl, rfl, rfl⟩ (by decide) rfl rfl (Nat.le_of_ble_eq_true rfl) dX7_partRows_48 ?_
      refine V_iinc C 5 (v := x4 + (-1 : Int32)) (lv' := [(4, .int (x4 + (-1 : Int32))), (5, .int r_10), (0, .ref h0), (1, .int x1), (2, .int x2), (3, .int x3)]) dX7_partRows_51 rfl rfl (by decide) rfl ?_
      refine V_goto C 9 dX7_partRows_54 (by decide) ?_
      refine V_lv [2, 3, 4, 5, 0] rfl ?_
      exact hb (x4 + (-1 : Int32)) w_13 w_14 w_15 (Option.some.inj hm).symm
theorem lX7_partRows_L9 {Γ : KT} (C : CX Γ cX7_partRows 6 wsX7_partRows RX7 ({ frames := 6, cells := 0, slots := 0, locals := 147 } : Room)) (h0 : Nat) (a_s_rows : Nat) (a_s_course : Nat) (a_s_course_cells : Nat) (a_s_course_notes : Nat) (x1 : Int32) (x2 : Int32) (x3 : Int32) (s_rows : Nat → Int64) (x4 : Int32) (s_course_boards : Int32) (s_course_cells : Nat → Int64) (s_course_notes : Nat → Int32) (N : Nat) (e : (Int32) × (Nat → Int64) × (Nat → Int32)) (hN : itr (fX7_partRows_L9 x1 x2 x3 s_rows) N (x4, s_course_boards, s_course_cells, s_course_notes) = some e) (he0 : (∀ (s_course_boards' : Int32) (s_course_cells' : Nat → Int64) (s_course_notes' : Nat → Int32), e = (s_course_boards', s_course_cells', s_course_notes') → V Γ 6 0 0 57 [(0, .ref h0)] [] [(h0, eO 5 [.ref a_s_rows, .ref a_s_course]), (a_s_rows, eJ 8 s_rows), (a_s_course, eO 3 [.ref a_s_course_cells, .ref a_s_course_notes, .int s_course_boards']), (a_s_course_cells, eJ 392 s_course_cells'), (a_s_course_notes, eI 288 s_course_notes')])) : V Γ 6 0 0 9 [(0, .ref h0), (1, .int x1), (2, .int x2), (3, .int x3), (4, .int x4)] [] [(h0, eO 5 [.ref a_s_rows, .ref a_s_course]), (a_s_rows, eJ 8 s_rows), (a_s_course, eO 3 [.ref a_s_course_cells, .ref a_s_course_notes, .int s_course_boards]), (a_s_course_cells, eJ 392 s_course_cells), (a_s_course_notes, eI 288 s_course_notes)] := by
  induction N generalizing x4 s_course_boards s_course_cells s_course_notes with
  | zero => exact absurd hN (fun h => itr_0 h)
  | succ N ih =>
    obtain ⟨x, hx, hN⟩ := itr_s hN
    refine bX7_partRows_L9 C h0 a_s_rows a_s_course a_s_course_cells a_s_course_notes x1 x2 x3 s_rows x4 s_course_boards s_course_cells s_course_notes x hx (fun x4' s_course_boards' s_course_cells' s_course_notes' h => ih x4' s_course_boards' s_course_cells' s_course_notes' (by subst h; exact hN)) (fun y0 y1 y2 h => he0 y0 y1 y2 (by subst h; exact (Option.some.inj hN).symm))
def fX7_partRows (p0 : Int32) (p1 : Int32) (p2 : Int32) (s_rows : Nat → Int64) (s_course_boards : Int32) (s_course_cells : Nat → Int64) (s_course_notes : Nat → Int32) : Option ((Int32) × (Nat → Int64) × (Int32) × (Nat → Int64) × (Nat → Int32)) := bn3 (fX7_begin p2 s_rows s_course_boards s_course_cells s_course_notes) (fun w_1 w_2 w_3 => bn3 (itr (fX7_partRows_L9 p0 p1 p2 s_rows) KF ((11 : Int32), w_1, w_2, w_3)) (fun u_19 u_20 u_21 => bn2 (fX7_end s_rows u_19 u_20) (fun r_22 w_23 => some (r_22, w_23, u_19, u_20, u_21))))
set_option maxHeartbeats 4000000 in
set_option maxRecDepth 100000 in
theorem kX7_partRows {l : Launch} (h0 : Nat) (a_s_rows : Nat) (a_s_course : Nat) (a_s_course_cells : Nat) (a_s_course_notes : Nat) (s_rows : Nat → Int64) (s_course_boards : Int32) (s_course_cells : Nat → Int64) (s_course_notes : Nat → Int32) (p0 : Int32) (p1 : Int32) (p2 : Int32) (r : Int32) (o_s_rows : Nat → Int64) (o_s_course_boards : Int32) (o_s_course_cells : Nat → Int64) (o_s_course_notes : Nat → Int32) (hm : fX7_partRows p0 p1 p2 s_rows s_course_boards s_course_cells s_course_notes = some (r, o_s_rows, o_s_course_boards, o_s_course_cells, o_s_course_notes)) : CtI l yX7_partRows wsX7_partRows ({ frames := 6, cells := 0, slots := 0, locals := 147 } : Room) [.ref h0, .int p0, .int p1, .int p2] [(h0, eO 5 [.ref a_s_rows, .ref a_s_course]), (a_s_rows, eJ 8 s_rows), (a_s_course, eO 3 [.ref a_s_course_cells, .ref a_s_course_notes, .int s_course_boards]), (a_s_course_cells, eJ 392 s_course_cells), (a_s_course_notes, eI 288 s_course_notes)] r [(h0, eO 5 [.ref a_s_rows, .ref a_s_course]), (a_s_rows, eJ 8 o_s_rows), (a_s_course, eO 3 [.ref a_s_course_cells, .ref a_s_course_notes, .int o_s_course_boards]), (a_s_course_cells, eJ 392 o_s_course_cells), (a_s_course_notes, eI 288 o_s_course_notes)] := by
  refine CtI_of (cc := cX7_partRows) (maxL := 6) (ty := .int) (own := RX7) rfl (by decide) rfl (lv0 := [(0, .ref h0), (1, .int p0), (2, .int p1), (3, .int p2)]) rfl (Nat.le_of_ble_eq_true rfl) (fun Γ hL C hR => ?_)
  subst hL
  unfold fX7_partRows at hm
  refine V_aload_n C 0 dX7_partRows_0 rfl rfl ?_
  refine V_iload_n C 3 dX7_partRows_1 rfl rfl ?_
  obtain ⟨w_1, w_2, w_3, hc_4, hm⟩ := bd3 hm
  refine V_callVV C (As := [.int p2]) (wr := []) (ws2 := [(h0, eO 5 [.ref a_s_rows, .ref a_s_course]), (a_s_rows, eJ 8 s_rows), (a_s_course, eO 3 [.ref a_s_course_cells, .ref a_s_course_notes, .int w_1]), (a_s_course_cells, eJ 392 w_2), (a_s_course_notes, eI 288 w_3)]) (kX7_begin h0 a_s_rows a_s_course a_s_course_cells a_s_course_notes s_rows s_course_boards s_course_cells s_course_notes p2 w_1 w_2 w_3 hc_4) gX7_partRows_X7_begin rfl ⟨rfl, rfl⟩ hdX7_begin ⟨Nat.le_of_ble_eq_true rfl, Nat.le_of_ble_eq_true rfl⟩ ⟨Nat.zero_le _, Nat.zero_le _⟩ 0 rfl rfl [0, 1, 2, 3, 4] [] [0, 1, 2, 3, 4] rfl rfl ⟨rfl, rfl, rfl⟩ (by decide) rfl rfl (Nat.le_of_ble_eq_true rfl) dX7_partRows_2 ?_
  refine V_bipush C (v := (11 : Int32)) dX7_partRows_5 (by decide) ?_
  refine V_istore C (lv' := [(4, .int (11 : Int32)), (0, .ref h0), (1, .int p0), (2, .int p1), (3, .int p2)]) dX7_partRows_7 (by decide) rfl ?_
  obtain ⟨u_19, u_20, u_21, hE_18, hm⟩ := bd3 hm
  refine V_lv [1, 2, 3, 4, 0] rfl ?_
  refine lX7_partRows_L9 C h0 a_s_rows a_s_course a_s_course_cells a_s_course_notes p0 p1 p2 s_rows (11 : Int32) w_1 w_2 w_3 KF _ hE_18 ?_
  intro q_25 q_26 q_27 hq
  cases hq
  refine V_aload_n C 0 dX7_partRows_57 rfl rfl ?_
  obtain ⟨r_22, w_23, hc_24, hm⟩ := bd2 hm
  refine V_callVI C (As := []) (wr := []) (ws2 := [(h0, eO 5 [.ref a_s_rows, .ref a_s_course]), (a_s_rows, eJ 8 w_23), (a_s_course, eO 3 [.ref a_s_course_cells, .ref a_s_course_notes, .int u_19]), (a_s_course_cells, eJ 392 u_20), (a_s_course_notes, eI 288 u_21)]) (kX7_end h0 a_s_rows a_s_course a_s_course_cells a_s_course_notes s_rows u_19 u_20 u_21 r_22 w_23 hc_24) gX7_partRows_X7_end rfl ⟨rfl, rfl⟩ hdX7_end ⟨Nat.le_of_ble_eq_true rfl, Nat.le_of_ble_eq_true rfl⟩ ⟨Nat.zero_le _, Nat.zero_le _⟩ 0 rfl rfl [0, 1, 2, 3, 4] [] [0, 1, 2, 3, 4] rfl rfl ⟨rfl, rfl, rfl⟩ (by decide) rfl rfl (Nat.le_of_ble_eq_true rfl) dX7_partRows_58 ?_
  cases hm
  exact hR _ _ rfl dX7_partRows_61
theorem hdX7_partRows : yX7_partRows.cls = RX7 ∧ yX7_partRows.cls ≠ "java/lang/invoke/MethodHandle" ∧ yX7_partRows.cls ≠ "java/lang/invoke/VarHandle" ∧ (parseMethodDescriptor yX7_partRows.desc).map (fun d => d.parameters.length) = some 3 := by decide +kernel
-- RodBoard$Working.rootDigit(JJII)I
theorem mX7_rootDigit_1 : Cond.constantLong RX7 69 (-1000000000000000) ∈ wsX7_rootDigit := List.mem_of_getElem? (i := 1) rfl
def fX7_rootDigit_L4b (x0 : Int64) (x2 : Int64) (x4 : Int32) (x5 : Int32) (x6 : Int32) : Option (((Int32)) ⊕ ((Unit) ⊕ ((Int32)))) := if (0 : Int32) < x6 then Option.bind (fX5_tenTo x4) (fun r_2 => Option.bind (fX5_power (x2 + (x6.toInt64 * r_2)) x5) (fun r_4 => if r_4 = (-1000000000000000 : Int64) then some (Sum.inl (x6 + (-1 : Int32))) else if x0 < r_4 then some (Sum.inl (x6 + (-1 : Int32))) else some (Sum.inr (Sum.inr x6)))) else some (Sum.inr (Sum.inl ()))
def fX7_rootDigit_L4 (x0 : Int64) (x2 : Int64) (x4 : Int32) (x5 : Int32) : ((Int32)) → Option (((Int32)) ⊕ ((Unit) ⊕ ((Int32)))) := fun e => fX7_rootDigit_L4b x0 x2 x4 x5 e
set_option maxHeartbeats 4000000 in
set_option maxRecDepth 100000 in
theorem bX7_rootDigit_L4 {Γ : KT} (C : CX Γ cX7_rootDigit 9 wsX7_rootDigit RX7 ({ frames := 1, cells := 0, slots := 0, locals := 24 } : Room)) (x0 : Int64) (x2 : Int64) (x4 : Int32) (x5 : Int32) (x6 : Int32) (x : ((Int32)) ⊕ ((Unit) ⊕ ((Int32)))) (hm : fX7_rootDigit_L4b x0 x2 x4 x5 x6 = some x) (hb : (∀ (x6' : Int32), x = Sum.inl x6' → V Γ 9 0 0 4 [(0, .long x0), (2, .long x2), (4, .int x4), (5, .int x5), (6, .int x6')] [] [])) (he0 : (∀ (_ : Unit), x = Sum.inr (Sum.inl ()) → V Γ 9 0 0 52 [] [] [])) (her : (∀ (r' : Int32), x = Sum.inr (Sum.inr r') → (∀ (pc : Nat) (lv : List (Nat × Value)), narrow .int (.int r') = .int r' → decode cX7_rootDigit pc = .ok (.ireturn, 1) → V Γ 9 0 0 pc lv [.int r'] []))) : V Γ 9 0 0 4 [(0, .long x0), (2, .long x2), (4, .int x4), (5, .int x5), (6, .int x6)] [] [] := by
  unfold fX7_rootDigit_L4b at hm
  refine V_iload C 4 dX7_rootDigit_4 rfl ?_
  refine V_if_le C 52 dX7_rootDigit_6 (by decide) (fun c_1 => ?_) (fun c_1 => ?_)
  · have hm := ite_t c_1 hm
    refine V_lload_n C 1 dX7_rootDigit_9 rfl rfl ?_
    refine V_iload C 4 dX7_rootDigit_10 rfl ?_
    refine V_i2l C dX7_rootDigit_12 ?_
    refine V_iload C 2 dX7_rootDigit_13 rfl ?_
    obtain ⟨r_2, hc_3, hm⟩ := bnd hm
    refine V_callSL C (As := [.int x4]) (wr := []) (ws2 := []) (kX5_tenTo x4 r_2 hc_3) gX7_rootDigit_X5_tenTo rfl ⟨rfl, rfl⟩ hdX5_tenTo ⟨Nat.le_of_ble_eq_true rfl, Nat.le_of_ble_eq_true rfl⟩ ⟨Nat.zero_le _, Nat.zero_le _⟩ [] [] [] rfl rfl ⟨rfl, rfl, rfl⟩ (by decide) rfl rfl (Nat.le_of_ble_eq_true rfl) dX7_rootDigit_15 ?_
    refine V_lmul C dX7_rootDigit_18 ?_
    refine V_ladd C dX7_rootDigit_19 ?_
    refine V_iload C 3 dX7_rootDigit_20 rfl ?_
    obtain ⟨r_4, hc_5, hm⟩ := bnd hm
    refine V_callSL C (As := [.long (x2 + (x6.toInt64 * r_2)), .int x5]) (wr := []) (ws2 := []) (kX5_power (x2 + (x6.toInt64 * r_2)) x5 r_4 hc_5) gX7_rootDigit_X5_power rfl ⟨rfl, rfl⟩ hdX5_power ⟨Nat.le_of_ble_eq_true rfl, Nat.le_of_ble_eq_true rfl⟩ ⟨Nat.zero_le _, Nat.zero_le _⟩ [] [] [] rfl rfl ⟨rfl, rfl, rfl⟩ (by decide) rfl rfl (Nat.le_of_ble_eq_true rfl) dX7_rootDigit_22 ?_
    refine V_lstore C (lv' := [(7, .long r_4), (0, .long x0), (2, .long x2), (4, .int x4), (5, .int x5), (6, .int x6)]) dX7_rootDigit_25 (by decide) rfl ?_
    refine V_lload C 0 dX7_rootDigit_27 rfl ?_
    refine V_ldc2 C (v := (-1000000000000000 : Int64)) mX7_rootDigit_1 dX7_rootDigit_29 ?_
    refine V_lcmp_eq C 46 dX7_rootDigit_32 dX7_rootDigit_33 (by decide) (fun c_6 => ?_) (fun c_6 => ?_)
    · have hm := ite_t c_6 hm
      refine V_iinc C 5 (v := x6 + (-1 : Int32)) (lv' := [(6, .int (x6 + (-1 : Int32))), (7, .long r_4), (0, .long x0), (2, .long x2), (4, .int x4), (5, .int x5)]) dX7_rootDigit_46 rfl rfl (by decide) rfl ?_
      refine V_goto C 4 dX7_rootDigit_49 (by decide) ?_
      refine V_lv [2, 3, 4, 5, 0] rfl ?_
      exact hb (x6 + (-1 : Int32)) (Option.some.inj hm).symm
    · have hm := ite_f c_6 hm
      refine V_lload C 0 dX7_rootDigit_36 rfl ?_
      refine V_lload_n C 1 dX7_rootDigit_38 rfl rfl ?_
      refine V_lcmp_gt C 46 dX7_rootDigit_39 dX7_rootDigit_40 (by decide) (fun c_7 => ?_) (fun c_7 => ?_)
      · have hm := ite_t c_7 hm
        refine V_iinc C 5 (v := x6 + (-1 : Int32)) (lv' := [(6, .int (x6 + (-1 : Int32))), (7, .long r_4), (0, .long x0), (2, .long x2), (4, .int x4), (5, .int x5)]) dX7_rootDigit_46 rfl rfl (by decide) rfl ?_
        refine V_goto C 4 dX7_rootDigit_49 (by decide) ?_
        refine V_lv [2, 3, 4, 5, 0] rfl ?_
        exact hb (x6 + (-1 : Int32)) (Option.some.inj hm).symm
      · have hm := ite_f c_7 hm
        refine V_iload C 5 dX7_rootDigit_43 rfl ?_
        exact her x6 (Option.some.inj hm).symm _ _ rfl dX7_rootDigit_45
  · have hm := ite_f c_1 hm
    refine V_lv [] rfl ?_
    exact he0 () (Option.some.inj hm).symm
theorem lX7_rootDigit_L4 {Γ : KT} (C : CX Γ cX7_rootDigit 9 wsX7_rootDigit RX7 ({ frames := 1, cells := 0, slots := 0, locals := 24 } : Room)) (x0 : Int64) (x2 : Int64) (x4 : Int32) (x5 : Int32) (x6 : Int32) (N : Nat) (e : (Unit) ⊕ ((Int32))) (hN : itr (fX7_rootDigit_L4 x0 x2 x4 x5) N x6 = some e) (he0 : (∀ (_ : Unit), e = Sum.inl () → V Γ 9 0 0 52 [] [] [])) (her : (∀ (r' : Int32), e = Sum.inr r' → (∀ (pc : Nat) (lv : List (Nat × Value)), narrow .int (.int r') = .int r' → decode cX7_rootDigit pc = .ok (.ireturn, 1) → V Γ 9 0 0 pc lv [.int r'] []))) : V Γ 9 0 0 4 [(0, .long x0), (2, .long x2), (4, .int x4), (5, .int x5), (6, .int x6)] [] [] := by
  induction N generalizing x6 with
  | zero => exact absurd hN (fun h => itr_0 h)
  | succ N ih =>
    obtain ⟨x, hx, hN⟩ := itr_s hN
    refine bX7_rootDigit_L4 C x0 x2 x4 x5 x6 x hx (fun x6' h => ih x6' (by subst h; exact hN)) (fun _ h => he0 () (by subst h; exact (Option.some.inj hN).symm)) (fun y0 h => her y0 (by subst h; exact (Option.some.inj hN).symm))
def fX7_rootDigit (p0 : Int64) (p1 : Int64) (p2 : Int32) (p3 : Int32) : Option ((Int32)) := Option.bind (itr (fX7_rootDigit_L4 p0 p1 p2 p3) KF (9 : Int32)) (Sum.elim (fun (_ : Unit) => some (0 : Int32)) (fun rr_10 => some rr_10))
set_option maxHeartbeats 4000000 in
set_option maxRecDepth 100000 in
theorem kX7_rootDigit {l : Launch} (p0 : Int64) (p1 : Int64) (p2 : Int32) (p3 : Int32) (r : Int32) (hm : fX7_rootDigit p0 p1 p2 p3 = some r) : CtI l yX7_rootDigit wsX7_rootDigit ({ frames := 1, cells := 0, slots := 0, locals := 24 } : Room) [.long p0, .long p1, .int p2, .int p3] [] r [] := by
  refine CtI_of (cc := cX7_rootDigit) (maxL := 9) (ty := .int) (own := RX7) rfl (by decide) rfl (lv0 := [(0, .long p0), (2, .long p1), (4, .int p2), (5, .int p3)]) rfl (Nat.le_of_ble_eq_true rfl) (fun Γ hL C hR => ?_)
  subst hL
  unfold fX7_rootDigit at hm
  refine V_bipush C (v := (9 : Int32)) dX7_rootDigit_0 (by decide) ?_
  refine V_istore C (lv' := [(6, .int (9 : Int32)), (0, .long p0), (2, .long p1), (4, .int p2), (5, .int p3)]) dX7_rootDigit_2 (by decide) rfl ?_
  obtain ⟨e_8, hE_9, hm⟩ := bnd hm
  refine V_lv [1, 2, 3, 4, 0] rfl ?_
  refine lX7_rootDigit_L4 C p0 p1 p2 p3 (9 : Int32) KF _ hE_9 ?_ ?_
  · intro _ hq
    subst hq
    -- exit
    dsimp only [Sum.elim_inl, Sum.elim_inr, un2, un3, un4, un5, un6, un7, un8, un9, un10, un11] at hm
    refine V_iconst C (v := (0 : Int32)) dX7_rootDigit_52 (by decide) ?_
    cases hm
    exact hR _ _ rfl dX7_rootDigit_53
  · intro rr_10 hq
    subst hq
    dsimp only [Sum.elim_inl, Sum.elim_inr, un2, un3, un4, un5, un6, un7, un8, un9, un10, un11] at hm
    cases hm
    exact hR
theorem hdX7_rootDigit : yX7_rootDigit.cls ≠ "java/lang/invoke/MethodHandle" ∧ yX7_rootDigit.cls ≠ "java/lang/invoke/VarHandle" ∧ (parseMethodDescriptor yX7_rootDigit.desc).map (fun d => d.parameters.length) = some 4 := by decide +kernel
-- RodBoard$Working.rootRow(III)I
theorem uX7_rootRow_X7 : ∀ w ∈ wsX70, w ∈ wsX7_rootRow := fun _ h => List.mem_cons_of_mem _ (List.mem_append_left _ (List.mem_append_right _ h))
theorem mX7_rootRow_1 : Cond.fieldLink RX7 18 "RodBoard$Working" "course" "LRodBoard$Course;" ∈ wsX7_rootRow := List.mem_of_getElem? (i := 1) rfl
def fX7_rootRow_L17b (x1 : Int32) (x2 : Int32) (x3 : Int32) (s_rows : Nat → Int64) (x4 : Int32) (s_course_boards : Int32) (s_course_cells : Nat → Int64) (s_course_notes : Nat → Int32) : Option (((Int32) × (Int32) × (Nat → Int64) × (Nat → Int32)) ⊕ ((Int32) × (Nat → Int64) × (Nat → Int32))) := if x4 < (0 : Int32) then some (Sum.inr (s_course_boards, s_course_cells, s_course_notes)) else Option.bind (fX7_held x1 s_rows) (fun r_7 => Option.bind (fX7_latest x2 s_course_boards s_course_cells) (fun r_9 => Option.bind (fX7_rootDigit r_7 r_9 x4 x3) (fun r_11 => if r_11 = (0 : Int32) then some (Sum.inl (x4 + (-1 : Int32), s_course_boards, s_course_cells, s_course_notes)) else if x3 = (2 : Int32) then bn3 (fX3_go (3 : Int32) x1 x4 r_11 x2 (-6 : Int32) s_course_boards s_course_cells s_course_notes) (fun w_15 w_16 w_17 => some (Sum.inl (x4 + (-1 : Int32), w_15, w_16, w_17))) else bn3 (fX3_go (4 : Int32) x1 x4 r_11 x2 (-6 : Int32) s_course_boards s_course_cells s_course_notes) (fun w_19 w_20 w_21 => some (Sum.inl (x4 + (-1 : Int32), w_19, w_20, w_21))))))
def fX7_rootRow_L17 (x1 : Int32) (x2 : Int32) (x3 : Int32) (s_rows : Nat → Int64) : ((Int32) × (Int32) × (Nat → Int64) × (Nat → Int32)) → Option (((Int32) × (Int32) × (Nat → Int64) × (Nat → Int32)) ⊕ ((Int32) × (Nat → Int64) × (Nat → Int32))) := fun e => fX7_rootRow_L17b x1 x2 x3 s_rows e.1 e.2.1 e.2.2.1 e.2.2.2
set_option maxHeartbeats 4000000 in
set_option maxRecDepth 100000 in
theorem bX7_rootRow_L17 {Γ : KT} (C : CX Γ cX7_rootRow 6 wsX7_rootRow RX7 ({ frames := 6, cells := 0, slots := 0, locals := 147 } : Room)) (h0 : Nat) (a_s_rows : Nat) (a_s_course : Nat) (a_s_course_cells : Nat) (a_s_course_notes : Nat) (x1 : Int32) (x2 : Int32) (x3 : Int32) (s_rows : Nat → Int64) (x4 : Int32) (s_course_boards : Int32) (s_course_cells : Nat → Int64) (s_course_notes : Nat → Int32) (x : ((Int32) × (Int32) × (Nat → Int64) × (Nat → Int32)) ⊕ ((Int32) × (Nat → Int64) × (Nat → Int32))) (hm : fX7_rootRow_L17b x1 x2 x3 s_rows x4 s_course_boards s_course_cells s_course_notes = some x) (hb : (∀ (x4' : Int32) (s_course_boards' : Int32) (s_course_cells' : Nat → Int64) (s_course_notes' : Nat → Int32), x = Sum.inl (x4', s_course_boards', s_course_cells', s_course_notes') → V Γ 6 0 0 17 [(0, .ref h0), (1, .int x1), (2, .int x2), (3, .int x3), (4, .int x4')] [] [(h0, eO 5 [.ref a_s_rows, .ref a_s_course]), (a_s_rows, eJ 8 s_rows), (a_s_course, eO 3 [.ref a_s_course_cells, .ref a_s_course_notes, .int s_course_boards']), (a_s_course_cells, eJ 392 s_course_cells'), (a_s_course_notes, eI 288 s_course_notes')])) (he0 : (∀ (s_course_boards' : Int32) (s_course_cells' : Nat → Int64) (s_course_notes' : Nat → Int32), x = Sum.inr (s_course_boards', s_course_cells', s_course_notes') → V Γ 6 0 0 76 [(0, .ref h0)] [] [(h0, eO 5 [.ref a_s_rows, .ref a_s_course]), (a_s_rows, eJ 8 s_rows), (a_s_course, eO 3 [.ref a_s_course_cells, .ref a_s_course_notes, .int s_course_boards']), (a_s_course_cells, eJ 392 s_course_cells'), (a_s_course_notes, eI 288 s_course_notes')])) : V Γ 6 0 0 17 [(0, .ref h0), (1, .int x1), (2, .int x2), (3, .int x3), (4, .int x4)] [] [(h0, eO 5 [.ref a_s_rows, .ref a_s_course]), (a_s_rows, eJ 8 s_rows), (a_s_course, eO 3 [.ref a_s_course_cells, .ref a_s_course_notes, .int s_course_boards]), (a_s_course_cells, eJ 392 s_course_cells), (a_s_course_notes, eI 288 s_course_notes)] := by
  unfold fX7_rootRow_L17b at hm
  refine V_iload C 4 dX7_rootRow_17 rfl ?_
  refine V_if_lt C 76 dX7_rootRow_19 (by decide) (fun c_6 => ?_) (fun c_6 => ?_)
  · have hm := ite_t c_6 hm
    refine V_lv [0] rfl ?_
    exact he0 s_course_boards s_course_cells s_course_notes (Option.some.inj hm).symm
  · have hm := ite_f c_6 hm
    refine V_aload_n C 0 dX7_rootRow_22 rfl rfl ?_
    refine V_iload_n C 1 dX7_rootRow_23 rfl rfl ?_
    obtain ⟨r_7, hc_8, hm⟩ := bnd hm
    refine V_callVL C (As := [.int x1]) (wr := []) (ws2 := [(h0, eO 5 [.ref a_s_rows, .ref a_s_course]), (a_s_rows, eJ 8 s_rows), (a_s_course, eO 3 [.ref a_s_course_cells, .ref a_s_course_notes, .int s_course_boards]), (a_s_course_cells, eJ 392 s_course_cells), (a_s_course_notes, eI 288 s_course_notes)]) (kX7_held h0 a_s_rows a_s_course a_s_course_cells a_s_course_notes s_rows s_course_boards s_course_cells s_course_notes x1 r_7 hc_8) gX7_rootRow_X7_held rfl ⟨rfl, rfl⟩ hdX7_held ⟨Nat.le_of_ble_eq_true rfl, Nat.le_of_ble_eq_true rfl⟩ ⟨Nat.zero_le _, Nat.zero_le _⟩ 0 rfl rfl [0, 1, 2, 3, 4] [] [0, 1, 2, 3, 4] rfl rfl ⟨rfl, rfl, rfl⟩ (by decide) rfl rfl (Nat.le_of_ble_eq_true rfl) dX7_rootRow_24 ?_
    refine V_aload_n C 0 dX7_rootRow_27 rfl rfl ?_
    refine V_iload_n C 2 dX7_rootRow_28 rfl rfl ?_
    obtain ⟨r_9, hc_10, hm⟩ := bnd hm
    refine V_callVL C (As := [.int x2]) (wr := []) (ws2 := [(h0, eO 5 [.ref a_s_rows, .ref a_s_course]), (a_s_rows, eJ 8 s_rows), (a_s_course, eO 3 [.ref a_s_course_cells, .ref a_s_course_notes, .int s_course_boards]), (a_s_course_cells, eJ 392 s_course_cells), (a_s_course_notes, eI 288 s_course_notes)]) (kX7_latest h0 a_s_rows a_s_course a_s_course_cells a_s_course_notes s_rows s_course_boards s_course_cells s_course_notes x2 r_9 hc_10) gX7_rootRow_X7_latest rfl ⟨rfl, rfl⟩ hdX7_latest ⟨Nat.le_of_ble_eq_true rfl, Nat.le_of_ble_eq_true rfl⟩ ⟨Nat.zero_le _, Nat.zero_le _⟩ 0 rfl rfl [0, 1, 2, 3, 4] [] [0, 1, 2, 3, 4] rfl rfl ⟨rfl, rfl, rfl⟩ (by decide) rfl rfl (Nat.le_of_ble_eq_true rfl) dX7_rootRow_29 ?_
    refine V_iload C 4 dX7_rootRow_32 rfl ?_
    refine V_iload_n C 3 dX7_rootRow_34 rfl rfl ?_
    obtain ⟨r_11, hc_12, hm⟩ := bnd hm
    refine V_callSI C (As := [.long r_7, .long r_9, .int x4, .int x3]) (wr := [(h0, eO 5 [.ref a_s_rows, .ref a_s_course]), (a_s_rows, eJ 8 s_rows), (a_s_course, eO 3 [.ref a_s_course_cells, .ref a_s_course_notes, .int s_course_boards]), (a_s_course_cells, eJ 392 s_course_cells), (a_s_course_notes, eI 288 s_course_notes)]) (ws2 := [(h0, eO 5 [.ref a_s_rows, .ref a_s_course]), (a_s_rows, eJ 8 s_rows), (a_s_course, eO 3 [.ref a_s_course_cells, .ref a_s_course_notes, .int s_course_boards]), (a_s_course_cells, eJ 392 s_course_cells), (a_s_course_notes, eI 288 s_course_notes)]) (kX7_rootDigit r_7 r_9 x4 x3 r_11 hc_12) gX7_rootRow_X7_rootDigit rfl ⟨rfl, rfl⟩ hdX7_rootDigit ⟨Nat.le_of_ble_eq_true rfl, Nat.le_of_ble_eq_true rfl⟩ ⟨Nat.zero_le _, Nat.zero_le _⟩ [] [0, 1, 2, 3, 4] [0, 1, 2, 3, 4] rfl rfl ⟨rfl, rfl, rfl⟩ (by decide) rfl rfl (Nat.le_of_ble_eq_true rfl) dX7_rootRow_35 ?_
    refine V_istore C (lv' := [(5, .int r_11), (0, .ref h0), (1, .int x1), (2, .int x2), (3, .int x3), (4, .int x4)]) dX7_rootRow_38 (by decide) rfl ?_
    refine V_iload C 0 dX7_rootRow_40 rfl ?_
    refine V_if_eq C 70 dX7_rootRow_42 (by decide) (fun c_13 => ?_) (fun c_13 => ?_)
    · have hm := ite_t c_13 hm
      refine V_iinc C 5 (v := x4 + (-1 : Int32)) (lv' := [(4, .int (x4 + (-1 : Int32))), (5, .int r_11), (0, .ref h0), (1, .int x1), (2, .int x2), (3, .int x3)]) dX7_rootRow_70 rfl rfl (by decide) rfl ?_
      refine V_goto C 17 dX7_rootRow_73 (by decide) ?_
      refine V_lv [2, 3, 4, 5, 0] rfl ?_
      exact hb (x4 + (-1 : Int32)) s_course_boards s_course_cells s_course_notes (Option.some.inj hm).symm
    · have hm := ite_f c_13 hm
      refine V_aload_n C 1 dX7_rootRow_45 rfl rfl ?_
      refine V_get C uX7_rootRow_X7 0 1 rfl rfl (by decide) mX7_rootRow_1 rfl dX7_rootRow_46 ?_
      refine V_iload_n C 4 dX7_rootRow_49 rfl rfl ?_
      refine V_iconst C (v := (2 : Int32)) dX7_rootRow_50 (by decide) ?_
      refine V_icmp_ne C 58 dX7_rootRow_51 (by decide) (fun c_14 => ?_) (fun c_14 => ?_)
      · have hm := ite_t c_14 hm
        refine V_iconst C (v := (3 : Int32)) dX7_rootRow_54 (by decide) ?_
        refine V_goto C 59 dX7_rootRow_55 (by decide) ?_
        refine V_iload_n C 2 dX7_rootRow_59 rfl rfl ?_
        refine V_iload C 5 dX7_rootRow_60 rfl ?_
        refine V_iload C 0 dX7_rootRow_62 rfl ?_
        refine V_iload_n C 3 dX7_rootRow_64 rfl rfl ?_
        refine V_bipush C (v := (-6 : Int32)) dX7_rootRow_65 (by decide) ?_
        obtain ⟨w_15, w_16, w_17, hc_18, hm⟩ := bd3 hm
        refine V_callVV C (As := [.int (3 : Int32), .int x1, .int x4, .int r_11, .int x2, .int (-6 : Int32)]) (wr := [(h0, eO 5 [.ref a_s_rows, .ref a_s_course]), (a_s_rows, eJ 8 s_rows)]) (ws2 := [(h0, eO 5 [.ref a_s_rows, .ref a_s_course]), (a_s_rows, eJ 8 s_rows), (a_s_course, eO 3 [.ref a_s_course_cells, .ref a_s_course_notes, .int w_15]), (a_s_course_cells, eJ 392 w_16), (a_s_course_notes, eI 288 w_17)]) (kX3_go a_s_course a_s_course_cells a_s_course_notes s_course_boards s_course_cells s_course_notes (3 : Int32) x1 x4 r_11 x2 (-6 : Int32) w_15 w_16 w_17 hc_18) gX7_rootRow_X3_go rfl ⟨rfl, rfl⟩ hdX3_go ⟨Nat.le_of_ble_eq_true rfl, Nat.le_of_ble_eq_true rfl⟩ ⟨Nat.zero_le _, Nat.zero_le _⟩ 0 rfl rfl [2, 3, 4] [0, 1] [0, 1, 2, 3, 4] rfl rfl ⟨rfl, rfl, rfl⟩ (by decide) rfl rfl (Nat.le_of_ble_eq_true rfl) dX7_rootRow_67 ?_
        refine V_iinc C 5 (v := x4 + (-1 : Int32)) (lv' := [(4, .int (x4 + (-1 : Int32))), (5, .int r_11), (0, .ref h0), (1, .int x1), (2, .int x2), (3, .int x3)]) dX7_rootRow_70 rfl rfl (by decide) rfl ?_
        refine V_goto C 17 dX7_rootRow_73 (by decide) ?_
        refine V_lv [2, 3, 4, 5, 0] rfl ?_
        exact hb (x4 + (-1 : Int32)) w_15 w_16 w_17 (Option.some.inj hm).symm
      · have hm := ite_f c_14 hm
        refine V_iconst C (v := (4 : Int32)) dX7_rootRow_58 (by decide) ?_
        refine V_iload_n C 2 dX7_rootRow_59 rfl rfl ?_
        refine V_iload C 5 dX7_rootRow_60 rfl ?_
        refine V_iload C 0 dX7_rootRow_62 rfl ?_
        refine V_iload_n C 3 dX7_rootRow_64 rfl rfl ?_
        refine V_bipush C (v := (-6 : Int32)) dX7_rootRow_65 (by decide) ?_
        obtain ⟨w_19, w_20, w_21, hc_22, hm⟩ := bd3 hm
        refine V_callVV C (As := [.int (4 : Int32), .int x1, .int x4, .int r_11, .int x2, .int (-6 : Int32)]) (wr := [(h0, eO 5 [.ref a_s_rows, .ref a_s_course]), (a_s_rows, eJ 8 s_rows)]) (ws2 := [(h0, eO 5 [.ref a_s_rows, .ref a_s_course]), (a_s_rows, eJ 8 s_rows), (a_s_course, eO 3 [.ref a_s_course_cells, .ref a_s_course_notes, .int w_19]), (a_s_course_cells, eJ 392 w_20), (a_s_course_notes, eI 288 w_21)]) (kX3_go a_s_course a_s_course_cells a_s_course_notes s_course_boards s_course_cells s_course_notes (4 : Int32) x1 x4 r_11 x2 (-6 : Int32) w_19 w_20 w_21 hc_22) gX7_rootRow_X3_go rfl ⟨rfl, rfl⟩ hdX3_go ⟨Nat.le_of_ble_eq_true rfl, Nat.le_of_ble_eq_true rfl⟩ ⟨Nat.zero_le _, Nat.zero_le _⟩ 0 rfl rfl [2, 3, 4] [0, 1] [0, 1, 2, 3, 4] rfl rfl ⟨rfl, rfl, rfl⟩ (by decide) rfl rfl (Nat.le_of_ble_eq_true rfl) dX7_rootRow_67 ?_
        refine V_iinc C 5 (v := x4 + (-1 : Int32)) (lv' := [(4, .int (x4 + (-1 : Int32))), (5, .int r_11), (0, .ref h0), (1, .int x1), (2, .int x2), (3, .int x3)]) dX7_rootRow_70 rfl rfl (by decide) rfl ?_
        refine V_goto C 17 dX7_rootRow_73 (by decide) ?_
        refine V_lv [2, 3, 4, 5, 0] rfl ?_
        exact hb (x4 + (-1 : Int32)) w_19 w_20 w_21 (Option.some.inj hm).symm
theorem lX7_rootRow_L17 {Γ : KT} (C : CX Γ cX7_rootRow 6 wsX7_rootRow RX7 ({ frames := 6, cells := 0, slots := 0, locals := 147 } : Room)) (h0 : Nat) (a_s_rows : Nat) (a_s_course : Nat) (a_s_course_cells : Nat) (a_s_course_notes : Nat) (x1 : Int32) (x2 : Int32) (x3 : Int32) (s_rows : Nat → Int64) (x4 : Int32) (s_course_boards : Int32) (s_course_cells : Nat → Int64) (s_course_notes : Nat → Int32) (N : Nat) (e : (Int32) × (Nat → Int64) × (Nat → Int32)) (hN : itr (fX7_rootRow_L17 x1 x2 x3 s_rows) N (x4, s_course_boards, s_course_cells, s_course_notes) = some e) (he0 : (∀ (s_course_boards' : Int32) (s_course_cells' : Nat → Int64) (s_course_notes' : Nat → Int32), e = (s_course_boards', s_course_cells', s_course_notes') → V Γ 6 0 0 76 [(0, .ref h0)] [] [(h0, eO 5 [.ref a_s_rows, .ref a_s_course]), (a_s_rows, eJ 8 s_rows), (a_s_course, eO 3 [.ref a_s_course_cells, .ref a_s_course_notes, .int s_course_boards']), (a_s_course_cells, eJ 392 s_course_cells'), (a_s_course_notes, eI 288 s_course_notes')])) : V Γ 6 0 0 17 [(0, .ref h0), (1, .int x1), (2, .int x2), (3, .int x3), (4, .int x4)] [] [(h0, eO 5 [.ref a_s_rows, .ref a_s_course]), (a_s_rows, eJ 8 s_rows), (a_s_course, eO 3 [.ref a_s_course_cells, .ref a_s_course_notes, .int s_course_boards]), (a_s_course_cells, eJ 392 s_course_cells), (a_s_course_notes, eI 288 s_course_notes)] := by
  induction N generalizing x4 s_course_boards s_course_cells s_course_notes with
  | zero => exact absurd hN (fun h => itr_0 h)
  | succ N ih =>
    obtain ⟨x, hx, hN⟩ := itr_s hN
    refine bX7_rootRow_L17 C h0 a_s_rows a_s_course a_s_course_cells a_s_course_notes x1 x2 x3 s_rows x4 s_course_boards s_course_cells s_course_notes x hx (fun x4' s_course_boards' s_course_cells' s_course_notes' h => ih x4' s_course_boards' s_course_cells' s_course_notes' (by subst h; exact hN)) (fun y0 y1 y2 h => he0 y0 y1 y2 (by subst h; exact (Option.some.inj hN).symm))
def fX7_rootRow_B15 (x1 : Int32) (x2 : Int32) (x3 : Int32) (s0 : Int32) (s_rows : Nat → Int64) (s_course_boards : Int32) (s_course_cells : Nat → Int64) (s_course_notes : Nat → Int32) : Option ((Int32) × (Nat → Int64) × (Int32) × (Nat → Int64) × (Nat → Int32)) := bn3 (itr (fX7_rootRow_L17 x1 x2 x3 s_rows) KF (s0, s_course_boards, s_course_cells, s_course_notes)) (fun u_25 u_26 u_27 => bn2 (fX7_end s_rows u_25 u_26) (fun r_28 w_29 => some (r_28, w_29, u_25, u_26, u_27)))
set_option maxHeartbeats 4000000 in
set_option maxRecDepth 100000 in
theorem jX7_rootRow_B15 {Γ : KT} (C : CX Γ cX7_rootRow 6 wsX7_rootRow RX7 ({ frames := 6, cells := 0, slots := 0, locals := 147 } : Room)) (h0 : Nat) (a_s_rows : Nat) (a_s_course : Nat) (a_s_course_cells : Nat) (a_s_course_notes : Nat) (x1 : Int32) (x2 : Int32) (x3 : Int32) (s0 : Int32) (s_rows : Nat → Int64) (s_course_boards : Int32) (s_course_cells : Nat → Int64) (s_course_notes : Nat → Int32) (r : Int32) (o_s_rows : Nat → Int64) (o_s_course_boards : Int32) (o_s_course_cells : Nat → Int64) (o_s_course_notes : Nat → Int32) (hm : fX7_rootRow_B15 x1 x2 x3 s0 s_rows s_course_boards s_course_cells s_course_notes = some (r, o_s_rows, o_s_course_boards, o_s_course_cells, o_s_course_notes)) (hR : (∀ (pc : Nat) (lv : List (Nat × Value)), narrow .int (.int r) = .int r → decode cX7_rootRow pc = .ok (.ireturn, 1) → V Γ 6 0 0 pc lv [.int r] [(h0, eO 5 [.ref a_s_rows, .ref a_s_course]), (a_s_rows, eJ 8 o_s_rows), (a_s_course, eO 3 [.ref a_s_course_cells, .ref a_s_course_notes, .int o_s_course_boards]), (a_s_course_cells, eJ 392 o_s_course_cells), (a_s_course_notes, eI 288 o_s_course_notes)])) : V Γ 6 0 0 15 [(0, .ref h0), (1, .int x1), (2, .int x2), (3, .int x3)] [.int s0] [(h0, eO 5 [.ref a_s_rows, .ref a_s_course]), (a_s_rows, eJ 8 s_rows), (a_s_course, eO 3 [.ref a_s_course_cells, .ref a_s_course_notes, .int s_course_boards]), (a_s_course_cells, eJ 392 s_course_cells), (a_s_course_notes, eI 288 s_course_notes)] := by
  unfold fX7_rootRow_B15 at hm
  refine V_istore C (lv' := [(4, .int s0), (0, .ref h0), (1, .int x1), (2, .int x2), (3, .int x3)]) dX7_rootRow_15 (by decide) rfl ?_
  obtain ⟨u_25, u_26, u_27, hE_24, hm⟩ := bd3 hm
  refine V_lv [1, 2, 3, 4, 0] rfl ?_
  refine lX7_rootRow_L17 C h0 a_s_rows a_s_course a_s_course_cells a_s_course_notes x1 x2 x3 s_rows s0 s_course_boards s_course_cells s_course_notes KF _ hE_24 ?_
  intro q_31 q_32 q_33 hq
  cases hq
  refine V_aload_n C 0 dX7_rootRow_76 rfl rfl ?_
  obtain ⟨r_28, w_29, hc_30, hm⟩ := bd2 hm
  refine V_callVI C (As := []) (wr := []) (ws2 := [(h0, eO 5 [.ref a_s_rows, .ref a_s_course]), (a_s_rows, eJ 8 w_29), (a_s_course, eO 3 [.ref a_s_course_cells, .ref a_s_course_notes, .int u_25]), (a_s_course_cells, eJ 392 u_26), (a_s_course_notes, eI 288 u_27)]) (kX7_end h0 a_s_rows a_s_course a_s_course_cells a_s_course_notes s_rows u_25 u_26 u_27 r_28 w_29 hc_30) gX7_rootRow_X7_end rfl ⟨rfl, rfl⟩ hdX7_end ⟨Nat.le_of_ble_eq_true rfl, Nat.le_of_ble_eq_true rfl⟩ ⟨Nat.zero_le _, Nat.zero_le _⟩ 0 rfl rfl [0, 1, 2, 3, 4] [] [0, 1, 2, 3, 4] rfl rfl ⟨rfl, rfl, rfl⟩ (by decide) rfl rfl (Nat.le_of_ble_eq_true rfl) dX7_rootRow_77 ?_
  cases hm
  exact hR _ _ rfl dX7_rootRow_80
def fX7_rootRow (p0 : Int32) (p1 : Int32) (p2 : Int32) (s_rows : Nat → Int64) (s_course_boards : Int32) (s_course_cells : Nat → Int64) (s_course_notes : Nat → Int32) : Option ((Int32) × (Nat → Int64) × (Int32) × (Nat → Int64) × (Nat → Int32)) := bn3 (fX7_begin p1 s_rows s_course_boards s_course_cells s_course_notes) (fun w_1 w_2 w_3 => if p2 = (2 : Int32) then fX7_rootRow_B15 p0 p1 p2 (5 : Int32) s_rows w_1 w_2 w_3 else fX7_rootRow_B15 p0 p1 p2 (3 : Int32) s_rows w_1 w_2 w_3)
set_option maxHeartbeats 4000000 in
set_option maxRecDepth 100000 in
theorem kX7_rootRow {l : Launch} (h0 : Nat) (a_s_rows : Nat) (a_s_course : Nat) (a_s_course_cells : Nat) (a_s_course_notes : Nat) (s_rows : Nat → Int64) (s_course_boards : Int32) (s_course_cells : Nat → Int64) (s_course_notes : Nat → Int32) (p0 : Int32) (p1 : Int32) (p2 : Int32) (r : Int32) (o_s_rows : Nat → Int64) (o_s_course_boards : Int32) (o_s_course_cells : Nat → Int64) (o_s_course_notes : Nat → Int32) (hm : fX7_rootRow p0 p1 p2 s_rows s_course_boards s_course_cells s_course_notes = some (r, o_s_rows, o_s_course_boards, o_s_course_cells, o_s_course_notes)) : CtI l yX7_rootRow wsX7_rootRow ({ frames := 6, cells := 0, slots := 0, locals := 147 } : Room) [.ref h0, .int p0, .int p1, .int p2] [(h0, eO 5 [.ref a_s_rows, .ref a_s_course]), (a_s_rows, eJ 8 s_rows), (a_s_course, eO 3 [.ref a_s_course_cells, .ref a_s_course_notes, .int s_course_boards]), (a_s_course_cells, eJ 392 s_course_cells), (a_s_course_notes, eI 288 s_course_notes)] r [(h0, eO 5 [.ref a_s_rows, .ref a_s_course]), (a_s_rows, eJ 8 o_s_rows), (a_s_course, eO 3 [.ref a_s_course_cells, .ref a_s_course_notes, .int o_s_course_boards]), (a_s_course_cells, eJ 392 o_s_course_cells), (a_s_course_notes, eI 288 o_s_course_notes)] := by
  refine CtI_of (cc := cX7_rootRow) (maxL := 6) (ty := .int) (own := RX7) rfl (by decide) rfl (lv0 := [(0, .ref h0), (1, .int p0), (2, .int p1), (3, .int p2)]) rfl (Nat.le_of_ble_eq_true rfl) (fun Γ hL C hR => ?_)
  subst hL
  unfold fX7_rootRow at hm
  refine V_aload_n C 0 dX7_rootRow_0 rfl rfl ?_
  refine V_iload_n C 2 dX7_rootRow_1 rfl rfl ?_
  obtain ⟨w_1, w_2, w_3, hc_4, hm⟩ := bd3 hm
  refine V_callVV C (As := [.int p1]) (wr := []) (ws2 := [(h0, eO 5 [.ref a_s_rows, .ref a_s_course]), (a_s_rows, eJ 8 s_rows), (a_s_course, eO 3 [.ref a_s_course_cells, .ref a_s_course_notes, .int w_1]), (a_s_course_cells, eJ 392 w_2), (a_s_course_notes, eI 288 w_3)]) (kX7_begin h0 a_s_rows a_s_course a_s_course_cells a_s_course_notes s_rows s_course_boards s_course_cells s_course_notes p1 w_1 w_2 w_3 hc_4) gX7_rootRow_X7_begin rfl ⟨rfl, rfl⟩ hdX7_begin ⟨Nat.le_of_ble_eq_true rfl, Nat.le_of_ble_eq_true rfl⟩ ⟨Nat.zero_le _, Nat.zero_le _⟩ 0 rfl rfl [0, 1, 2, 3, 4] [] [0, 1, 2, 3, 4] rfl rfl ⟨rfl, rfl, rfl⟩ (by decide) rfl rfl (Nat.le_of_ble_eq_true rfl) dX7_rootRow_2 ?_
  refine V_iload_n C 3 dX7_rootRow_5 rfl rfl ?_
  refine V_iconst C (v := (2 : Int32)) dX7_rootRow_6 (by decide) ?_
  refine V_icmp_ne C 14 dX7_rootRow_7 (by decide) (fun c_5 => ?_) (fun c_5 => ?_)
  · have hm := ite_t c_5 hm
    refine V_iconst C (v := (5 : Int32)) dX7_rootRow_10 (by decide) ?_
    refine V_goto C 15 dX7_rootRow_11 (by decide) ?_
    refine V_lv [0, 1, 2, 3] rfl ?_
    exact jX7_rootRow_B15 C h0 a_s_rows a_s_course a_s_course_cells a_s_course_notes p0 p1 p2 (5 : Int32) s_rows w_1 w_2 w_3 _ _ _ _ _ hm hR
  · have hm := ite_f c_5 hm
    refine V_iconst C (v := (3 : Int32)) dX7_rootRow_14 (by decide) ?_
    refine V_lv [0, 1, 2, 3] rfl ?_
    exact jX7_rootRow_B15 C h0 a_s_rows a_s_course a_s_course_cells a_s_course_notes p0 p1 p2 (3 : Int32) s_rows w_1 w_2 w_3 _ _ _ _ _ hm hR
theorem hdX7_rootRow : yX7_rootRow.cls = RX7 ∧ yX7_rootRow.cls ≠ "java/lang/invoke/MethodHandle" ∧ yX7_rootRow.cls ≠ "java/lang/invoke/VarHandle" ∧ (parseMethodDescriptor yX7_rootRow.desc).map (fun d => d.parameters.length) = some 3 := by decide +kernel
